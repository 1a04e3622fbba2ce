theorem bX9_flowsTo_0_5 : okB cX9_flowsTo RX9 0 [(0, 0, 0, 0, 0), (7, 3, 0, 0, 0), (0, 0, 0, 0, 0), (8, 4, 0, 0, 0)] := And.intro ⟨_, dX9_flowsTo_0, by decide⟩ (And.intro ⟨_, dX9_flowsTo_1, rfl⟩ (And.intro ⟨_, dX9_flowsTo_2, by decide⟩ (And.intro dX9_flowsTo_3 trivial)))
theorem bX9_flowsTo_5_9 : okB cX9_flowsTo RX9 5 [(4, 4, 0, 0, 0), (1, 0, 0, 0, 10)] := And.intro dX9_flowsTo_5 (And.intro ⟨_, dX9_flowsTo_7, by decide⟩ trivial)
theorem bX9_flowsTo_43_44 : okB cX9_flowsTo RX9 43 [(3, 3, 0, 0, 0)] := And.intro ⟨_, dX9_flowsTo_43, rfl⟩ trivial
theorem bX9_flowsTo_12_19 : okB cX9_flowsTo RX9 12 [(3, 2, 0, 0, 0), (4, 4, 0, 0, 0), (19, 0, 0, 0, 0), (0, 0, 0, 0, 1), (15, 0, 0, 0, 0), (0, 0, 0, 0, 1)] := And.intro ⟨_, dX9_flowsTo_12, rfl⟩ (And.intro dX9_flowsTo_13 (And.intro dX9_flowsTo_15 (And.intro ⟨_, dX9_flowsTo_16, by decide⟩ (And.intro dX9_flowsTo_17 (And.intro ⟨_, dX9_flowsTo_18, by decide⟩ trivial)))))
theorem bX9_flowsTo_37_40 : okB cX9_flowsTo RX9 37 [(11, 4, 0, 0, 1)] := And.intro ⟨_, dX9_flowsTo_37, by decide⟩ trivial
theorem bX9_flowsTo_22_34 : okB cX9_flowsTo RX9 22 [(3, 3, 0, 0, 0), (5, 0, 0, 0, 0), (23, 7, 9, 1, 0), (1, 0, 0, 0, 10), (3, 1, 0, 0, 0), (14, 0, 0, 0, 0), (4, 4, 0, 0, 0), (12, 0, 0, 0, 0)] := And.intro ⟨_, dX9_flowsTo_22, rfl⟩ (And.intro ⟨_, dX9_flowsTo_23, rfl⟩ (And.intro ⟨dX9_flowsTo_24, fl_X9_7⟩ (And.intro ⟨_, dX9_flowsTo_27, by decide⟩ (And.intro ⟨_, dX9_flowsTo_29, rfl⟩ (And.intro dX9_flowsTo_30 (And.intro dX9_flowsTo_31 (And.intro dX9_flowsTo_33 trivial)))))))
theorem bX9_flowsTo_35_40 : okB cX9_flowsTo RX9 35 [(12, 0, 0, 0, 0), (7, 3, 0, 0, 0), (11, 4, 0, 0, 1)] := And.intro dX9_flowsTo_35 (And.intro ⟨_, dX9_flowsTo_36, rfl⟩ (And.intro ⟨_, dX9_flowsTo_37, by decide⟩ trivial))
set_option maxHeartbeats 4000000 in
set_option maxRecDepth 100000 in
theorem k_X9_flowsTo (l : Launch) (D : va_G) (ads : AD) (I A : HI) (a1 : Int32) (a2 : Int32) (po : Option AV → HI → HI → Prop) (Iv5 : Int32 → Int32 → Prop) (mu5 : Int32 → Int32 → Nat)
    (hv : (Iv5 0 0 ∧ ∀ (x3_5 : Int32) (x4_5 : Int32), Iv5 x3_5 x4_5 → ((10 ≤ x4_5 → po (some (.inl x3_5)) I A) ∧ (¬ 10 ≤ x4_5 → ((¬ ((a2 >>> (x4_5 &&& 31)) &&& 1) = 1 → (Iv5 x3_5 (x4_5 + 1) ∧ mu5 x3_5 (x4_5 + 1) < mu5 x3_5 x4_5)) ∧ (((a2 >>> (x4_5 &&& 31)) &&& 1) = 1 → (vp_in ((10 * a1) + x4_5) 100 ∧ (Iv5 (x3_5 + (A 97 ((10 * a1) + x4_5).toNatClampNeg)) (x4_5 + 1) ∧ mu5 (x3_5 + (A 97 ((10 * a1) + x4_5).toNatClampNeg)) (x4_5 + 1) < mu5 x3_5 x4_5)))))))) : Ct l yX9_flowsTo cX9_flowsTo 5 (some .int) 0 0 D ads shp [.inr (some 96), .inl a1, .inl a2] I A po := by
  refine Ct_of (by decide) (Nat.le_of_ble_eq_true rfl) ?_
  intro p e s m args below meth c hC hr
  replace hC : CX p s m args meth c cX9_flowsTo 5 RX9 (AdS ads s.heap.size) := hC
  show Gm p l e s m args below meth c D ads 0 0 5 po I A 0 [some (.inr (some 96)), some (.inl a1), some (.inl a2), none, none] []
  refine g_blk hC _ bX9_flowsTo_0_5 (pc' := 5) (ls' := [some (.inr (some 96)), some (.inl a1), some (.inl a2), some (.inl 0), some (.inl 0)]) (st' := []) (I' := I) rfl rfl ?_
  obtain ⟨hi5, hb5⟩ := hv
  have L5 : ∀ (n : Nat) (x3_5 : Int32) (x4_5 : Int32), Iv5 x3_5 x4_5 → mu5 x3_5 x4_5 < n → Gm p l e s m args below meth c D ads 0 0 5 po I A 5 [some (.inr (some 96)), some (.inl a1), some (.inl a2), some (.inl x3_5), some (.inl x4_5)] [] := by
    intro n
    induction n with
    | zero => intro x3_5 x4_5 _ hn; exact absurd hn (Nat.not_lt_zero _)
    | succ n ih5 =>
      intro x3_5 x4_5 hv hn5
      replace hv := hb5 x3_5 x4_5 hv
      skip
      refine g_blk hC _ bX9_flowsTo_5_9 (pc' := 9) (ls' := [some (.inr (some 96)), some (.inl a1), some (.inl a2), some (.inl x3_5), some (.inl x4_5)]) (st' := [.inl 10, .inl x4_5]) (I' := I) rfl rfl ?_
      obtain ⟨hv1, hv2⟩ := hv
      refine g_cge hC dX9_flowsTo_9 (tgt := 43) (by decide) (fun hc => ?_) (fun hc => ?_)
      · have hv := hv1 hc
        clear hv1 hv2 hc
        refine g_blk hC _ bX9_flowsTo_43_44 (pc' := 44) (ls' := [some (.inr (some 96)), some (.inl a1), some (.inl a2), some (.inl x3_5), some (.inl x4_5)]) (st' := [.inl x3_5]) (I' := I) rfl rfl ?_
        exact g_reti hC hr rfl dX9_flowsTo_44 hv
      · have hv := hv2 hc
        clear hv1 hv2 hc
        refine g_blk hC _ bX9_flowsTo_12_19 (pc' := 19) (ls' := [some (.inr (some 96)), some (.inl a1), some (.inl a2), some (.inl x3_5), some (.inl x4_5)]) (st' := [.inl 1, .inl ((a2 >>> (x4_5 &&& 31)) &&& 1)]) (I' := I) rfl rfl ?_
        obtain ⟨hv1, hv2⟩ := hv
        refine g_cne hC dX9_flowsTo_19 (tgt := 37) (by decide) (fun hc => ?_) (fun hc => ?_)
        · have hv := hv1 hc
          clear hv1 hv2 hc
          refine g_blk hC _ bX9_flowsTo_37_40 (pc' := 40) (ls' := [some (.inr (some 96)), some (.inl a1), some (.inl a2), some (.inl x3_5), some (.inl (x4_5 + 1))]) (st' := []) (I' := I) rfl rfl ?_
          refine g_goto hC dX9_flowsTo_40 (tgt := 5) (by decide) ?_
          exact g_weak (ls1 := [some (.inr (some 96)), some (.inl a1), some (.inl a2), some (.inl x3_5), some (.inl (x4_5 + 1))]) rfl (And.intro rfl (And.intro rfl (And.intro rfl (And.intro rfl (And.intro rfl trivial))))) (ih5 x3_5 (x4_5 + 1) hv.1 (Nat.lt_of_lt_of_le hv.2 (Nat.le_of_lt_succ hn5)))
        · have hv := hv2 hc
          clear hv1 hv2 hc
          refine g_blk hC _ bX9_flowsTo_22_34 (pc' := 34) (ls' := [some (.inr (some 96)), some (.inl a1), some (.inl a2), some (.inl x3_5), some (.inl x4_5)]) (st' := [.inl ((10 * a1) + x4_5), .inr (some 97), .inl x3_5]) (I' := I) rfl rfl ?_
          obtain ⟨hi, hv⟩ := hv
          refine g_iald hC dX9_flowsTo_34 (rfl) hi ?_
          clear hi
          refine g_blk hC _ bX9_flowsTo_35_40 (pc' := 40) (ls' := [some (.inr (some 96)), some (.inl a1), some (.inl a2), some (.inl (x3_5 + (A 97 ((10 * a1) + x4_5).toNatClampNeg))), some (.inl (x4_5 + 1))]) (st' := []) (I' := I) rfl rfl ?_
          refine g_goto hC dX9_flowsTo_40 (tgt := 5) (by decide) ?_
          exact g_weak (ls1 := [some (.inr (some 96)), some (.inl a1), some (.inl a2), some (.inl (x3_5 + (A 97 ((10 * a1) + x4_5).toNatClampNeg))), some (.inl (x4_5 + 1))]) rfl (And.intro rfl (And.intro rfl (And.intro rfl (And.intro rfl (And.intro rfl trivial))))) (ih5 (x3_5 + (A 97 ((10 * a1) + x4_5).toNatClampNeg)) (x4_5 + 1) hv.1 (Nat.lt_of_lt_of_le hv.2 (Nat.le_of_lt_succ hn5)))
  exact g_weak (ls1 := [some (.inr (some 96)), some (.inl a1), some (.inl a2), some (.inl 0), some (.inl 0)]) rfl (And.intro rfl (And.intro rfl (And.intro rfl (And.intro rfl (And.intro rfl trivial))))) (L5 _ 0 0 hi5 (Nat.lt_succ_self _))
theorem bX9_find_0_2 : okB cX9_find RX9 0 [(0, 0, 0, 0, 0), (7, 3, 0, 0, 0)] := And.intro ⟨_, dX9_find_0, by decide⟩ (And.intro ⟨_, dX9_find_1, rfl⟩ trivial)
theorem bX9_find_2_12 : okB cX9_find RX9 2 [(5, 0, 0, 0, 0), (23, 38, 9, 16, 0), (1, 0, 0, 0, 30), (3, 1, 0, 0, 0), (14, 0, 0, 0, 0), (3, 3, 0, 0, 0), (12, 0, 0, 0, 0)] := And.intro ⟨_, dX9_find_2, rfl⟩ (And.intro ⟨dX9_find_3, fl_X9_38⟩ (And.intro ⟨_, dX9_find_6, by decide⟩ (And.intro ⟨_, dX9_find_8, rfl⟩ (And.intro dX9_find_9 (And.intro ⟨_, dX9_find_10, rfl⟩ (And.intro dX9_find_11 trivial))))))
theorem bX9_find_13_14 : okB cX9_find RX9 13 [(3, 2, 0, 0, 0)] := And.intro ⟨_, dX9_find_13, rfl⟩ trivial
theorem bX9_find_24_25 : okB cX9_find RX9 24 [(3, 3, 0, 0, 0)] := And.intro ⟨_, dX9_find_24, rfl⟩ trivial
theorem bX9_find_17_21 : okB cX9_find RX9 17 [(3, 3, 0, 0, 0), (0, 0, 0, 0, 1), (12, 0, 0, 0, 0), (7, 3, 0, 0, 0)] := And.intro ⟨_, dX9_find_17, rfl⟩ (And.intro ⟨_, dX9_find_18, by decide⟩ (And.intro dX9_find_19 (And.intro ⟨_, dX9_find_20, rfl⟩ trivial)))
set_option maxHeartbeats 4000000 in
set_option maxRecDepth 100000 in
theorem k_X9_find (l : Launch) (D : va_G) (ads : AD) (I A : HI) (a1 : Int32) (a2 : Int32) (po : Option AV → HI → HI → Prop) (Iv2 : Int32 → Prop) (mu2 : Int32 → Nat)
    (hv : (Iv2 0 ∧ ∀ (x3_2 : Int32), Iv2 x3_2 → (vp_in ((30 * a1) + x3_2) 300 ∧ (((A 105 ((30 * a1) + x3_2).toNatClampNeg) = a2 → po (some (.inl x3_2)) I A) ∧ (¬ (A 105 ((30 * a1) + x3_2).toNatClampNeg) = a2 → (Iv2 (x3_2 + 1) ∧ mu2 (x3_2 + 1) < mu2 x3_2)))))) : Ct l yX9_find cX9_find 4 (some .int) 0 0 D ads shp [.inr (some 96), .inl a1, .inl a2] I A po := by
  refine Ct_of (by decide) (Nat.le_of_ble_eq_true rfl) ?_
  intro p e s m args below meth c hC hr
  replace hC : CX p s m args meth c cX9_find 4 RX9 (AdS ads s.heap.size) := hC
  show Gm p l e s m args below meth c D ads 0 0 4 po I A 0 [some (.inr (some 96)), some (.inl a1), some (.inl a2), none] []
  refine g_blk hC _ bX9_find_0_2 (pc' := 2) (ls' := [some (.inr (some 96)), some (.inl a1), some (.inl a2), some (.inl 0)]) (st' := []) (I' := I) rfl rfl ?_
  obtain ⟨hi2, hb2⟩ := hv
  have L2 : ∀ (n : Nat) (x3_2 : Int32), Iv2 x3_2 → mu2 x3_2 < n → Gm p l e s m args below meth c D ads 0 0 4 po I A 2 [some (.inr (some 96)), some (.inl a1), some (.inl a2), some (.inl x3_2)] [] := by
    intro n
    induction n with
    | zero => intro x3_2 _ hn; exact absurd hn (Nat.not_lt_zero _)
    | succ n ih2 =>
      intro x3_2 hv hn2
      replace hv := hb2 x3_2 hv
      skip
      refine g_blk hC _ bX9_find_2_12 (pc' := 12) (ls' := [some (.inr (some 96)), some (.inl a1), some (.inl a2), some (.inl x3_2)]) (st' := [.inl ((30 * a1) + x3_2), .inr (some 105)]) (I' := I) rfl rfl ?_
      obtain ⟨hi, hv⟩ := hv
      refine g_iald hC dX9_find_12 (rfl) hi ?_
      clear hi
      refine g_blk hC _ bX9_find_13_14 (pc' := 14) (ls' := [some (.inr (some 96)), some (.inl a1), some (.inl a2), some (.inl x3_2)]) (st' := [.inl a2, .inl (A 105 ((30 * a1) + x3_2).toNatClampNeg)]) (I' := I) rfl rfl ?_
      obtain ⟨hv1, hv2⟩ := hv
      refine g_ceq hC dX9_find_14 (tgt := 24) (by decide) (fun hc => ?_) (fun hc => ?_)
      · have hv := hv1 hc
        clear hv1 hv2 hc
        refine g_blk hC _ bX9_find_24_25 (pc' := 25) (ls' := [some (.inr (some 96)), some (.inl a1), some (.inl a2), some (.inl x3_2)]) (st' := [.inl x3_2]) (I' := I) rfl rfl ?_
        exact g_reti hC hr rfl dX9_find_25 hv
      · have hv := hv2 hc
        clear hv1 hv2 hc
        refine g_blk hC _ bX9_find_17_21 (pc' := 21) (ls' := [some (.inr (some 96)), some (.inl a1), some (.inl a2), some (.inl (x3_2 + 1))]) (st' := []) (I' := I) rfl rfl ?_
        refine g_goto hC dX9_find_21 (tgt := 2) (by decide) ?_
        exact g_weak (ls1 := [some (.inr (some 96)), some (.inl a1), some (.inl a2), some (.inl (x3_2 + 1))]) rfl (And.intro rfl (And.intro rfl (And.intro rfl (And.intro rfl trivial)))) (ih2 (x3_2 + 1) hv.1 (Nat.lt_of_lt_of_le hv.2 (Nat.le_of_lt_succ hn2)))
  exact g_weak (ls1 := [some (.inr (some 96)), some (.inl a1), some (.inl a2), some (.inl 0)]) rfl (And.intro rfl (And.intro rfl (And.intro rfl (And.intro rfl trivial)))) (L2 _ 0 hi2 (Nat.lt_succ_self _))
theorem bX9_puts_0_5 : okB cX9_puts RX9 0 [(5, 0, 0, 0, 0), (23, 35, 9, 15, 0), (3, 1, 0, 0, 0)] := And.intro ⟨_, dX9_puts_0, rfl⟩ (And.intro ⟨dX9_puts_1, fl_X9_35⟩ (And.intro ⟨_, dX9_puts_4, rfl⟩ trivial))
theorem bX9_puts_6_7 : okB cX9_puts RX9 6 [(7, 3, 0, 0, 0)] := And.intro ⟨_, dX9_puts_6, rfl⟩ trivial
theorem bX9_puts_7_8 : okB cX9_puts RX9 7 [(3, 3, 0, 0, 0)] := And.intro ⟨_, dX9_puts_7, rfl⟩ trivial
theorem bX9_puts_59_70 : okB cX9_puts RX9 59 [(5, 0, 0, 0, 0), (23, 38, 9, 16, 0), (1, 0, 0, 0, 30), (3, 1, 0, 0, 0), (14, 0, 0, 0, 0), (3, 3, 0, 0, 0), (12, 0, 0, 0, 0), (3, 2, 0, 0, 0)] := And.intro ⟨_, dX9_puts_59, rfl⟩ (And.intro ⟨dX9_puts_60, fl_X9_38⟩ (And.intro ⟨_, dX9_puts_63, by decide⟩ (And.intro ⟨_, dX9_puts_65, rfl⟩ (And.intro dX9_puts_66 (And.intro ⟨_, dX9_puts_67, rfl⟩ (And.intro dX9_puts_68 (And.intro ⟨_, dX9_puts_69, rfl⟩ trivial)))))))
theorem bX9_puts_71_81 : okB cX9_puts RX9 71 [(5, 0, 0, 0, 0), (23, 35, 9, 15, 0), (3, 1, 0, 0, 0), (5, 0, 0, 0, 0), (23, 35, 9, 15, 0), (3, 1, 0, 0, 0)] := And.intro ⟨_, dX9_puts_71, rfl⟩ (And.intro ⟨dX9_puts_72, fl_X9_35⟩ (And.intro ⟨_, dX9_puts_75, rfl⟩ (And.intro ⟨_, dX9_puts_76, rfl⟩ (And.intro ⟨dX9_puts_77, fl_X9_35⟩ (And.intro ⟨_, dX9_puts_80, rfl⟩ trivial)))))
theorem bX9_puts_82_84 : okB cX9_puts RX9 82 [(0, 0, 0, 0, 1), (12, 0, 0, 0, 0)] := And.intro ⟨_, dX9_puts_82, by decide⟩ (And.intro dX9_puts_83 trivial)
theorem bX9_puts_11_23 : okB cX9_puts RX9 11 [(5, 0, 0, 0, 0), (23, 38, 9, 16, 0), (1, 0, 0, 0, 30), (3, 1, 0, 0, 0), (14, 0, 0, 0, 0), (3, 3, 0, 0, 0), (12, 0, 0, 0, 0), (0, 0, 0, 0, 1), (13, 0, 0, 0, 0)] := And.intro ⟨_, dX9_puts_11, rfl⟩ (And.intro ⟨dX9_puts_12, fl_X9_38⟩ (And.intro ⟨_, dX9_puts_15, by decide⟩ (And.intro ⟨_, dX9_puts_17, rfl⟩ (And.intro dX9_puts_18 (And.intro ⟨_, dX9_puts_19, rfl⟩ (And.intro dX9_puts_20 (And.intro ⟨_, dX9_puts_21, by decide⟩ (And.intro dX9_puts_22 trivial))))))))
theorem bX9_puts_24_25 : okB cX9_puts RX9 24 [(3, 2, 0, 0, 0)] := And.intro ⟨_, dX9_puts_24, rfl⟩ trivial
theorem bX9_puts_28_50 : okB cX9_puts RX9 28 [(5, 0, 0, 0, 0), (23, 38, 9, 16, 0), (1, 0, 0, 0, 30), (3, 1, 0, 0, 0), (14, 0, 0, 0, 0), (3, 3, 0, 0, 0), (12, 0, 0, 0, 0), (5, 0, 0, 0, 0), (23, 38, 9, 16, 0), (1, 0, 0, 0, 30), (3, 1, 0, 0, 0), (14, 0, 0, 0, 0), (3, 3, 0, 0, 0), (12, 0, 0, 0, 0), (0, 0, 0, 0, 1), (13, 0, 0, 0, 0)] := And.intro ⟨_, dX9_puts_28, rfl⟩ (And.intro ⟨dX9_puts_29, fl_X9_38⟩ (And.intro ⟨_, dX9_puts_32, by decide⟩ (And.intro ⟨_, dX9_puts_34, rfl⟩ (And.intro dX9_puts_35 (And.intro ⟨_, dX9_puts_36, rfl⟩ (And.intro dX9_puts_37 (And.intro ⟨_, dX9_puts_38, rfl⟩ (And.intro ⟨dX9_puts_39, fl_X9_38⟩ (And.intro ⟨_, dX9_puts_42, by decide⟩ (And.intro ⟨_, dX9_puts_44, rfl⟩ (And.intro dX9_puts_45 (And.intro ⟨_, dX9_puts_46, rfl⟩ (And.intro dX9_puts_47 (And.intro ⟨_, dX9_puts_48, by decide⟩ (And.intro dX9_puts_49 trivial)))))))))))))))
theorem bX9_puts_52_56 : okB cX9_puts RX9 52 [(3, 3, 0, 0, 0), (0, 0, 0, 0, 1), (13, 0, 0, 0, 0), (7, 3, 0, 0, 0)] := And.intro ⟨_, dX9_puts_52, rfl⟩ (And.intro ⟨_, dX9_puts_53, by decide⟩ (And.intro dX9_puts_54 (And.intro ⟨_, dX9_puts_55, rfl⟩ trivial)))
set_option maxHeartbeats 4000000 in
set_option maxRecDepth 100000 in
theorem k_X9_puts (l : Launch) (D : va_G) (ads : AD) (I A : HI) (a1 : Int32) (a2 : Int32) (po : Option AV → HI → HI → Prop) (Iv7 : Int32 → HI → Prop) (mu7 : Int32 → HI → Nat)
    (hv : (vp_in a1 10 ∧ (Iv7 (A 104 a1.toNatClampNeg) A ∧ ∀ (x3_7 : Int32) (A_7 : HI), Iv7 x3_7 A_7 → ((x3_7 ≤ 0 → (vp_in ((30 * a1) + x3_7) 300 ∧ (vp_in a1 10 ∧ (vp_in a1 10 ∧ po none I (up2 (up2 A_7 105 ((30 * a1) + x3_7).toNatClampNeg a2) 104 a1.toNatClampNeg (((up2 A_7 105 ((30 * a1) + x3_7).toNatClampNeg a2) 104 a1.toNatClampNeg) + 1)))))) ∧ (¬ x3_7 ≤ 0 → (vp_in (((30 * a1) + x3_7) - 1) 300 ∧ (((A_7 105 (((30 * a1) + x3_7) - 1).toNatClampNeg) ≤ a2 → (vp_in ((30 * a1) + x3_7) 300 ∧ (vp_in a1 10 ∧ (vp_in a1 10 ∧ po none I (up2 (up2 A_7 105 ((30 * a1) + x3_7).toNatClampNeg a2) 104 a1.toNatClampNeg (((up2 A_7 105 ((30 * a1) + x3_7).toNatClampNeg a2) 104 a1.toNatClampNeg) + 1)))))) ∧ (¬ (A_7 105 (((30 * a1) + x3_7) - 1).toNatClampNeg) ≤ a2 → (vp_in (((30 * a1) + x3_7) - 1) 300 ∧ (vp_in ((30 * a1) + x3_7) 300 ∧ (Iv7 (x3_7 - 1) (up2 A_7 105 ((30 * a1) + x3_7).toNatClampNeg (A_7 105 (((30 * a1) + x3_7) - 1).toNatClampNeg)) ∧ mu7 (x3_7 - 1) (up2 A_7 105 ((30 * a1) + x3_7).toNatClampNeg (A_7 105 (((30 * a1) + x3_7) - 1).toNatClampNeg)) < mu7 x3_7 A_7))))))))))) : Ct l yX9_puts cX9_puts 4 none 0 0 D ads shp [.inr (some 96), .inl a1, .inl a2] I A po := by
  refine Ct_of (by decide) (Nat.le_of_ble_eq_true rfl) ?_
  intro p e s m args below meth c hC hr
  replace hC : CX p s m args meth c cX9_puts 4 RX9 (AdS ads s.heap.size) := hC
  show Gm p l e s m args below meth c D ads 0 0 4 po I A 0 [some (.inr (some 96)), some (.inl a1), some (.inl a2), none] []
  refine g_blk hC _ bX9_puts_0_5 (pc' := 5) (ls' := [some (.inr (some 96)), some (.inl a1), some (.inl a2), none]) (st' := [.inl a1, .inr (some 104)]) (I' := I) rfl rfl ?_
  obtain ⟨hi, hv⟩ := hv
  refine g_iald hC dX9_puts_5 (rfl) hi ?_
  clear hi
  refine g_blk hC _ bX9_puts_6_7 (pc' := 7) (ls' := [some (.inr (some 96)), some (.inl a1), some (.inl a2), some (.inl (A 104 a1.toNatClampNeg))]) (st' := []) (I' := I) rfl rfl ?_
  obtain ⟨hi7, hb7⟩ := hv
  have L7 : ∀ (n : Nat) (x3_7 : Int32) (A_7 : HI), Iv7 x3_7 A_7 → mu7 x3_7 A_7 < n → Gm p l e s m args below meth c D ads 0 0 4 po I A_7 7 [some (.inr (some 96)), some (.inl a1), some (.inl a2), some (.inl x3_7)] [] := by
    intro n
    induction n with
    | zero => intro x3_7 A_7 _ hn; exact absurd hn (Nat.not_lt_zero _)
    | succ n ih7 =>
      intro x3_7 A_7 hv hn7
      replace hv := hb7 x3_7 A_7 hv
      skip
      refine g_blk hC _ bX9_puts_7_8 (pc' := 8) (ls' := [some (.inr (some 96)), some (.inl a1), some (.inl a2), some (.inl x3_7)]) (st' := [.inl x3_7]) (I' := I) rfl rfl ?_
      obtain ⟨hv1, hv2⟩ := hv
      refine g_ifle hC dX9_puts_8 (tgt := 59) (by decide) (fun hc => ?_) (fun hc => ?_)
      · have hv := hv1 hc
        clear hv1 hv2 hc
        refine g_blk hC _ bX9_puts_59_70 (pc' := 70) (ls' := [some (.inr (some 96)), some (.inl a1), some (.inl a2), some (.inl x3_7)]) (st' := [.inl a2, .inl ((30 * a1) + x3_7), .inr (some 105)]) (I' := I) rfl rfl ?_
        obtain ⟨hi, hv⟩ := hv
        refine g_iast hC dX9_puts_70 (rfl) hi ?_
        clear hi
        refine g_blk hC _ bX9_puts_71_81 (pc' := 81) (ls' := [some (.inr (some 96)), some (.inl a1), some (.inl a2), some (.inl x3_7)]) (st' := [.inl a1, .inr (some 104), .inl a1, .inr (some 104)]) (I' := I) rfl rfl ?_
        obtain ⟨hi, hv⟩ := hv
        refine g_iald hC dX9_puts_81 (rfl) hi ?_
        clear hi
        refine g_blk hC _ bX9_puts_82_84 (pc' := 84) (ls' := [some (.inr (some 96)), some (.inl a1), some (.inl a2), some (.inl x3_7)]) (st' := [.inl (((up2 A_7 105 ((30 * a1) + x3_7).toNatClampNeg a2) 104 a1.toNatClampNeg) + 1), .inl a1, .inr (some 104)]) (I' := I) rfl rfl ?_
        obtain ⟨hi, hv⟩ := hv
        refine g_iast hC dX9_puts_84 (rfl) hi ?_
        clear hi
        exact g_retv hC hr dX9_puts_85 hv
      · have hv := hv2 hc
        clear hv1 hv2 hc
        refine g_blk hC _ bX9_puts_11_23 (pc' := 23) (ls' := [some (.inr (some 96)), some (.inl a1), some (.inl a2), some (.inl x3_7)]) (st' := [.inl (((30 * a1) + x3_7) - 1), .inr (some 105)]) (I' := I) rfl rfl ?_
        obtain ⟨hi, hv⟩ := hv
        refine g_iald hC dX9_puts_23 (rfl) hi ?_
        clear hi
        refine g_blk hC _ bX9_puts_24_25 (pc' := 25) (ls' := [some (.inr (some 96)), some (.inl a1), some (.inl a2), some (.inl x3_7)]) (st' := [.inl a2, .inl (A_7 105 (((30 * a1) + x3_7) - 1).toNatClampNeg)]) (I' := I) rfl rfl ?_
        obtain ⟨hv1, hv2⟩ := hv
        refine g_cle hC dX9_puts_25 (tgt := 59) (by decide) (fun hc => ?_) (fun hc => ?_)
        · have hv := hv1 hc
          clear hv1 hv2 hc
          refine g_blk hC _ bX9_puts_59_70 (pc' := 70) (ls' := [some (.inr (some 96)), some (.inl a1), some (.inl a2), some (.inl x3_7)]) (st' := [.inl a2, .inl ((30 * a1) + x3_7), .inr (some 105)]) (I' := I) rfl rfl ?_
          obtain ⟨hi, hv⟩ := hv
          refine g_iast hC dX9_puts_70 (rfl) hi ?_
          clear hi
          refine g_blk hC _ bX9_puts_71_81 (pc' := 81) (ls' := [some (.inr (some 96)), some (.inl a1), some (.inl a2), some (.inl x3_7)]) (st' := [.inl a1, .inr (some 104), .inl a1, .inr (some 104)]) (I' := I) rfl rfl ?_
          obtain ⟨hi, hv⟩ := hv
          refine g_iald hC dX9_puts_81 (rfl) hi ?_
          clear hi
          refine g_blk hC _ bX9_puts_82_84 (pc' := 84) (ls' := [some (.inr (some 96)), some (.inl a1), some (.inl a2), some (.inl x3_7)]) (st' := [.inl (((up2 A_7 105 ((30 * a1) + x3_7).toNatClampNeg a2) 104 a1.toNatClampNeg) + 1), .inl a1, .inr (some 104)]) (I' := I) rfl rfl ?_
          obtain ⟨hi, hv⟩ := hv
          refine g_iast hC dX9_puts_84 (rfl) hi ?_
          clear hi
          exact g_retv hC hr dX9_puts_85 hv
        · have hv := hv2 hc
          clear hv1 hv2 hc
          refine g_blk hC _ bX9_puts_28_50 (pc' := 50) (ls' := [some (.inr (some 96)), some (.inl a1), some (.inl a2), some (.inl x3_7)]) (st' := [.inl (((30 * a1) + x3_7) - 1), .inr (some 105), .inl ((30 * a1) + x3_7), .inr (some 105)]) (I' := I) rfl rfl ?_
          obtain ⟨hi, hv⟩ := hv
          refine g_iald hC dX9_puts_50 (rfl) hi ?_
          clear hi
          obtain ⟨hi, hv⟩ := hv
          refine g_iast hC dX9_puts_51 (rfl) hi ?_
          clear hi
          refine g_blk hC _ bX9_puts_52_56 (pc' := 56) (ls' := [some (.inr (some 96)), some (.inl a1), some (.inl a2), some (.inl (x3_7 - 1))]) (st' := []) (I' := I) rfl rfl ?_
          refine g_goto hC dX9_puts_56 (tgt := 7) (by decide) ?_
          exact g_weak (ls1 := [some (.inr (some 96)), some (.inl a1), some (.inl a2), some (.inl (x3_7 - 1))]) rfl (And.intro rfl (And.intro rfl (And.intro rfl (And.intro rfl trivial)))) (ih7 (x3_7 - 1) (up2 A_7 105 ((30 * a1) + x3_7).toNatClampNeg (A_7 105 (((30 * a1) + x3_7) - 1).toNatClampNeg)) hv.1 (Nat.lt_of_lt_of_le hv.2 (Nat.le_of_lt_succ hn7)))
  exact g_weak (ls1 := [some (.inr (some 96)), some (.inl a1), some (.inl a2), some (.inl (A 104 a1.toNatClampNeg))]) rfl (And.intro rfl (And.intro rfl (And.intro rfl (And.intro rfl trivial)))) (L7 _ (A 104 a1.toNatClampNeg) A hi7 (Nat.lt_succ_self _))
theorem bX9_factorial_0_4 : okB cX9_factorial RX9 0 [(0, 0, 0, 0, 1), (7, 2, 0, 0, 0), (0, 0, 0, 0, 2), (7, 3, 0, 0, 0)] := And.intro ⟨_, dX9_factorial_0, by decide⟩ (And.intro ⟨_, dX9_factorial_1, rfl⟩ (And.intro ⟨_, dX9_factorial_2, by decide⟩ (And.intro ⟨_, dX9_factorial_3, rfl⟩ trivial)))
theorem bX9_factorial_4_6 : okB cX9_factorial RX9 4 [(3, 3, 0, 0, 0), (3, 1, 0, 0, 0)] := And.intro ⟨_, dX9_factorial_4, rfl⟩ (And.intro ⟨_, dX9_factorial_5, rfl⟩ trivial)
theorem bX9_factorial_19_20 : okB cX9_factorial RX9 19 [(3, 2, 0, 0, 0)] := And.intro ⟨_, dX9_factorial_19, rfl⟩ trivial
theorem bX9_factorial_9_16 : okB cX9_factorial RX9 9 [(3, 2, 0, 0, 0), (3, 3, 0, 0, 0), (14, 0, 0, 0, 0), (7, 2, 0, 0, 0), (11, 3, 0, 0, 1)] := And.intro ⟨_, dX9_factorial_9, rfl⟩ (And.intro ⟨_, dX9_factorial_10, rfl⟩ (And.intro dX9_factorial_11 (And.intro ⟨_, dX9_factorial_12, rfl⟩ (And.intro ⟨_, dX9_factorial_13, by decide⟩ trivial))))
set_option maxHeartbeats 4000000 in
set_option maxRecDepth 100000 in
theorem k_X9_factorial (l : Launch) (D : va_G) (ads : AD) (I A : HI) (a1 : Int32) (po : Option AV → HI → HI → Prop) (Iv4 : Int32 → Int32 → Prop) (mu4 : Int32 → Int32 → Nat)
    (hv : (Iv4 1 2 ∧ ∀ (x2_4 : Int32) (x3_4 : Int32), Iv4 x2_4 x3_4 → ((a1 < x3_4 → po (some (.inl x2_4)) I A) ∧ (¬ a1 < x3_4 → (Iv4 (x2_4 * x3_4) (x3_4 + 1) ∧ mu4 (x2_4 * x3_4) (x3_4 + 1) < mu4 x2_4 x3_4))))) : Ct l yX9_factorial cX9_factorial 4 (some .int) 0 0 D ads shp [.inr (some 96), .inl a1] I A po := by
  refine Ct_of (by decide) (Nat.le_of_ble_eq_true rfl) ?_
  intro p e s m args below meth c hC hr
  replace hC : CX p s m args meth c cX9_factorial 4 RX9 (AdS ads s.heap.size) := hC
  show Gm p l e s m args below meth c D ads 0 0 4 po I A 0 [some (.inr (some 96)), some (.inl a1), none, none] []
  refine g_blk hC _ bX9_factorial_0_4 (pc' := 4) (ls' := [some (.inr (some 96)), some (.inl a1), some (.inl 1), some (.inl 2)]) (st' := []) (I' := I) rfl rfl ?_
  obtain ⟨hi4, hb4⟩ := hv
  have L4 : ∀ (n : Nat) (x2_4 : Int32) (x3_4 : Int32), Iv4 x2_4 x3_4 → mu4 x2_4 x3_4 < n → Gm p l e s m args below meth c D ads 0 0 4 po I A 4 [none, some (.inl a1), some (.inl x2_4), some (.inl x3_4)] [] := by
    intro n
    induction n with
    | zero => intro x2_4 x3_4 _ hn; exact absurd hn (Nat.not_lt_zero _)
    | succ n ih4 =>
      intro x2_4 x3_4 hv hn4
      replace hv := hb4 x2_4 x3_4 hv
      skip
      refine g_blk hC _ bX9_factorial_4_6 (pc' := 6) (ls' := [none, some (.inl a1), some (.inl x2_4), some (.inl x3_4)]) (st' := [.inl a1, .inl x3_4]) (I' := I) rfl rfl ?_
      obtain ⟨hv1, hv2⟩ := hv
      refine g_cgt hC dX9_factorial_6 (tgt := 19) (by decide) (fun hc => ?_) (fun hc => ?_)
      · have hv := hv1 hc
        clear hv1 hv2 hc
        refine g_blk hC _ bX9_factorial_19_20 (pc' := 20) (ls' := [none, some (.inl a1), some (.inl x2_4), some (.inl x3_4)]) (st' := [.inl x2_4]) (I' := I) rfl rfl ?_
        exact g_reti hC hr rfl dX9_factorial_20 hv
      · have hv := hv2 hc
        clear hv1 hv2 hc
        refine g_blk hC _ bX9_factorial_9_16 (pc' := 16) (ls' := [none, some (.inl a1), some (.inl (x2_4 * x3_4)), some (.inl (x3_4 + 1))]) (st' := []) (I' := I) rfl rfl ?_
        refine g_goto hC dX9_factorial_16 (tgt := 4) (by decide) ?_
        exact g_weak (ls1 := [none, some (.inl a1), some (.inl (x2_4 * x3_4)), some (.inl (x3_4 + 1))]) rfl (And.intro rfl (And.intro rfl (And.intro rfl trivial))) (ih4 (x2_4 * x3_4) (x3_4 + 1) hv.1 (Nat.lt_of_lt_of_le hv.2 (Nat.le_of_lt_succ hn4)))
  exact g_weak (ls1 := [none, some (.inl a1), some (.inl 1), some (.inl 2)]) rfl (And.intro rfl (And.intro rfl (And.intro rfl trivial))) (L4 _ 1 2 hi4 (Nat.lt_succ_self _))
theorem bX9_findRow_0_7 : okB cX9_findRow RX9 0 [(5, 0, 0, 0, 0), (0, 0, 0, 0, 0), (24, 79, 9, 7, 0), (0, 0, 0, 0, 0), (7, 1, 0, 0, 0)] := And.intro ⟨_, dX9_findRow_0, rfl⟩ (And.intro ⟨_, dX9_findRow_1, by decide⟩ (And.intro ⟨dX9_findRow_2, fl_X9_79, rfl, rfl⟩ (And.intro ⟨_, dX9_findRow_5, by decide⟩ (And.intro ⟨_, dX9_findRow_6, rfl⟩ trivial))))
theorem bX9_findRow_7_10 : okB cX9_findRow RX9 7 [(3, 1, 0, 0, 0), (1, 0, 0, 0, 10)] := And.intro ⟨_, dX9_findRow_7, rfl⟩ (And.intro ⟨_, dX9_findRow_8, by decide⟩ trivial)
theorem bX9_findRow_63_68 : okB cX9_findRow RX9 63 [(5, 0, 0, 0, 0), (23, 79, 9, 7, 0), (7, 1, 0, 0, 0)] := And.intro ⟨_, dX9_findRow_63, rfl⟩ (And.intro ⟨dX9_findRow_64, fl_X9_79⟩ (And.intro ⟨_, dX9_findRow_67, rfl⟩ trivial))
theorem bX9_findRow_68_69 : okB cX9_findRow RX9 68 [(3, 1, 0, 0, 0)] := And.intro ⟨_, dX9_findRow_68, rfl⟩ trivial
theorem bX9_findRow_179_186 : okB cX9_findRow RX9 179 [(5, 0, 0, 0, 0), (0, 0, 0, 0, 0), (24, 87, 9, 8, 0), (0, 0, 0, 0, 0), (7, 1, 0, 0, 0)] := And.intro ⟨_, dX9_findRow_179, rfl⟩ (And.intro ⟨_, dX9_findRow_180, by decide⟩ (And.intro ⟨dX9_findRow_181, fl_X9_87, rfl, rfl⟩ (And.intro ⟨_, dX9_findRow_184, by decide⟩ (And.intro ⟨_, dX9_findRow_185, rfl⟩ trivial))))
theorem bX9_findRow_186_191 : okB cX9_findRow RX9 186 [(3, 1, 0, 0, 0), (5, 0, 0, 0, 0), (23, 79, 9, 7, 0)] := And.intro ⟨_, dX9_findRow_186, rfl⟩ (And.intro ⟨_, dX9_findRow_187, rfl⟩ (And.intro ⟨dX9_findRow_188, fl_X9_79⟩ trivial))
theorem bX9_findRow_288_295 : okB cX9_findRow RX9 288 [(5, 0, 0, 0, 0), (0, 0, 0, 0, 0), (24, 90, 9, 12, 0), (0, 0, 0, 0, 0), (7, 2, 0, 0, 0)] := And.intro ⟨_, dX9_findRow_288, rfl⟩ (And.intro ⟨_, dX9_findRow_289, by decide⟩ (And.intro ⟨dX9_findRow_290, fl_X9_90, rfl, rfl⟩ (And.intro ⟨_, dX9_findRow_293, by decide⟩ (And.intro ⟨_, dX9_findRow_294, rfl⟩ trivial))))
theorem bX9_findRow_295_300 : okB cX9_findRow RX9 295 [(3, 2, 0, 0, 0), (5, 0, 0, 0, 0), (23, 87, 9, 8, 0)] := And.intro ⟨_, dX9_findRow_295, rfl⟩ (And.intro ⟨_, dX9_findRow_296, rfl⟩ (And.intro ⟨dX9_findRow_297, fl_X9_87⟩ trivial))
theorem bX9_findRow_303_308 : okB cX9_findRow RX9 303 [(5, 0, 0, 0, 0), (23, 23, 9, 9, 0), (3, 2, 0, 0, 0)] := And.intro ⟨_, dX9_findRow_303, rfl⟩ (And.intro ⟨dX9_findRow_304, fl_X9_23⟩ (And.intro ⟨_, dX9_findRow_307, rfl⟩ trivial))
theorem bX9_findRow_309_316 : okB cX9_findRow RX9 309 [(7, 3, 0, 0, 0), (5, 0, 0, 0, 0), (23, 29, 9, 11, 0), (3, 3, 0, 0, 0), (0, 0, 0, 0, 0)] := And.intro ⟨_, dX9_findRow_309, rfl⟩ (And.intro ⟨_, dX9_findRow_310, rfl⟩ (And.intro ⟨dX9_findRow_311, fl_X9_29⟩ (And.intro ⟨_, dX9_findRow_314, rfl⟩ (And.intro ⟨_, dX9_findRow_315, by decide⟩ trivial))))
theorem bX9_findRow_317_320 : okB cX9_findRow RX9 317 [(0, 0, 0, 0, 0), (8, 4, 0, 0, 0)] := And.intro ⟨_, dX9_findRow_317, by decide⟩ (And.intro dX9_findRow_318 trivial)
theorem bX9_findRow_320_323 : okB cX9_findRow RX9 320 [(4, 4, 0, 0, 0), (3, 2, 0, 0, 0)] := And.intro dX9_findRow_320 (And.intro ⟨_, dX9_findRow_322, rfl⟩ trivial)
theorem bX9_findRow_393_398 : okB cX9_findRow RX9 393 [(5, 0, 0, 0, 0), (23, 29, 9, 11, 0), (3, 3, 0, 0, 0)] := And.intro ⟨_, dX9_findRow_393, rfl⟩ (And.intro ⟨dX9_findRow_394, fl_X9_29⟩ (And.intro ⟨_, dX9_findRow_397, rfl⟩ trivial))
theorem bX9_findRow_399_403 : okB cX9_findRow RX9 399 [(5, 0, 0, 0, 0), (23, 90, 9, 12, 0)] := And.intro ⟨_, dX9_findRow_399, rfl⟩ (And.intro ⟨dX9_findRow_400, fl_X9_90⟩ trivial)
theorem bX9_findRow_418_421 : okB cX9_findRow RX9 418 [(11, 2, 0, 0, 1)] := And.intro ⟨_, dX9_findRow_418, by decide⟩ trivial
theorem bX9_findRow_406_412 : okB cX9_findRow RX9 406 [(5, 0, 0, 0, 0), (5, 0, 0, 0, 0), (23, 29, 9, 11, 0), (3, 3, 0, 0, 0)] := And.intro ⟨_, dX9_findRow_406, rfl⟩ (And.intro ⟨_, dX9_findRow_407, rfl⟩ (And.intro ⟨dX9_findRow_408, fl_X9_29⟩ (And.intro ⟨_, dX9_findRow_411, rfl⟩ trivial)))
theorem bX9_findRow_413_421 : okB cX9_findRow RX9 413 [(0, 0, 0, 0, 1), (12, 0, 0, 0, 0), (24, 90, 9, 12, 0), (11, 2, 0, 0, 1)] := And.intro ⟨_, dX9_findRow_413, by decide⟩ (And.intro dX9_findRow_414 (And.intro ⟨dX9_findRow_415, fl_X9_90, rfl, rfl⟩ (And.intro ⟨_, dX9_findRow_418, by decide⟩ trivial)))
theorem bX9_findRow_326_338 : okB cX9_findRow RX9 326 [(5, 0, 0, 0, 0), (23, 7, 9, 1, 0), (1, 0, 0, 0, 10), (5, 0, 0, 0, 0), (23, 23, 9, 9, 0), (4, 4, 0, 0, 0)] := And.intro ⟨_, dX9_findRow_326, rfl⟩ (And.intro ⟨dX9_findRow_327, fl_X9_7⟩ (And.intro ⟨_, dX9_findRow_330, by decide⟩ (And.intro ⟨_, dX9_findRow_332, rfl⟩ (And.intro ⟨dX9_findRow_333, fl_X9_23⟩ (And.intro dX9_findRow_336 trivial)))))
theorem bX9_findRow_339_342 : okB cX9_findRow RX9 339 [(14, 0, 0, 0, 0), (3, 3, 0, 0, 0), (12, 0, 0, 0, 0)] := And.intro dX9_findRow_339 (And.intro ⟨_, dX9_findRow_340, rfl⟩ (And.intro dX9_findRow_341 trivial))
theorem bX9_findRow_387_390 : okB cX9_findRow RX9 387 [(11, 4, 0, 0, 1)] := And.intro ⟨_, dX9_findRow_387, by decide⟩ trivial
theorem bX9_findRow_346_356 : okB cX9_findRow RX9 346 [(5, 0, 0, 0, 0), (23, 29, 9, 11, 0), (5, 0, 0, 0, 0), (23, 23, 9, 9, 0), (4, 4, 0, 0, 0)] := And.intro ⟨_, dX9_findRow_346, rfl⟩ (And.intro ⟨dX9_findRow_347, fl_X9_29⟩ (And.intro ⟨_, dX9_findRow_350, rfl⟩ (And.intro ⟨dX9_findRow_351, fl_X9_23⟩ (And.intro dX9_findRow_354 trivial))))
theorem bX9_findRow_358_363 : okB cX9_findRow RX9 358 [(5, 0, 0, 0, 0), (23, 29, 9, 11, 0), (3, 3, 0, 0, 0)] := And.intro ⟨_, dX9_findRow_358, rfl⟩ (And.intro ⟨dX9_findRow_359, fl_X9_29⟩ (And.intro ⟨_, dX9_findRow_362, rfl⟩ trivial))
theorem bX9_findRow_367_382 : okB cX9_findRow RX9 367 [(5, 0, 0, 0, 0), (23, 29, 9, 11, 0), (3, 3, 0, 0, 0), (5, 0, 0, 0, 0), (23, 29, 9, 11, 0), (5, 0, 0, 0, 0), (23, 23, 9, 9, 0), (4, 4, 0, 0, 0)] := And.intro ⟨_, dX9_findRow_367, rfl⟩ (And.intro ⟨dX9_findRow_368, fl_X9_29⟩ (And.intro ⟨_, dX9_findRow_371, rfl⟩ (And.intro ⟨_, dX9_findRow_372, rfl⟩ (And.intro ⟨dX9_findRow_373, fl_X9_29⟩ (And.intro ⟨_, dX9_findRow_376, rfl⟩ (And.intro ⟨dX9_findRow_377, fl_X9_23⟩ (And.intro dX9_findRow_380 trivial)))))))
theorem bX9_findRow_384_386 : okB cX9_findRow RX9 384 [(0, 0, 0, 0, 1), (12, 0, 0, 0, 0)] := And.intro ⟨_, dX9_findRow_384, by decide⟩ (And.intro dX9_findRow_385 trivial)
theorem bX9_findRow_194_196 : okB cX9_findRow RX9 194 [(0, 0, 0, 0, 0), (7, 2, 0, 0, 0)] := And.intro ⟨_, dX9_findRow_194, by decide⟩ (And.intro ⟨_, dX9_findRow_195, rfl⟩ trivial)
theorem bX9_findRow_196_204 : okB cX9_findRow RX9 196 [(5, 0, 0, 0, 0), (23, 79, 9, 7, 0), (3, 2, 0, 0, 0), (19, 0, 0, 0, 0), (0, 0, 0, 0, 1), (15, 0, 0, 0, 0)] := And.intro ⟨_, dX9_findRow_196, rfl⟩ (And.intro ⟨dX9_findRow_197, fl_X9_79⟩ (And.intro ⟨_, dX9_findRow_200, rfl⟩ (And.intro dX9_findRow_201 (And.intro ⟨_, dX9_findRow_202, by decide⟩ (And.intro dX9_findRow_203 trivial)))))
theorem bX9_findRow_242_246 : okB cX9_findRow RX9 242 [(3, 2, 0, 0, 0), (0, 0, 0, 0, 1), (12, 0, 0, 0, 0), (7, 2, 0, 0, 0)] := And.intro ⟨_, dX9_findRow_242, rfl⟩ (And.intro ⟨_, dX9_findRow_243, by decide⟩ (And.intro dX9_findRow_244 (And.intro ⟨_, dX9_findRow_245, rfl⟩ trivial)))
theorem bX9_findRow_207_213 : okB cX9_findRow RX9 207 [(3, 1, 0, 0, 0), (3, 2, 0, 0, 0), (19, 0, 0, 0, 0), (0, 0, 0, 0, 1), (15, 0, 0, 0, 0), (0, 0, 0, 0, 1)] := And.intro ⟨_, dX9_findRow_207, rfl⟩ (And.intro ⟨_, dX9_findRow_208, rfl⟩ (And.intro dX9_findRow_209 (And.intro ⟨_, dX9_findRow_210, by decide⟩ (And.intro dX9_findRow_211 (And.intro ⟨_, dX9_findRow_212, by decide⟩ trivial)))))
theorem bX9_findRow_216_219 : okB cX9_findRow RX9 216 [(5, 0, 0, 0, 0), (3, 2, 0, 0, 0), (3, 1, 0, 0, 0)] := And.intro ⟨_, dX9_findRow_216, rfl⟩ (And.intro ⟨_, dX9_findRow_217, rfl⟩ (And.intro ⟨_, dX9_findRow_218, rfl⟩ trivial))
theorem bX9_findRow_222_231 : okB cX9_findRow RX9 222 [(5, 0, 0, 0, 0), (23, 32, 9, 13, 0), (3, 1, 0, 0, 0), (0, 0, 0, 0, 1), (3, 2, 0, 0, 0), (18, 0, 0, 0, 0), (16, 0, 0, 0, 0)] := And.intro ⟨_, dX9_findRow_222, rfl⟩ (And.intro ⟨dX9_findRow_223, fl_X9_32⟩ (And.intro ⟨_, dX9_findRow_226, rfl⟩ (And.intro ⟨_, dX9_findRow_227, by decide⟩ (And.intro ⟨_, dX9_findRow_228, rfl⟩ (And.intro dX9_findRow_229 (And.intro dX9_findRow_230 trivial))))))
theorem bX9_findRow_232_238 : okB cX9_findRow RX9 232 [(12, 0, 0, 0, 0), (5, 0, 0, 0, 0), (23, 32, 9, 13, 0), (3, 1, 0, 0, 0)] := And.intro dX9_findRow_232 (And.intro ⟨_, dX9_findRow_233, rfl⟩ (And.intro ⟨dX9_findRow_234, fl_X9_32⟩ (And.intro ⟨_, dX9_findRow_237, rfl⟩ trivial)))
theorem bX9_findRow_249_258 : okB cX9_findRow RX9 249 [(5, 0, 0, 0, 0), (23, 23, 9, 9, 0), (5, 0, 0, 0, 0), (23, 87, 9, 8, 0), (3, 2, 0, 0, 0)] := And.intro ⟨_, dX9_findRow_249, rfl⟩ (And.intro ⟨dX9_findRow_250, fl_X9_23⟩ (And.intro ⟨_, dX9_findRow_253, rfl⟩ (And.intro ⟨dX9_findRow_254, fl_X9_87⟩ (And.intro ⟨_, dX9_findRow_257, rfl⟩ trivial))))
theorem bX9_findRow_259_268 : okB cX9_findRow RX9 259 [(5, 0, 0, 0, 0), (23, 26, 9, 10, 0), (3, 2, 0, 0, 0), (5, 0, 0, 0, 0), (23, 87, 9, 8, 0)] := And.intro ⟨_, dX9_findRow_259, rfl⟩ (And.intro ⟨dX9_findRow_260, fl_X9_26⟩ (And.intro ⟨_, dX9_findRow_263, rfl⟩ (And.intro ⟨_, dX9_findRow_264, rfl⟩ (And.intro ⟨dX9_findRow_265, fl_X9_87⟩ trivial))))
theorem bX9_findRow_269_285 : okB cX9_findRow RX9 269 [(5, 0, 0, 0, 0), (5, 0, 0, 0, 0), (23, 87, 9, 8, 0), (0, 0, 0, 0, 1), (12, 0, 0, 0, 0), (24, 87, 9, 8, 0), (3, 1, 0, 0, 0), (0, 0, 0, 0, 1), (3, 2, 0, 0, 0), (18, 0, 0, 0, 0), (16, 0, 0, 0, 0), (7, 1, 0, 0, 0)] := And.intro ⟨_, dX9_findRow_269, rfl⟩ (And.intro ⟨_, dX9_findRow_270, rfl⟩ (And.intro ⟨dX9_findRow_271, fl_X9_87⟩ (And.intro ⟨_, dX9_findRow_274, by decide⟩ (And.intro dX9_findRow_275 (And.intro ⟨dX9_findRow_276, fl_X9_87, rfl, rfl⟩ (And.intro ⟨_, dX9_findRow_279, rfl⟩ (And.intro ⟨_, dX9_findRow_280, by decide⟩ (And.intro ⟨_, dX9_findRow_281, rfl⟩ (And.intro dX9_findRow_282 (And.intro dX9_findRow_283 (And.intro ⟨_, dX9_findRow_284, rfl⟩ trivial)))))))))))
theorem bX9_findRow_72_80 : okB cX9_findRow RX9 72 [(3, 1, 0, 0, 0), (5, 0, 0, 0, 0), (23, 79, 9, 7, 0), (0, 0, 0, 0, (-1)), (17, 0, 0, 0, 0), (15, 0, 0, 0, 0)] := And.intro ⟨_, dX9_findRow_72, rfl⟩ (And.intro ⟨_, dX9_findRow_73, rfl⟩ (And.intro ⟨dX9_findRow_74, fl_X9_79⟩ (And.intro ⟨_, dX9_findRow_77, by decide⟩ (And.intro dX9_findRow_78 (And.intro dX9_findRow_79 trivial)))))
theorem bX9_findRow_101_103 : okB cX9_findRow RX9 101 [(0, 0, 0, 0, 0), (7, 3, 0, 0, 0)] := And.intro ⟨_, dX9_findRow_101, by decide⟩ (And.intro ⟨_, dX9_findRow_102, rfl⟩ trivial)
theorem bX9_findRow_103_106 : okB cX9_findRow RX9 103 [(3, 3, 0, 0, 0), (1, 0, 0, 0, 10)] := And.intro ⟨_, dX9_findRow_103, rfl⟩ (And.intro ⟨_, dX9_findRow_104, by decide⟩ trivial)
theorem bX9_findRow_166_172 : okB cX9_findRow RX9 166 [(5, 0, 0, 0, 0), (23, 32, 9, 13, 0), (3, 1, 0, 0, 0), (3, 2, 0, 0, 0)] := And.intro ⟨_, dX9_findRow_166, rfl⟩ (And.intro ⟨dX9_findRow_167, fl_X9_32⟩ (And.intro ⟨_, dX9_findRow_170, rfl⟩ (And.intro ⟨_, dX9_findRow_171, rfl⟩ trivial)))
theorem bX9_findRow_173_176 : okB cX9_findRow RX9 173 [(11, 1, 0, 0, (-1))] := And.intro ⟨_, dX9_findRow_173, by decide⟩ trivial
theorem bX9_findRow_109_117 : okB cX9_findRow RX9 109 [(5, 0, 0, 0, 0), (23, 79, 9, 7, 0), (3, 3, 0, 0, 0), (19, 0, 0, 0, 0), (0, 0, 0, 0, 1), (15, 0, 0, 0, 0)] := And.intro ⟨_, dX9_findRow_109, rfl⟩ (And.intro ⟨dX9_findRow_110, fl_X9_79⟩ (And.intro ⟨_, dX9_findRow_113, rfl⟩ (And.intro dX9_findRow_114 (And.intro ⟨_, dX9_findRow_115, by decide⟩ (And.intro dX9_findRow_116 trivial)))))
theorem bX9_findRow_160_163 : okB cX9_findRow RX9 160 [(11, 3, 0, 0, 1)] := And.intro ⟨_, dX9_findRow_160, by decide⟩ trivial
theorem bX9_findRow_120_126 : okB cX9_findRow RX9 120 [(3, 1, 0, 0, 0), (3, 3, 0, 0, 0), (19, 0, 0, 0, 0), (0, 0, 0, 0, 1), (15, 0, 0, 0, 0), (0, 0, 0, 0, 1)] := And.intro ⟨_, dX9_findRow_120, rfl⟩ (And.intro ⟨_, dX9_findRow_121, rfl⟩ (And.intro dX9_findRow_122 (And.intro ⟨_, dX9_findRow_123, by decide⟩ (And.intro dX9_findRow_124 (And.intro ⟨_, dX9_findRow_125, by decide⟩ trivial)))))
theorem bX9_findRow_132_135 : okB cX9_findRow RX9 132 [(5, 0, 0, 0, 0), (3, 3, 0, 0, 0), (3, 1, 0, 0, 0)] := And.intro ⟨_, dX9_findRow_132, rfl⟩ (And.intro ⟨_, dX9_findRow_133, rfl⟩ (And.intro ⟨_, dX9_findRow_134, rfl⟩ trivial))
theorem bX9_findRow_138_147 : okB cX9_findRow RX9 138 [(5, 0, 0, 0, 0), (23, 32, 9, 13, 0), (3, 1, 0, 0, 0), (0, 0, 0, 0, 1), (3, 3, 0, 0, 0), (18, 0, 0, 0, 0), (16, 0, 0, 0, 0)] := And.intro ⟨_, dX9_findRow_138, rfl⟩ (And.intro ⟨dX9_findRow_139, fl_X9_32⟩ (And.intro ⟨_, dX9_findRow_142, rfl⟩ (And.intro ⟨_, dX9_findRow_143, by decide⟩ (And.intro ⟨_, dX9_findRow_144, rfl⟩ (And.intro dX9_findRow_145 (And.intro dX9_findRow_146 trivial))))))
theorem bX9_findRow_148_154 : okB cX9_findRow RX9 148 [(12, 0, 0, 0, 0), (8, 4, 0, 0, 0), (4, 4, 0, 0, 0), (3, 2, 0, 0, 0)] := And.intro dX9_findRow_148 (And.intro dX9_findRow_149 (And.intro dX9_findRow_151 (And.intro ⟨_, dX9_findRow_153, rfl⟩ trivial)))
theorem bX9_findRow_157_163 : okB cX9_findRow RX9 157 [(4, 4, 0, 0, 0), (7, 2, 0, 0, 0), (11, 3, 0, 0, 1)] := And.intro dX9_findRow_157 (And.intro ⟨_, dX9_findRow_159, rfl⟩ (And.intro ⟨_, dX9_findRow_160, by decide⟩ trivial))
theorem bX9_findRow_86_91 : okB cX9_findRow RX9 86 [(3, 1, 0, 0, 0), (5, 0, 0, 0, 0), (23, 79, 9, 7, 0)] := And.intro ⟨_, dX9_findRow_86, rfl⟩ (And.intro ⟨_, dX9_findRow_87, rfl⟩ (And.intro ⟨dX9_findRow_88, fl_X9_79⟩ trivial))
theorem bX9_findRow_98_101 : okB cX9_findRow RX9 98 [(26, 82, 0, 0, 1000000000), (7, 2, 0, 0, 0)] := And.intro ⟨dX9_findRow_98, wk_X9_82⟩ (And.intro ⟨_, dX9_findRow_100, rfl⟩ trivial)
theorem bX9_findRow_94_95 : okB cX9_findRow RX9 94 [(0, 0, 0, 0, 0)] := And.intro ⟨_, dX9_findRow_94, by decide⟩ trivial
theorem bX9_findRow_100_101 : okB cX9_findRow RX9 100 [(7, 2, 0, 0, 0)] := And.intro ⟨_, dX9_findRow_100, rfl⟩ trivial
theorem bX9_findRow_13_15 : okB cX9_findRow RX9 13 [(0, 0, 0, 0, 0), (7, 2, 0, 0, 0)] := And.intro ⟨_, dX9_findRow_13, by decide⟩ (And.intro ⟨_, dX9_findRow_14, rfl⟩ trivial)
theorem bX9_findRow_15_18 : okB cX9_findRow RX9 15 [(3, 2, 0, 0, 0), (1, 0, 0, 0, 10)] := And.intro ⟨_, dX9_findRow_15, rfl⟩ (And.intro ⟨_, dX9_findRow_16, by decide⟩ trivial)
theorem bX9_findRow_57_60 : okB cX9_findRow RX9 57 [(11, 1, 0, 0, 1)] := And.intro ⟨_, dX9_findRow_57, by decide⟩ trivial
theorem bX9_findRow_21_31 : okB cX9_findRow RX9 21 [(5, 0, 0, 0, 0), (23, 7, 9, 1, 0), (1, 0, 0, 0, 10), (3, 1, 0, 0, 0), (14, 0, 0, 0, 0), (3, 2, 0, 0, 0), (12, 0, 0, 0, 0)] := And.intro ⟨_, dX9_findRow_21, rfl⟩ (And.intro ⟨dX9_findRow_22, fl_X9_7⟩ (And.intro ⟨_, dX9_findRow_25, by decide⟩ (And.intro ⟨_, dX9_findRow_27, rfl⟩ (And.intro dX9_findRow_28 (And.intro ⟨_, dX9_findRow_29, rfl⟩ (And.intro dX9_findRow_30 trivial))))))
theorem bX9_findRow_51_54 : okB cX9_findRow RX9 51 [(11, 2, 0, 0, 1)] := And.intro ⟨_, dX9_findRow_51, by decide⟩ trivial
theorem bX9_findRow_35_54 : okB cX9_findRow RX9 35 [(5, 0, 0, 0, 0), (5, 0, 0, 0, 0), (23, 79, 9, 7, 0), (0, 0, 0, 0, 1), (3, 1, 0, 0, 0), (18, 0, 0, 0, 0), (16, 0, 0, 0, 0), (0, 0, 0, 0, 1), (3, 2, 0, 0, 0), (18, 0, 0, 0, 0), (16, 0, 0, 0, 0), (24, 79, 9, 7, 0), (11, 2, 0, 0, 1)] := And.intro ⟨_, dX9_findRow_35, rfl⟩ (And.intro ⟨_, dX9_findRow_36, rfl⟩ (And.intro ⟨dX9_findRow_37, fl_X9_79⟩ (And.intro ⟨_, dX9_findRow_40, by decide⟩ (And.intro ⟨_, dX9_findRow_41, rfl⟩ (And.intro dX9_findRow_42 (And.intro dX9_findRow_43 (And.intro ⟨_, dX9_findRow_44, by decide⟩ (And.intro ⟨_, dX9_findRow_45, rfl⟩ (And.intro dX9_findRow_46 (And.intro dX9_findRow_47 (And.intro ⟨dX9_findRow_48, fl_X9_79, rfl, rfl⟩ (And.intro ⟨_, dX9_findRow_51, by decide⟩ trivial))))))))))))
set_option maxHeartbeats 4000000 in
set_option maxRecDepth 100000 in
theorem k_X9_findRow (l : Launch) (D : va_G) (ads : AD) (I A : HI) (po : Option AV → HI → HI → Prop) {pp_X9_flowsTo : HI → HI → Int32 → Int32 → Prop} {ff_X9_flowsTo : HI → HI → Int32 → Int32 → Int32} (hh_X9_flowsTo : ∀ (I A : HI) (a1 : Int32) (a2 : Int32), pp_X9_flowsTo I A a1 a2 → Ct l yX9_flowsTo cX9_flowsTo 5 (some .int) 0 0 D ads shp [.inr (some 96), .inl a1, .inl a2] I A (qI (ff_X9_flowsTo I A a1 a2) I A)) (Iv7 : Int32 → HI → Prop) (mu7 : Int32 → HI → Nat) (Iv68 : Int32 → HI → Int32 → HI → Prop) (mu68 : Int32 → HI → Int32 → HI → Nat) (Iv186 : Int32 → HI → Int32 → HI → Int32 → HI → HI → Prop) (mu186 : Int32 → HI → Int32 → HI → Int32 → HI → HI → Nat) (Iv295 : Int32 → HI → Int32 → HI → Int32 → HI → HI → Int32 → HI → HI → Prop) (mu295 : Int32 → HI → Int32 → HI → Int32 → HI → HI → Int32 → HI → HI → Nat) (Iv320 : Int32 → HI → Int32 → HI → Int32 → HI → HI → Int32 → HI → HI → Int32 → HI → Prop) (mu320 : Int32 → HI → Int32 → HI → Int32 → HI → HI → Int32 → HI → HI → Int32 → HI → Nat) (Iv196 : Int32 → HI → Int32 → HI → Int32 → HI → HI → Int32 → Prop) (mu196 : Int32 → HI → Int32 → HI → Int32 → HI → HI → Int32 → Nat) (Jn101 : Int32 → HI → Int32 → HI → Int32 → Prop) (Iv103 : Int32 → HI → Int32 → HI → Int32 → Int32 → Int32 → Prop) (mu103 : Int32 → HI → Int32 → HI → Int32 → Int32 → Int32 → Nat) (Iv15 : Int32 → HI → Int32 → HI → Prop) (mu15 : Int32 → HI → Int32 → HI → Nat)
    (hv : (Iv7 0 (up2 I 96 7 0) ∧ ∀ (x1_7 : Int32) (I_7 : HI), Iv7 x1_7 I_7 → ((10 ≤ x1_7 → (Iv68 x1_7 I_7 (I_7 96 7) A ∧ ∀ (x1_68 : Int32) (A_68 : HI), Iv68 x1_7 I_7 x1_68 A_68 → ((x1_68 < 0 → (Iv186 x1_7 I_7 x1_68 A_68 0 (up2 I_7 96 8 0) A_68 ∧ ∀ (x1_186 : Int32) (I_186 : HI) (A_186 : HI), Iv186 x1_7 I_7 x1_68 A_68 x1_186 I_186 A_186 → ((x1_186 = (I_186 96 7) → (Iv295 x1_7 I_7 x1_68 A_68 x1_186 I_186 A_186 0 (up2 I_186 96 12 0) A_186 ∧ ∀ (x2_295 : Int32) (I_295 : HI) (A_295 : HI), Iv295 x1_7 I_7 x1_68 A_68 x1_186 I_186 A_186 x2_295 I_295 A_295 → (((I_295 96 8) ≤ x2_295 → po none I_295 A_295) ∧ (¬ (I_295 96 8) ≤ x2_295 → (vp_in x2_295 10 ∧ (vp_in (A_295 100 x2_295.toNatClampNeg) 10 ∧ (Iv320 x1_7 I_7 x1_68 A_68 x1_186 I_186 A_186 x2_295 I_295 A_295 0 (up2 A_295 102 (A_295 100 x2_295.toNatClampNeg).toNatClampNeg 0) ∧ ∀ (x4_320 : Int32) (A_320 : HI), Iv320 x1_7 I_7 x1_68 A_68 x1_186 I_186 A_186 x2_295 I_295 A_295 x4_320 A_320 → ((x2_295 ≤ x4_320 → (vp_in (A_295 100 x2_295.toNatClampNeg) 10 ∧ (((A_320 102 (A_295 100 x2_295.toNatClampNeg).toNatClampNeg) < (I_295 96 12) → (Iv295 x1_7 I_7 x1_68 A_68 x1_186 I_186 A_186 (x2_295 + 1) I_295 A_320 ∧ mu295 x1_7 I_7 x1_68 A_68 x1_186 I_186 A_186 (x2_295 + 1) I_295 A_320 < mu295 x1_7 I_7 x1_68 A_68 x1_186 I_186 A_186 x2_295 I_295 A_295)) ∧ (¬ (A_320 102 (A_295 100 x2_295.toNatClampNeg).toNatClampNeg) < (I_295 96 12) → (vp_in (A_295 100 x2_295.toNatClampNeg) 10 ∧ (Iv295 x1_7 I_7 x1_68 A_68 x1_186 I_186 A_186 (x2_295 + 1) (up2 I_295 96 12 ((A_320 102 (A_295 100 x2_295.toNatClampNeg).toNatClampNeg) + 1)) A_320 ∧ mu295 x1_7 I_7 x1_68 A_68 x1_186 I_186 A_186 (x2_295 + 1) (up2 I_295 96 12 ((A_320 102 (A_295 100 x2_295.toNatClampNeg).toNatClampNeg) + 1)) A_320 < mu295 x1_7 I_7 x1_68 A_68 x1_186 I_186 A_186 x2_295 I_295 A_295)))))) ∧ (¬ x2_295 ≤ x4_320 → (vp_in x4_320 10 ∧ (vp_in ((10 * (A_320 100 x4_320.toNatClampNeg)) + (A_295 100 x2_295.toNatClampNeg)) 100 ∧ (((A_320 97 ((10 * (A_320 100 x4_320.toNatClampNeg)) + (A_295 100 x2_295.toNatClampNeg)).toNatClampNeg) ≤ 0 → (Iv320 x1_7 I_7 x1_68 A_68 x1_186 I_186 A_186 x2_295 I_295 A_295 (x4_320 + 1) A_320 ∧ mu320 x1_7 I_7 x1_68 A_68 x1_186 I_186 A_186 x2_295 I_295 A_295 (x4_320 + 1) A_320 < mu320 x1_7 I_7 x1_68 A_68 x1_186 I_186 A_186 x2_295 I_295 A_295 x4_320 A_320)) ∧ (¬ (A_320 97 ((10 * (A_320 100 x4_320.toNatClampNeg)) + (A_295 100 x2_295.toNatClampNeg)).toNatClampNeg) ≤ 0 → (vp_in x4_320 10 ∧ (vp_in (A_320 100 x4_320.toNatClampNeg) 10 ∧ (vp_in (A_295 100 x2_295.toNatClampNeg) 10 ∧ (((A_320 102 (A_320 100 x4_320.toNatClampNeg).toNatClampNeg) < (A_320 102 (A_295 100 x2_295.toNatClampNeg).toNatClampNeg) → (Iv320 x1_7 I_7 x1_68 A_68 x1_186 I_186 A_186 x2_295 I_295 A_295 (x4_320 + 1) A_320 ∧ mu320 x1_7 I_7 x1_68 A_68 x1_186 I_186 A_186 x2_295 I_295 A_295 (x4_320 + 1) A_320 < mu320 x1_7 I_7 x1_68 A_68 x1_186 I_186 A_186 x2_295 I_295 A_295 x4_320 A_320)) ∧ (¬ (A_320 102 (A_320 100 x4_320.toNatClampNeg).toNatClampNeg) < (A_320 102 (A_295 100 x2_295.toNatClampNeg).toNatClampNeg) → (vp_in x4_320 10 ∧ (vp_in (A_320 100 x4_320.toNatClampNeg) 10 ∧ (vp_in (A_295 100 x2_295.toNatClampNeg) 10 ∧ (Iv320 x1_7 I_7 x1_68 A_68 x1_186 I_186 A_186 x2_295 I_295 A_295 (x4_320 + 1) (up2 A_320 102 (A_295 100 x2_295.toNatClampNeg).toNatClampNeg ((A_320 102 (A_320 100 x4_320.toNatClampNeg).toNatClampNeg) + 1)) ∧ mu320 x1_7 I_7 x1_68 A_68 x1_186 I_186 A_186 x2_295 I_295 A_295 (x4_320 + 1) (up2 A_320 102 (A_295 100 x2_295.toNatClampNeg).toNatClampNeg ((A_320 102 (A_320 100 x4_320.toNatClampNeg).toNatClampNeg) + 1)) < mu320 x1_7 I_7 x1_68 A_68 x1_186 I_186 A_186 x2_295 I_295 A_295 x4_320 A_320)))))))))))))))))))))) ∧ (¬ x1_186 = (I_186 96 7) → (Iv196 x1_7 I_7 x1_68 A_68 x1_186 I_186 A_186 0 ∧ ∀ (x2_196 : Int32), Iv196 x1_7 I_7 x1_68 A_68 x1_186 I_186 A_186 x2_196 → (((((I_186 96 7) >>> (x2_196 &&& 31)) &&& 1) = 0 → (Iv196 x1_7 I_7 x1_68 A_68 x1_186 I_186 A_186 (x2_196 + 1) ∧ mu196 x1_7 I_7 x1_68 A_68 x1_186 I_186 A_186 (x2_196 + 1) < mu196 x1_7 I_7 x1_68 A_68 x1_186 I_186 A_186 x2_196)) ∧ (¬ (((I_186 96 7) >>> (x2_196 &&& 31)) &&& 1) = 0 → ((((x1_186 >>> (x2_196 &&& 31)) &&& 1) = 1 → (Iv196 x1_7 I_7 x1_68 A_68 x1_186 I_186 A_186 (x2_196 + 1) ∧ mu196 x1_7 I_7 x1_68 A_68 x1_186 I_186 A_186 (x2_196 + 1) < mu196 x1_7 I_7 x1_68 A_68 x1_186 I_186 A_186 x2_196)) ∧ (¬ ((x1_186 >>> (x2_196 &&& 31)) &&& 1) = 1 → ((pp_X9_flowsTo I_186 A_186 x2_196 x1_186) ∧ (vp_in (x1_186 ||| (1 <<< (x2_196 &&& 31))) 1024 ∧ (vp_in x1_186 1024 ∧ ((((ff_X9_flowsTo I_186 A_186 x2_196 x1_186) + (A_186 103 (x1_186 ||| (1 <<< (x2_196 &&& 31))).toNatClampNeg)) = (A_186 103 x1_186.toNatClampNeg) → (vp_in (I_186 96 8) 10 ∧ (vp_in x2_196 10 ∧ (Iv186 x1_7 I_7 x1_68 A_68 (x1_186 ||| (1 <<< (x2_196 &&& 31))) (up2 I_186 96 8 ((I_186 96 8) + 1)) (up2 (up2 A_186 100 (I_186 96 8).toNatClampNeg x2_196) 101 x2_196.toNatClampNeg (I_186 96 8)) ∧ mu186 x1_7 I_7 x1_68 A_68 (x1_186 ||| (1 <<< (x2_196 &&& 31))) (up2 I_186 96 8 ((I_186 96 8) + 1)) (up2 (up2 A_186 100 (I_186 96 8).toNatClampNeg x2_196) 101 x2_196.toNatClampNeg (I_186 96 8)) < mu186 x1_7 I_7 x1_68 A_68 x1_186 I_186 A_186)))) ∧ (¬ ((ff_X9_flowsTo I_186 A_186 x2_196 x1_186) + (A_186 103 (x1_186 ||| (1 <<< (x2_196 &&& 31))).toNatClampNeg)) = (A_186 103 x1_186.toNatClampNeg) → (Iv196 x1_7 I_7 x1_68 A_68 x1_186 I_186 A_186 (x2_196 + 1) ∧ mu196 x1_7 I_7 x1_68 A_68 x1_186 I_186 A_186 (x2_196 + 1) < mu196 x1_7 I_7 x1_68 A_68 x1_186 I_186 A_186 x2_196))))))))))))))) ∧ (¬ x1_68 < 0 → (((x1_68 &&& ((I_7 96 7) ^^^ ((-1)))) = 0 → ((∀ (x2_101 : Int32), Jn101 x1_7 I_7 x1_68 A_68 x2_101 → (Iv103 x1_7 I_7 x1_68 A_68 x2_101 x2_101 0 ∧ ∀ (x2_103 : Int32) (x3_103 : Int32), Iv103 x1_7 I_7 x1_68 A_68 x2_101 x2_103 x3_103 → ((10 ≤ x3_103 → (vp_in x1_68 1024 ∧ (Iv68 x1_7 I_7 (x1_68 + (-1)) (up2 A_68 103 x1_68.toNatClampNeg x2_103) ∧ mu68 x1_7 I_7 (x1_68 + (-1)) (up2 A_68 103 x1_68.toNatClampNeg x2_103) < mu68 x1_7 I_7 x1_68 A_68))) ∧ (¬ 10 ≤ x3_103 → (((((I_7 96 7) >>> (x3_103 &&& 31)) &&& 1) = 0 → (Iv103 x1_7 I_7 x1_68 A_68 x2_101 x2_103 (x3_103 + 1) ∧ mu103 x1_7 I_7 x1_68 A_68 x2_101 x2_103 (x3_103 + 1) < mu103 x1_7 I_7 x1_68 A_68 x2_101 x2_103 x3_103)) ∧ (¬ (((I_7 96 7) >>> (x3_103 &&& 31)) &&& 1) = 0 → ((¬ ((x1_68 >>> (x3_103 &&& 31)) &&& 1) = 1 → ((pp_X9_flowsTo I_7 A_68 x3_103 x1_68) ∧ (vp_in (x1_68 ||| (1 <<< (x3_103 &&& 31))) 1024 ∧ ((x2_103 ≤ ((ff_X9_flowsTo I_7 A_68 x3_103 x1_68) + (A_68 103 (x1_68 ||| (1 <<< (x3_103 &&& 31))).toNatClampNeg)) → (Iv103 x1_7 I_7 x1_68 A_68 x2_101 x2_103 (x3_103 + 1) ∧ mu103 x1_7 I_7 x1_68 A_68 x2_101 x2_103 (x3_103 + 1) < mu103 x1_7 I_7 x1_68 A_68 x2_101 x2_103 x3_103)) ∧ (¬ x2_103 ≤ ((ff_X9_flowsTo I_7 A_68 x3_103 x1_68) + (A_68 103 (x1_68 ||| (1 <<< (x3_103 &&& 31))).toNatClampNeg)) → (Iv103 x1_7 I_7 x1_68 A_68 x2_101 ((ff_X9_flowsTo I_7 A_68 x3_103 x1_68) + (A_68 103 (x1_68 ||| (1 <<< (x3_103 &&& 31))).toNatClampNeg)) (x3_103 + 1) ∧ mu103 x1_7 I_7 x1_68 A_68 x2_101 ((ff_X9_flowsTo I_7 A_68 x3_103 x1_68) + (A_68 103 (x1_68 ||| (1 <<< (x3_103 &&& 31))).toNatClampNeg)) (x3_103 + 1) < mu103 x1_7 I_7 x1_68 A_68 x2_101 x2_103 x3_103)))))) ∧ (((x1_68 >>> (x3_103 &&& 31)) &&& 1) = 1 → (Iv103 x1_7 I_7 x1_68 A_68 x2_101 x2_103 (x3_103 + 1) ∧ mu103 x1_7 I_7 x1_68 A_68 x2_101 x2_103 (x3_103 + 1) < mu103 x1_7 I_7 x1_68 A_68 x2_101 x2_103 x3_103))))))))) ∧ ((¬ x1_68 = (I_7 96 7) → (Jn101 x1_7 I_7 x1_68 A_68 1000000000)) ∧ (x1_68 = (I_7 96 7) → (Jn101 x1_7 I_7 x1_68 A_68 0))))) ∧ (¬ (x1_68 &&& ((I_7 96 7) ^^^ ((-1)))) = 0 → (Iv68 x1_7 I_7 (x1_68 + (-1)) A_68 ∧ mu68 x1_7 I_7 (x1_68 + (-1)) A_68 < mu68 x1_7 I_7 x1_68 A_68))))))) ∧ (¬ 10 ≤ x1_7 → (Iv15 x1_7 I_7 0 I_7 ∧ ∀ (x2_15 : Int32) (I_15 : HI), Iv15 x1_7 I_7 x2_15 I_15 → ((10 ≤ x2_15 → (Iv7 (x1_7 + 1) I_15 ∧ mu7 (x1_7 + 1) I_15 < mu7 x1_7 I_7)) ∧ (¬ 10 ≤ x2_15 → (vp_in ((10 * x1_7) + x2_15) 100 ∧ (((A 97 ((10 * x1_7) + x2_15).toNatClampNeg) ≤ 0 → (Iv15 x1_7 I_7 (x2_15 + 1) I_15 ∧ mu15 x1_7 I_7 (x2_15 + 1) I_15 < mu15 x1_7 I_7 x2_15 I_15)) ∧ (¬ (A 97 ((10 * x1_7) + x2_15).toNatClampNeg) ≤ 0 → (Iv15 x1_7 I_7 (x2_15 + 1) (up2 I_15 96 7 (((I_15 96 7) ||| (1 <<< (x1_7 &&& 31))) ||| (1 <<< (x2_15 &&& 31)))) ∧ mu15 x1_7 I_7 (x2_15 + 1) (up2 I_15 96 7 (((I_15 96 7) ||| (1 <<< (x1_7 &&& 31))) ||| (1 <<< (x2_15 &&& 31)))) < mu15 x1_7 I_7 x2_15 I_15))))))))))) : Ct l yX9_findRow cX9_findRow 5 none 1 24 D ads shp [.inr (some 96)] I A po := by
  refine Ct_of (by decide) (Nat.le_of_ble_eq_true rfl) ?_
  intro p e s m args below meth c hC hr
  replace hC : CX p s m args meth c cX9_findRow 5 RX9 (AdS ads s.heap.size) := hC
  show Gm p l e s m args below meth c D ads 1 24 5 po I A 0 [some (.inr (some 96)), none, none, none, none] []
  refine g_blk hC _ bX9_findRow_0_7 (pc' := 7) (ls' := [some (.inr (some 96)), some (.inl 0), none, none, none]) (st' := []) (I' := up2 I 96 7 0) rfl rfl ?_
  obtain ⟨hi7, hb7⟩ := hv
  have L7 : ∀ (n : Nat) (x1_7 : Int32) (I_7 : HI), Iv7 x1_7 I_7 → mu7 x1_7 I_7 < n → Gm p l e s m args below meth c D ads 1 24 5 po I_7 A 7 [some (.inr (some 96)), some (.inl x1_7), none, none, none] [] := by
    intro n
    induction n with
    | zero => intro x1_7 I_7 _ hn; exact absurd hn (Nat.not_lt_zero _)
    | succ n ih7 =>
      intro x1_7 I_7 hv hn7
      replace hv := hb7 x1_7 I_7 hv
      skip
      refine g_blk hC _ bX9_findRow_7_10 (pc' := 10) (ls' := [some (.inr (some 96)), some (.inl x1_7), none, none, none]) (st' := [.inl 10, .inl x1_7]) (I' := I_7) rfl rfl ?_
      obtain ⟨hv1, hv2⟩ := hv
      refine g_cge hC dX9_findRow_10 (tgt := 63) (by decide) (fun hc => ?_) (fun hc => ?_)
      · have hv := hv1 hc
        clear hv1 hv2 hc
        refine g_blk hC _ bX9_findRow_63_68 (pc' := 68) (ls' := [some (.inr (some 96)), some (.inl (I_7 96 7)), none, none, none]) (st' := []) (I' := I_7) rfl rfl ?_
        obtain ⟨hi68, hb68⟩ := hv
        have L68 : ∀ (n : Nat) (x1_68 : Int32) (A_68 : HI), Iv68 x1_7 I_7 x1_68 A_68 → mu68 x1_7 I_7 x1_68 A_68 < n → Gm p l e s m args below meth c D ads 1 24 5 po I_7 A_68 68 [some (.inr (some 96)), some (.inl x1_68), none, none, none] [] := by
          intro n
          induction n with
          | zero => intro x1_68 A_68 _ hn; exact absurd hn (Nat.not_lt_zero _)
          | succ n ih68 =>
            intro x1_68 A_68 hv hn68
            replace hv := hb68 x1_68 A_68 hv
            skip
            refine g_blk hC _ bX9_findRow_68_69 (pc' := 69) (ls' := [some (.inr (some 96)), some (.inl x1_68), none, none, none]) (st' := [.inl x1_68]) (I' := I_7) rfl rfl ?_
            obtain ⟨hv1, hv2⟩ := hv
            refine g_iflt hC dX9_findRow_69 (tgt := 179) (by decide) (fun hc => ?_) (fun hc => ?_)
            · have hv := hv1 hc
              clear hv1 hv2 hc
              refine g_blk hC _ bX9_findRow_179_186 (pc' := 186) (ls' := [some (.inr (some 96)), some (.inl 0), none, none, none]) (st' := []) (I' := up2 I_7 96 8 0) rfl rfl ?_
              obtain ⟨hi186, hb186⟩ := hv
              have L186 : ∀ (n : Nat) (x1_186 : Int32) (I_186 : HI) (A_186 : HI), Iv186 x1_7 I_7 x1_68 A_68 x1_186 I_186 A_186 → mu186 x1_7 I_7 x1_68 A_68 x1_186 I_186 A_186 < n → Gm p l e s m args below meth c D ads 1 24 5 po I_186 A_186 186 [some (.inr (some 96)), some (.inl x1_186), none, none, none] [] := by
                intro n
                induction n with
                | zero => intro x1_186 I_186 A_186 _ hn; exact absurd hn (Nat.not_lt_zero _)
                | succ n ih186 =>
                  intro x1_186 I_186 A_186 hv hn186
                  replace hv := hb186 x1_186 I_186 A_186 hv
                  skip
                  refine g_blk hC _ bX9_findRow_186_191 (pc' := 191) (ls' := [some (.inr (some 96)), some (.inl x1_186), none, none, none]) (st' := [.inl (I_186 96 7), .inl x1_186]) (I' := I_186) rfl rfl ?_
                  obtain ⟨hv1, hv2⟩ := hv
                  refine g_ceq hC dX9_findRow_191 (tgt := 288) (by decide) (fun hc => ?_) (fun hc => ?_)
                  · have hv := hv1 hc
                    clear hv1 hv2 hc
                    refine g_blk hC _ bX9_findRow_288_295 (pc' := 295) (ls' := [some (.inr (some 96)), some (.inl x1_186), some (.inl 0), none, none]) (st' := []) (I' := up2 I_186 96 12 0) rfl rfl ?_
                    obtain ⟨hi295, hb295⟩ := hv
                    have L295 : ∀ (n : Nat) (x2_295 : Int32) (I_295 : HI) (A_295 : HI), Iv295 x1_7 I_7 x1_68 A_68 x1_186 I_186 A_186 x2_295 I_295 A_295 → mu295 x1_7 I_7 x1_68 A_68 x1_186 I_186 A_186 x2_295 I_295 A_295 < n → Gm p l e s m args below meth c D ads 1 24 5 po I_295 A_295 295 [some (.inr (some 96)), none, some (.inl x2_295), none, none] [] := by
                      intro n
                      induction n with
                      | zero => intro x2_295 I_295 A_295 _ hn; exact absurd hn (Nat.not_lt_zero _)
                      | succ n ih295 =>
                        intro x2_295 I_295 A_295 hv hn295
                        replace hv := hb295 x2_295 I_295 A_295 hv
                        skip
                        refine g_blk hC _ bX9_findRow_295_300 (pc' := 300) (ls' := [some (.inr (some 96)), none, some (.inl x2_295), none, none]) (st' := [.inl (I_295 96 8), .inl x2_295]) (I' := I_295) rfl rfl ?_
                        obtain ⟨hv1, hv2⟩ := hv
                        refine g_cge hC dX9_findRow_300 (tgt := 424) (by decide) (fun hc => ?_) (fun hc => ?_)
                        · have hv := hv1 hc
                          clear hv1 hv2 hc
                          exact g_retv hC hr dX9_findRow_424 hv
                        · have hv := hv2 hc
                          clear hv1 hv2 hc
                          refine g_blk hC _ bX9_findRow_303_308 (pc' := 308) (ls' := [some (.inr (some 96)), none, some (.inl x2_295), none, none]) (st' := [.inl x2_295, .inr (some 100)]) (I' := I_295) rfl rfl ?_
                          obtain ⟨hi, hv⟩ := hv
                          refine g_iald hC dX9_findRow_308 (rfl) hi ?_
                          clear hi
                          refine g_blk hC _ bX9_findRow_309_316 (pc' := 316) (ls' := [some (.inr (some 96)), none, some (.inl x2_295), some (.inl (A_295 100 x2_295.toNatClampNeg)), none]) (st' := [.inl 0, .inl (A_295 100 x2_295.toNatClampNeg), .inr (some 102)]) (I' := I_295) rfl rfl ?_
                          obtain ⟨hi, hv⟩ := hv
                          refine g_iast hC dX9_findRow_316 (rfl) hi ?_
                          clear hi
                          refine g_blk hC _ bX9_findRow_317_320 (pc' := 320) (ls' := [some (.inr (some 96)), none, some (.inl x2_295), some (.inl (A_295 100 x2_295.toNatClampNeg)), some (.inl 0)]) (st' := []) (I' := I_295) rfl rfl ?_
                          obtain ⟨hi320, hb320⟩ := hv
                          have L320 : ∀ (n : Nat) (x4_320 : Int32) (A_320 : HI), Iv320 x1_7 I_7 x1_68 A_68 x1_186 I_186 A_186 x2_295 I_295 A_295 x4_320 A_320 → mu320 x1_7 I_7 x1_68 A_68 x1_186 I_186 A_186 x2_295 I_295 A_295 x4_320 A_320 < n → Gm p l e s m args below meth c D ads 1 24 5 po I_295 A_320 320 [some (.inr (some 96)), none, some (.inl x2_295), some (.inl (A_295 100 x2_295.toNatClampNeg)), some (.inl x4_320)] [] := by
                            intro n
                            induction n with
                            | zero => intro x4_320 A_320 _ hn; exact absurd hn (Nat.not_lt_zero _)
                            | succ n ih320 =>
                              intro x4_320 A_320 hv hn320
                              replace hv := hb320 x4_320 A_320 hv
                              skip
                              refine g_blk hC _ bX9_findRow_320_323 (pc' := 323) (ls' := [some (.inr (some 96)), none, some (.inl x2_295), some (.inl (A_295 100 x2_295.toNatClampNeg)), some (.inl x4_320)]) (st' := [.inl x2_295, .inl x4_320]) (I' := I_295) rfl rfl ?_
                              obtain ⟨hv1, hv2⟩ := hv
                              refine g_cge hC dX9_findRow_323 (tgt := 393) (by decide) (fun hc => ?_) (fun hc => ?_)
                              · have hv := hv1 hc
                                clear hv1 hv2 hc
                                refine g_blk hC _ bX9_findRow_393_398 (pc' := 398) (ls' := [some (.inr (some 96)), none, some (.inl x2_295), some (.inl (A_295 100 x2_295.toNatClampNeg)), some (.inl x4_320)]) (st' := [.inl (A_295 100 x2_295.toNatClampNeg), .inr (some 102)]) (I' := I_295) rfl rfl ?_
                                obtain ⟨hi, hv⟩ := hv
                                refine g_iald hC dX9_findRow_398 (rfl) hi ?_
                                clear hi
                                refine g_blk hC _ bX9_findRow_399_403 (pc' := 403) (ls' := [some (.inr (some 96)), none, some (.inl x2_295), some (.inl (A_295 100 x2_295.toNatClampNeg)), some (.inl x4_320)]) (st' := [.inl (I_295 96 12), .inl (A_320 102 (A_295 100 x2_295.toNatClampNeg).toNatClampNeg)]) (I' := I_295) rfl rfl ?_
                                obtain ⟨hv1, hv2⟩ := hv
                                refine g_clt hC dX9_findRow_403 (tgt := 418) (by decide) (fun hc => ?_) (fun hc => ?_)
                                · have hv := hv1 hc
                                  clear hv1 hv2 hc
                                  refine g_blk hC _ bX9_findRow_418_421 (pc' := 421) (ls' := [some (.inr (some 96)), none, some (.inl (x2_295 + 1)), some (.inl (A_295 100 x2_295.toNatClampNeg)), some (.inl x4_320)]) (st' := []) (I' := I_295) rfl rfl ?_
                                  refine g_goto hC dX9_findRow_421 (tgt := 295) (by decide) ?_
                                  exact g_weak (ls1 := [some (.inr (some 96)), none, some (.inl (x2_295 + 1)), none, none]) rfl (And.intro rfl (And.intro rfl trivial)) (ih295 (x2_295 + 1) I_295 A_320 hv.1 (Nat.lt_of_lt_of_le hv.2 (Nat.le_of_lt_succ hn295)))
                                · have hv := hv2 hc
                                  clear hv1 hv2 hc
                                  refine g_blk hC _ bX9_findRow_406_412 (pc' := 412) (ls' := [some (.inr (some 96)), none, some (.inl x2_295), some (.inl (A_295 100 x2_295.toNatClampNeg)), some (.inl x4_320)]) (st' := [.inl (A_295 100 x2_295.toNatClampNeg), .inr (some 102), .inr (some 96)]) (I' := I_295) rfl rfl ?_
                                  obtain ⟨hi, hv⟩ := hv
                                  refine g_iald hC dX9_findRow_412 (rfl) hi ?_
                                  clear hi
                                  refine g_blk hC _ bX9_findRow_413_421 (pc' := 421) (ls' := [some (.inr (some 96)), none, some (.inl (x2_295 + 1)), some (.inl (A_295 100 x2_295.toNatClampNeg)), some (.inl x4_320)]) (st' := []) (I' := up2 I_295 96 12 ((A_320 102 (A_295 100 x2_295.toNatClampNeg).toNatClampNeg) + 1)) rfl rfl ?_
                                  refine g_goto hC dX9_findRow_421 (tgt := 295) (by decide) ?_
                                  exact g_weak (ls1 := [some (.inr (some 96)), none, some (.inl (x2_295 + 1)), none, none]) rfl (And.intro rfl (And.intro rfl trivial)) (ih295 (x2_295 + 1) (up2 I_295 96 12 ((A_320 102 (A_295 100 x2_295.toNatClampNeg).toNatClampNeg) + 1)) A_320 hv.1 (Nat.lt_of_lt_of_le hv.2 (Nat.le_of_lt_succ hn295)))
                              · have hv := hv2 hc
                                clear hv1 hv2 hc
                                refine g_blk hC _ bX9_findRow_326_338 (pc' := 338) (ls' := [some (.inr (some 96)), none, some (.inl x2_295), some (.inl (A_295 100 x2_295.toNatClampNeg)), some (.inl x4_320)]) (st' := [.inl x4_320, .inr (some 100), .inl 10, .inr (some 97)]) (I' := I_295) rfl rfl ?_
                                obtain ⟨hi, hv⟩ := hv
                                refine g_iald hC dX9_findRow_338 (rfl) hi ?_
                                clear hi
                                refine g_blk hC _ bX9_findRow_339_342 (pc' := 342) (ls' := [some (.inr (some 96)), none, some (.inl x2_295), some (.inl (A_295 100 x2_295.toNatClampNeg)), some (.inl x4_320)]) (st' := [.inl ((10 * (A_320 100 x4_320.toNatClampNeg)) + (A_295 100 x2_295.toNatClampNeg)), .inr (some 97)]) (I' := I_295) rfl rfl ?_
                                obtain ⟨hi, hv⟩ := hv
                                refine g_iald hC dX9_findRow_342 (rfl) hi ?_
                                clear hi
                                obtain ⟨hv1, hv2⟩ := hv
                                refine g_ifle hC dX9_findRow_343 (tgt := 387) (by decide) (fun hc => ?_) (fun hc => ?_)
                                · have hv := hv1 hc
                                  clear hv1 hv2 hc
                                  refine g_blk hC _ bX9_findRow_387_390 (pc' := 390) (ls' := [some (.inr (some 96)), none, some (.inl x2_295), some (.inl (A_295 100 x2_295.toNatClampNeg)), some (.inl (x4_320 + 1))]) (st' := []) (I' := I_295) rfl rfl ?_
                                  refine g_goto hC dX9_findRow_390 (tgt := 320) (by decide) ?_
                                  exact g_weak (ls1 := [some (.inr (some 96)), none, some (.inl x2_295), some (.inl (A_295 100 x2_295.toNatClampNeg)), some (.inl (x4_320 + 1))]) rfl (And.intro rfl (And.intro rfl (And.intro rfl (And.intro rfl trivial)))) (ih320 (x4_320 + 1) A_320 hv.1 (Nat.lt_of_lt_of_le hv.2 (Nat.le_of_lt_succ hn320)))
                                · have hv := hv2 hc
                                  clear hv1 hv2 hc
                                  refine g_blk hC _ bX9_findRow_346_356 (pc' := 356) (ls' := [some (.inr (some 96)), none, some (.inl x2_295), some (.inl (A_295 100 x2_295.toNatClampNeg)), some (.inl x4_320)]) (st' := [.inl x4_320, .inr (some 100), .inr (some 102)]) (I' := I_295) rfl rfl ?_
                                  obtain ⟨hi, hv⟩ := hv
                                  refine g_iald hC dX9_findRow_356 (rfl) hi ?_
                                  clear hi
                                  obtain ⟨hi, hv⟩ := hv
                                  refine g_iald hC dX9_findRow_357 (rfl) hi ?_
                                  clear hi
                                  refine g_blk hC _ bX9_findRow_358_363 (pc' := 363) (ls' := [some (.inr (some 96)), none, some (.inl x2_295), some (.inl (A_295 100 x2_295.toNatClampNeg)), some (.inl x4_320)]) (st' := [.inl (A_295 100 x2_295.toNatClampNeg), .inr (some 102), .inl (A_320 102 (A_320 100 x4_320.toNatClampNeg).toNatClampNeg)]) (I' := I_295) rfl rfl ?_
                                  obtain ⟨hi, hv⟩ := hv
                                  refine g_iald hC dX9_findRow_363 (rfl) hi ?_
                                  clear hi
                                  obtain ⟨hv1, hv2⟩ := hv
                                  refine g_clt hC dX9_findRow_364 (tgt := 387) (by decide) (fun hc => ?_) (fun hc => ?_)
                                  · have hv := hv1 hc
                                    clear hv1 hv2 hc
                                    refine g_blk hC _ bX9_findRow_387_390 (pc' := 390) (ls' := [some (.inr (some 96)), none, some (.inl x2_295), some (.inl (A_295 100 x2_295.toNatClampNeg)), some (.inl (x4_320 + 1))]) (st' := []) (I' := I_295) rfl rfl ?_
                                    refine g_goto hC dX9_findRow_390 (tgt := 320) (by decide) ?_
                                    exact g_weak (ls1 := [some (.inr (some 96)), none, some (.inl x2_295), some (.inl (A_295 100 x2_295.toNatClampNeg)), some (.inl (x4_320 + 1))]) rfl (And.intro rfl (And.intro rfl (And.intro rfl (And.intro rfl trivial)))) (ih320 (x4_320 + 1) A_320 hv.1 (Nat.lt_of_lt_of_le hv.2 (Nat.le_of_lt_succ hn320)))
                                  · have hv := hv2 hc
                                    clear hv1 hv2 hc
                                    refine g_blk hC _ bX9_findRow_367_382 (pc' := 382) (ls' := [some (.inr (some 96)), none, some (.inl x2_295), some (.inl (A_295 100 x2_295.toNatClampNeg)), some (.inl x4_320)]) (st' := [.inl x4_320, .inr (some 100), .inr (some 102), .inl (A_295 100 x2_295.toNatClampNeg), .inr (some 102)]) (I' := I_295) rfl rfl ?_
                                    obtain ⟨hi, hv⟩ := hv
                                    refine g_iald hC dX9_findRow_382 (rfl) hi ?_
                                    clear hi
                                    obtain ⟨hi, hv⟩ := hv
                                    refine g_iald hC dX9_findRow_383 (rfl) hi ?_
                                    clear hi
                                    refine g_blk hC _ bX9_findRow_384_386 (pc' := 386) (ls' := [some (.inr (some 96)), none, some (.inl x2_295), some (.inl (A_295 100 x2_295.toNatClampNeg)), some (.inl x4_320)]) (st' := [.inl ((A_320 102 (A_320 100 x4_320.toNatClampNeg).toNatClampNeg) + 1), .inl (A_295 100 x2_295.toNatClampNeg), .inr (some 102)]) (I' := I_295) rfl rfl ?_
                                    obtain ⟨hi, hv⟩ := hv
                                    refine g_iast hC dX9_findRow_386 (rfl) hi ?_
                                    clear hi
                                    refine g_blk hC _ bX9_findRow_387_390 (pc' := 390) (ls' := [some (.inr (some 96)), none, some (.inl x2_295), some (.inl (A_295 100 x2_295.toNatClampNeg)), some (.inl (x4_320 + 1))]) (st' := []) (I' := I_295) rfl rfl ?_
                                    refine g_goto hC dX9_findRow_390 (tgt := 320) (by decide) ?_
                                    exact g_weak (ls1 := [some (.inr (some 96)), none, some (.inl x2_295), some (.inl (A_295 100 x2_295.toNatClampNeg)), some (.inl (x4_320 + 1))]) rfl (And.intro rfl (And.intro rfl (And.intro rfl (And.intro rfl trivial)))) (ih320 (x4_320 + 1) (up2 A_320 102 (A_295 100 x2_295.toNatClampNeg).toNatClampNeg ((A_320 102 (A_320 100 x4_320.toNatClampNeg).toNatClampNeg) + 1)) hv.1 (Nat.lt_of_lt_of_le hv.2 (Nat.le_of_lt_succ hn320)))
                          exact g_weak (ls1 := [some (.inr (some 96)), none, some (.inl x2_295), some (.inl (A_295 100 x2_295.toNatClampNeg)), some (.inl 0)]) rfl (And.intro rfl (And.intro rfl (And.intro rfl (And.intro rfl trivial)))) (L320 _ 0 (up2 A_295 102 (A_295 100 x2_295.toNatClampNeg).toNatClampNeg 0) hi320 (Nat.lt_succ_self _))
                    exact g_weak (ls1 := [some (.inr (some 96)), none, some (.inl 0), none, none]) rfl (And.intro rfl (And.intro rfl trivial)) (L295 _ 0 (up2 I_186 96 12 0) A_186 hi295 (Nat.lt_succ_self _))
                  · have hv := hv2 hc
                    clear hv1 hv2 hc
                    refine g_blk hC _ bX9_findRow_194_196 (pc' := 196) (ls' := [some (.inr (some 96)), some (.inl x1_186), some (.inl 0), none, none]) (st' := []) (I' := I_186) rfl rfl ?_
                    obtain ⟨hi196, hb196⟩ := hv
                    have L196 : ∀ (n : Nat) (x2_196 : Int32), Iv196 x1_7 I_7 x1_68 A_68 x1_186 I_186 A_186 x2_196 → mu196 x1_7 I_7 x1_68 A_68 x1_186 I_186 A_186 x2_196 < n → Gm p l e s m args below meth c D ads 1 24 5 po I_186 A_186 196 [some (.inr (some 96)), some (.inl x1_186), some (.inl x2_196), none, none] [] := by
                      intro n
                      induction n with
                      | zero => intro x2_196 _ hn; exact absurd hn (Nat.not_lt_zero _)
                      | succ n ih196 =>
                        intro x2_196 hv hn196
                        replace hv := hb196 x2_196 hv
                        skip
                        refine g_blk hC _ bX9_findRow_196_204 (pc' := 204) (ls' := [some (.inr (some 96)), some (.inl x1_186), some (.inl x2_196), none, none]) (st' := [.inl (((I_186 96 7) >>> (x2_196 &&& 31)) &&& 1)]) (I' := I_186) rfl rfl ?_
                        obtain ⟨hv1, hv2⟩ := hv
                        refine g_ifeq hC dX9_findRow_204 (tgt := 242) (by decide) (fun hc => ?_) (fun hc => ?_)
                        · have hv := hv1 hc
                          clear hv1 hv2 hc
                          refine g_blk hC _ bX9_findRow_242_246 (pc' := 246) (ls' := [some (.inr (some 96)), some (.inl x1_186), some (.inl (x2_196 + 1)), none, none]) (st' := []) (I' := I_186) rfl rfl ?_
                          refine g_goto hC dX9_findRow_246 (tgt := 196) (by decide) ?_
                          exact g_weak (ls1 := [some (.inr (some 96)), some (.inl x1_186), some (.inl (x2_196 + 1)), none, none]) rfl (And.intro rfl (And.intro rfl (And.intro rfl trivial))) (ih196 (x2_196 + 1) hv.1 (Nat.lt_of_lt_of_le hv.2 (Nat.le_of_lt_succ hn196)))
                        · have hv := hv2 hc
                          clear hv1 hv2 hc
                          refine g_blk hC _ bX9_findRow_207_213 (pc' := 213) (ls' := [some (.inr (some 96)), some (.inl x1_186), some (.inl x2_196), none, none]) (st' := [.inl 1, .inl ((x1_186 >>> (x2_196 &&& 31)) &&& 1)]) (I' := I_186) rfl rfl ?_
                          obtain ⟨hv1, hv2⟩ := hv
                          refine g_ceq hC dX9_findRow_213 (tgt := 242) (by decide) (fun hc => ?_) (fun hc => ?_)
                          · have hv := hv1 hc
                            clear hv1 hv2 hc
                            refine g_blk hC _ bX9_findRow_242_246 (pc' := 246) (ls' := [some (.inr (some 96)), some (.inl x1_186), some (.inl (x2_196 + 1)), none, none]) (st' := []) (I' := I_186) rfl rfl ?_
                            refine g_goto hC dX9_findRow_246 (tgt := 196) (by decide) ?_
                            exact g_weak (ls1 := [some (.inr (some 96)), some (.inl x1_186), some (.inl (x2_196 + 1)), none, none]) rfl (And.intro rfl (And.intro rfl (And.intro rfl trivial))) (ih196 (x2_196 + 1) hv.1 (Nat.lt_of_lt_of_le hv.2 (Nat.le_of_lt_succ hn196)))
                          · have hv := hv2 hc
                            clear hv1 hv2 hc
                            refine g_blk hC _ bX9_findRow_216_219 (pc' := 219) (ls' := [some (.inr (some 96)), some (.inl x1_186), some (.inl x2_196), none, none]) (st' := [.inl x1_186, .inl x2_196, .inr (some 96)]) (I' := I_186) rfl rfl ?_
                            obtain ⟨hp1, hv⟩ := hv
                            refine g_callV hC (hh_X9_flowsTo I_186 A_186 x2_196 x1_186 hp1) dX9_findRow_219 nm_X9_flowsTo rfl rfl wl_X9_83 wi_X9_flowsTo ws_X9_flowsTo wn_X9 wc_X9_flowsTo ⟨by decide, by decide⟩ (as := [.inl x2_196, .inl x1_186]) (rest := []) rfl (Nat.le_of_ble_eq_true rfl) ⟨Nat.le_refl _, Nat.le_refl _⟩ (k_qI ?_)
                            refine g_blk hC _ bX9_findRow_222_231 (pc' := 231) (ls' := [some (.inr (some 96)), some (.inl x1_186), some (.inl x2_196), none, none]) (st' := [.inl (x1_186 ||| (1 <<< (x2_196 &&& 31))), .inr (some 103), .inl (ff_X9_flowsTo I_186 A_186 x2_196 x1_186)]) (I' := I_186) rfl rfl ?_
                            obtain ⟨hi, hv⟩ := hv
                            refine g_iald hC dX9_findRow_231 (rfl) hi ?_
                            clear hi
                            refine g_blk hC _ bX9_findRow_232_238 (pc' := 238) (ls' := [some (.inr (some 96)), some (.inl x1_186), some (.inl x2_196), none, none]) (st' := [.inl x1_186, .inr (some 103), .inl ((ff_X9_flowsTo I_186 A_186 x2_196 x1_186) + (A_186 103 (x1_186 ||| (1 <<< (x2_196 &&& 31))).toNatClampNeg))]) (I' := I_186) rfl rfl ?_
                            obtain ⟨hi, hv⟩ := hv
                            refine g_iald hC dX9_findRow_238 (rfl) hi ?_
                            clear hi
                            obtain ⟨hv1, hv2⟩ := hv
                            refine g_ceq hC dX9_findRow_239 (tgt := 249) (by decide) (fun hc => ?_) (fun hc => ?_)
                            · have hv := hv1 hc
                              clear hv1 hv2 hc
                              refine g_blk hC _ bX9_findRow_249_258 (pc' := 258) (ls' := [some (.inr (some 96)), some (.inl x1_186), some (.inl x2_196), none, none]) (st' := [.inl x2_196, .inl (I_186 96 8), .inr (some 100)]) (I' := I_186) rfl rfl ?_
                              obtain ⟨hi, hv⟩ := hv
                              refine g_iast hC dX9_findRow_258 (rfl) hi ?_
                              clear hi
                              refine g_blk hC _ bX9_findRow_259_268 (pc' := 268) (ls' := [some (.inr (some 96)), some (.inl x1_186), some (.inl x2_196), none, none]) (st' := [.inl (I_186 96 8), .inl x2_196, .inr (some 101)]) (I' := I_186) rfl rfl ?_
                              obtain ⟨hi, hv⟩ := hv
                              refine g_iast hC dX9_findRow_268 (rfl) hi ?_
                              clear hi
                              refine g_blk hC _ bX9_findRow_269_285 (pc' := 285) (ls' := [some (.inr (some 96)), some (.inl (x1_186 ||| (1 <<< (x2_196 &&& 31)))), some (.inl x2_196), none, none]) (st' := []) (I' := up2 I_186 96 8 ((I_186 96 8) + 1)) rfl rfl ?_
                              refine g_goto hC dX9_findRow_285 (tgt := 186) (by decide) ?_
                              exact g_weak (ls1 := [some (.inr (some 96)), some (.inl (x1_186 ||| (1 <<< (x2_196 &&& 31)))), none, none, none]) rfl (And.intro rfl (And.intro rfl trivial)) (ih186 (x1_186 ||| (1 <<< (x2_196 &&& 31))) (up2 I_186 96 8 ((I_186 96 8) + 1)) (up2 (up2 A_186 100 (I_186 96 8).toNatClampNeg x2_196) 101 x2_196.toNatClampNeg (I_186 96 8)) hv.1 (Nat.lt_of_lt_of_le hv.2 (Nat.le_of_lt_succ hn186)))
                            · have hv := hv2 hc
                              clear hv1 hv2 hc
                              refine g_blk hC _ bX9_findRow_242_246 (pc' := 246) (ls' := [some (.inr (some 96)), some (.inl x1_186), some (.inl (x2_196 + 1)), none, none]) (st' := []) (I' := I_186) rfl rfl ?_
                              refine g_goto hC dX9_findRow_246 (tgt := 196) (by decide) ?_
                              exact g_weak (ls1 := [some (.inr (some 96)), some (.inl x1_186), some (.inl (x2_196 + 1)), none, none]) rfl (And.intro rfl (And.intro rfl (And.intro rfl trivial))) (ih196 (x2_196 + 1) hv.1 (Nat.lt_of_lt_of_le hv.2 (Nat.le_of_lt_succ hn196)))
                    exact g_weak (ls1 := [some (.inr (some 96)), some (.inl x1_186), some (.inl 0), none, none]) rfl (And.intro rfl (And.intro rfl (And.intro rfl trivial))) (L196 _ 0 hi196 (Nat.lt_succ_self _))
              exact g_weak (ls1 := [some (.inr (some 96)), some (.inl 0), none, none, none]) rfl (And.intro rfl (And.intro rfl trivial)) (L186 _ 0 (up2 I_7 96 8 0) A_68 hi186 (Nat.lt_succ_self _))
            · have hv := hv2 hc
              clear hv1 hv2 hc
              refine g_blk hC _ bX9_findRow_72_80 (pc' := 80) (ls' := [some (.inr (some 96)), some (.inl x1_68), none, none, none]) (st' := [.inl (x1_68 &&& ((I_7 96 7) ^^^ ((-1))))]) (I' := I_7) rfl rfl ?_
              obtain ⟨hv1, hv2⟩ := hv
              refine g_ifeq hC dX9_findRow_80 (tgt := 86) (by decide) (fun hc => ?_) (fun hc => ?_)
              · have hv := hv1 hc
                clear hv1 hv2 hc
                obtain ⟨hj101, hv⟩ := hv
                have J101 : ∀ (x2_101 : Int32), Jn101 x1_7 I_7 x1_68 A_68 x2_101 → Gm p l e s m args below meth c D ads 1 24 5 po I_7 A_68 101 [some (.inr (some 96)), some (.inl x1_68), some (.inl x2_101), none, none] [] := by
                  intro x2_101 hv
                  replace hv := hj101 x2_101 hv
                  refine g_blk hC _ bX9_findRow_101_103 (pc' := 103) (ls' := [some (.inr (some 96)), some (.inl x1_68), some (.inl x2_101), some (.inl 0), none]) (st' := []) (I' := I_7) rfl rfl ?_
                  obtain ⟨hi103, hb103⟩ := hv
                  have L103 : ∀ (n : Nat) (x2_103 : Int32) (x3_103 : Int32), Iv103 x1_7 I_7 x1_68 A_68 x2_101 x2_103 x3_103 → mu103 x1_7 I_7 x1_68 A_68 x2_101 x2_103 x3_103 < n → Gm p l e s m args below meth c D ads 1 24 5 po I_7 A_68 103 [some (.inr (some 96)), some (.inl x1_68), some (.inl x2_103), some (.inl x3_103), none] [] := by
                    intro n
                    induction n with
                    | zero => intro x2_103 x3_103 _ hn; exact absurd hn (Nat.not_lt_zero _)
                    | succ n ih103 =>
                      intro x2_103 x3_103 hv hn103
                      replace hv := hb103 x2_103 x3_103 hv
                      skip
                      refine g_blk hC _ bX9_findRow_103_106 (pc' := 106) (ls' := [some (.inr (some 96)), some (.inl x1_68), some (.inl x2_103), some (.inl x3_103), none]) (st' := [.inl 10, .inl x3_103]) (I' := I_7) rfl rfl ?_
                      obtain ⟨hv1, hv2⟩ := hv
                      refine g_cge hC dX9_findRow_106 (tgt := 166) (by decide) (fun hc => ?_) (fun hc => ?_)
                      · have hv := hv1 hc
                        clear hv1 hv2 hc
                        refine g_blk hC _ bX9_findRow_166_172 (pc' := 172) (ls' := [some (.inr (some 96)), some (.inl x1_68), some (.inl x2_103), some (.inl x3_103), none]) (st' := [.inl x2_103, .inl x1_68, .inr (some 103)]) (I' := I_7) rfl rfl ?_
                        obtain ⟨hi, hv⟩ := hv
                        refine g_iast hC dX9_findRow_172 (rfl) hi ?_
                        clear hi
                        refine g_blk hC _ bX9_findRow_173_176 (pc' := 176) (ls' := [some (.inr (some 96)), some (.inl (x1_68 + (-1))), some (.inl x2_103), some (.inl x3_103), none]) (st' := []) (I' := I_7) rfl rfl ?_
                        refine g_goto hC dX9_findRow_176 (tgt := 68) (by decide) ?_
                        exact g_weak (ls1 := [some (.inr (some 96)), some (.inl (x1_68 + (-1))), none, none, none]) rfl (And.intro rfl (And.intro rfl trivial)) (ih68 (x1_68 + (-1)) (up2 A_68 103 x1_68.toNatClampNeg x2_103) hv.1 (Nat.lt_of_lt_of_le hv.2 (Nat.le_of_lt_succ hn68)))
                      · have hv := hv2 hc
                        clear hv1 hv2 hc
                        refine g_blk hC _ bX9_findRow_109_117 (pc' := 117) (ls' := [some (.inr (some 96)), some (.inl x1_68), some (.inl x2_103), some (.inl x3_103), none]) (st' := [.inl (((I_7 96 7) >>> (x3_103 &&& 31)) &&& 1)]) (I' := I_7) rfl rfl ?_
                        obtain ⟨hv1, hv2⟩ := hv
                        refine g_ifeq hC dX9_findRow_117 (tgt := 160) (by decide) (fun hc => ?_) (fun hc => ?_)
                        · have hv := hv1 hc
                          clear hv1 hv2 hc
                          refine g_blk hC _ bX9_findRow_160_163 (pc' := 163) (ls' := [some (.inr (some 96)), some (.inl x1_68), some (.inl x2_103), some (.inl (x3_103 + 1)), none]) (st' := []) (I' := I_7) rfl rfl ?_
                          refine g_goto hC dX9_findRow_163 (tgt := 103) (by decide) ?_
                          exact g_weak (ls1 := [some (.inr (some 96)), some (.inl x1_68), some (.inl x2_103), some (.inl (x3_103 + 1)), none]) rfl (And.intro rfl (And.intro rfl (And.intro rfl (And.intro rfl trivial)))) (ih103 x2_103 (x3_103 + 1) hv.1 (Nat.lt_of_lt_of_le hv.2 (Nat.le_of_lt_succ hn103)))
                        · have hv := hv2 hc
                          clear hv1 hv2 hc
                          refine g_blk hC _ bX9_findRow_120_126 (pc' := 126) (ls' := [some (.inr (some 96)), some (.inl x1_68), some (.inl x2_103), some (.inl x3_103), none]) (st' := [.inl 1, .inl ((x1_68 >>> (x3_103 &&& 31)) &&& 1)]) (I' := I_7) rfl rfl ?_
                          obtain ⟨hv1, hv2⟩ := hv
                          refine g_cne hC dX9_findRow_126 (tgt := 132) (by decide) (fun hc => ?_) (fun hc => ?_)
                          · have hv := hv1 hc
                            clear hv1 hv2 hc
                            refine g_blk hC _ bX9_findRow_132_135 (pc' := 135) (ls' := [some (.inr (some 96)), some (.inl x1_68), some (.inl x2_103), some (.inl x3_103), none]) (st' := [.inl x1_68, .inl x3_103, .inr (some 96)]) (I' := I_7) rfl rfl ?_
                            obtain ⟨hp2, hv⟩ := hv
                            refine g_callV hC (hh_X9_flowsTo I_7 A_68 x3_103 x1_68 hp2) dX9_findRow_135 nm_X9_flowsTo rfl rfl wl_X9_83 wi_X9_flowsTo ws_X9_flowsTo wn_X9 wc_X9_flowsTo ⟨by decide, by decide⟩ (as := [.inl x3_103, .inl x1_68]) (rest := []) rfl (Nat.le_of_ble_eq_true rfl) ⟨Nat.le_refl _, Nat.le_refl _⟩ (k_qI ?_)
                            refine g_blk hC _ bX9_findRow_138_147 (pc' := 147) (ls' := [some (.inr (some 96)), some (.inl x1_68), some (.inl x2_103), some (.inl x3_103), none]) (st' := [.inl (x1_68 ||| (1 <<< (x3_103 &&& 31))), .inr (some 103), .inl (ff_X9_flowsTo I_7 A_68 x3_103 x1_68)]) (I' := I_7) rfl rfl ?_
                            obtain ⟨hi, hv⟩ := hv
                            refine g_iald hC dX9_findRow_147 (rfl) hi ?_
                            clear hi
                            refine g_blk hC _ bX9_findRow_148_154 (pc' := 154) (ls' := [some (.inr (some 96)), some (.inl x1_68), some (.inl x2_103), some (.inl x3_103), some (.inl ((ff_X9_flowsTo I_7 A_68 x3_103 x1_68) + (A_68 103 (x1_68 ||| (1 <<< (x3_103 &&& 31))).toNatClampNeg)))]) (st' := [.inl x2_103, .inl ((ff_X9_flowsTo I_7 A_68 x3_103 x1_68) + (A_68 103 (x1_68 ||| (1 <<< (x3_103 &&& 31))).toNatClampNeg))]) (I' := I_7) rfl rfl ?_
                            obtain ⟨hv1, hv2⟩ := hv
                            refine g_cge hC dX9_findRow_154 (tgt := 160) (by decide) (fun hc => ?_) (fun hc => ?_)
                            · have hv := hv1 hc
                              clear hv1 hv2 hc
                              refine g_blk hC _ bX9_findRow_160_163 (pc' := 163) (ls' := [some (.inr (some 96)), some (.inl x1_68), some (.inl x2_103), some (.inl (x3_103 + 1)), some (.inl ((ff_X9_flowsTo I_7 A_68 x3_103 x1_68) + (A_68 103 (x1_68 ||| (1 <<< (x3_103 &&& 31))).toNatClampNeg)))]) (st' := []) (I' := I_7) rfl rfl ?_
                              refine g_goto hC dX9_findRow_163 (tgt := 103) (by decide) ?_
                              exact g_weak (ls1 := [some (.inr (some 96)), some (.inl x1_68), some (.inl x2_103), some (.inl (x3_103 + 1)), none]) rfl (And.intro rfl (And.intro rfl (And.intro rfl (And.intro rfl trivial)))) (ih103 x2_103 (x3_103 + 1) hv.1 (Nat.lt_of_lt_of_le hv.2 (Nat.le_of_lt_succ hn103)))
                            · have hv := hv2 hc
                              clear hv1 hv2 hc
                              refine g_blk hC _ bX9_findRow_157_163 (pc' := 163) (ls' := [some (.inr (some 96)), some (.inl x1_68), some (.inl ((ff_X9_flowsTo I_7 A_68 x3_103 x1_68) + (A_68 103 (x1_68 ||| (1 <<< (x3_103 &&& 31))).toNatClampNeg))), some (.inl (x3_103 + 1)), some (.inl ((ff_X9_flowsTo I_7 A_68 x3_103 x1_68) + (A_68 103 (x1_68 ||| (1 <<< (x3_103 &&& 31))).toNatClampNeg)))]) (st' := []) (I' := I_7) rfl rfl ?_
                              refine g_goto hC dX9_findRow_163 (tgt := 103) (by decide) ?_
                              exact g_weak (ls1 := [some (.inr (some 96)), some (.inl x1_68), some (.inl ((ff_X9_flowsTo I_7 A_68 x3_103 x1_68) + (A_68 103 (x1_68 ||| (1 <<< (x3_103 &&& 31))).toNatClampNeg))), some (.inl (x3_103 + 1)), none]) rfl (And.intro rfl (And.intro rfl (And.intro rfl (And.intro rfl trivial)))) (ih103 ((ff_X9_flowsTo I_7 A_68 x3_103 x1_68) + (A_68 103 (x1_68 ||| (1 <<< (x3_103 &&& 31))).toNatClampNeg)) (x3_103 + 1) hv.1 (Nat.lt_of_lt_of_le hv.2 (Nat.le_of_lt_succ hn103)))
                          · have hv := hv2 hc
                            clear hv1 hv2 hc
                            refine g_goto hC dX9_findRow_129 (tgt := 160) (by decide) ?_
                            refine g_blk hC _ bX9_findRow_160_163 (pc' := 163) (ls' := [some (.inr (some 96)), some (.inl x1_68), some (.inl x2_103), some (.inl (x3_103 + 1)), none]) (st' := []) (I' := I_7) rfl rfl ?_
                            refine g_goto hC dX9_findRow_163 (tgt := 103) (by decide) ?_
                            exact g_weak (ls1 := [some (.inr (some 96)), some (.inl x1_68), some (.inl x2_103), some (.inl (x3_103 + 1)), none]) rfl (And.intro rfl (And.intro rfl (And.intro rfl (And.intro rfl trivial)))) (ih103 x2_103 (x3_103 + 1) hv.1 (Nat.lt_of_lt_of_le hv.2 (Nat.le_of_lt_succ hn103)))
                  exact g_weak (ls1 := [some (.inr (some 96)), some (.inl x1_68), some (.inl x2_101), some (.inl 0), none]) rfl (And.intro rfl (And.intro rfl (And.intro rfl (And.intro rfl trivial)))) (L103 _ x2_101 0 hi103 (Nat.lt_succ_self _))
                refine g_blk hC _ bX9_findRow_86_91 (pc' := 91) (ls' := [some (.inr (some 96)), some (.inl x1_68), none, none, none]) (st' := [.inl (I_7 96 7), .inl x1_68]) (I' := I_7) rfl rfl ?_
                obtain ⟨hv1, hv2⟩ := hv
                refine g_cne hC dX9_findRow_91 (tgt := 98) (by decide) (fun hc => ?_) (fun hc => ?_)
                · have hv := hv1 hc
                  clear hv1 hv2 hc
                  refine g_blk hC _ bX9_findRow_98_101 (pc' := 101) (ls' := [some (.inr (some 96)), some (.inl x1_68), some (.inl 1000000000), none, none]) (st' := []) (I' := I_7) rfl rfl ?_
                  exact g_weak (ls1 := [some (.inr (some 96)), some (.inl x1_68), some (.inl 1000000000), none, none]) rfl (And.intro rfl (And.intro rfl (And.intro rfl trivial))) (J101 1000000000 hv)
                · have hv := hv2 hc
                  clear hv1 hv2 hc
                  refine g_blk hC _ bX9_findRow_94_95 (pc' := 95) (ls' := [some (.inr (some 96)), some (.inl x1_68), none, none, none]) (st' := [.inl 0]) (I' := I_7) rfl rfl ?_
                  refine g_goto hC dX9_findRow_95 (tgt := 100) (by decide) ?_
                  refine g_blk hC _ bX9_findRow_100_101 (pc' := 101) (ls' := [some (.inr (some 96)), some (.inl x1_68), some (.inl 0), none, none]) (st' := []) (I' := I_7) rfl rfl ?_
                  exact g_weak (ls1 := [some (.inr (some 96)), some (.inl x1_68), some (.inl 0), none, none]) rfl (And.intro rfl (And.intro rfl (And.intro rfl trivial))) (J101 0 hv)
              · have hv := hv2 hc
                clear hv1 hv2 hc
                refine g_goto hC dX9_findRow_83 (tgt := 173) (by decide) ?_
                refine g_blk hC _ bX9_findRow_173_176 (pc' := 176) (ls' := [some (.inr (some 96)), some (.inl (x1_68 + (-1))), none, none, none]) (st' := []) (I' := I_7) rfl rfl ?_
                refine g_goto hC dX9_findRow_176 (tgt := 68) (by decide) ?_
                exact g_weak (ls1 := [some (.inr (some 96)), some (.inl (x1_68 + (-1))), none, none, none]) rfl (And.intro rfl (And.intro rfl trivial)) (ih68 (x1_68 + (-1)) A_68 hv.1 (Nat.lt_of_lt_of_le hv.2 (Nat.le_of_lt_succ hn68)))
        exact g_weak (ls1 := [some (.inr (some 96)), some (.inl (I_7 96 7)), none, none, none]) rfl (And.intro rfl (And.intro rfl trivial)) (L68 _ (I_7 96 7) A hi68 (Nat.lt_succ_self _))
      · have hv := hv2 hc
        clear hv1 hv2 hc
        refine g_blk hC _ bX9_findRow_13_15 (pc' := 15) (ls' := [some (.inr (some 96)), some (.inl x1_7), some (.inl 0), none, none]) (st' := []) (I' := I_7) rfl rfl ?_
        obtain ⟨hi15, hb15⟩ := hv
        have L15 : ∀ (n : Nat) (x2_15 : Int32) (I_15 : HI), Iv15 x1_7 I_7 x2_15 I_15 → mu15 x1_7 I_7 x2_15 I_15 < n → Gm p l e s m args below meth c D ads 1 24 5 po I_15 A 15 [some (.inr (some 96)), some (.inl x1_7), some (.inl x2_15), none, none] [] := by
          intro n
          induction n with
          | zero => intro x2_15 I_15 _ hn; exact absurd hn (Nat.not_lt_zero _)
          | succ n ih15 =>
            intro x2_15 I_15 hv hn15
            replace hv := hb15 x2_15 I_15 hv
            skip
            refine g_blk hC _ bX9_findRow_15_18 (pc' := 18) (ls' := [some (.inr (some 96)), some (.inl x1_7), some (.inl x2_15), none, none]) (st' := [.inl 10, .inl x2_15]) (I' := I_15) rfl rfl ?_
            obtain ⟨hv1, hv2⟩ := hv
            refine g_cge hC dX9_findRow_18 (tgt := 57) (by decide) (fun hc => ?_) (fun hc => ?_)
            · have hv := hv1 hc
              clear hv1 hv2 hc
              refine g_blk hC _ bX9_findRow_57_60 (pc' := 60) (ls' := [some (.inr (some 96)), some (.inl (x1_7 + 1)), some (.inl x2_15), none, none]) (st' := []) (I' := I_15) rfl rfl ?_
              refine g_goto hC dX9_findRow_60 (tgt := 7) (by decide) ?_
              exact g_weak (ls1 := [some (.inr (some 96)), some (.inl (x1_7 + 1)), none, none, none]) rfl (And.intro rfl (And.intro rfl trivial)) (ih7 (x1_7 + 1) I_15 hv.1 (Nat.lt_of_lt_of_le hv.2 (Nat.le_of_lt_succ hn7)))
            · have hv := hv2 hc
              clear hv1 hv2 hc
              refine g_blk hC _ bX9_findRow_21_31 (pc' := 31) (ls' := [some (.inr (some 96)), some (.inl x1_7), some (.inl x2_15), none, none]) (st' := [.inl ((10 * x1_7) + x2_15), .inr (some 97)]) (I' := I_15) rfl rfl ?_
              obtain ⟨hi, hv⟩ := hv
              refine g_iald hC dX9_findRow_31 (rfl) hi ?_
              clear hi
              obtain ⟨hv1, hv2⟩ := hv
              refine g_ifle hC dX9_findRow_32 (tgt := 51) (by decide) (fun hc => ?_) (fun hc => ?_)
              · have hv := hv1 hc
                clear hv1 hv2 hc
                refine g_blk hC _ bX9_findRow_51_54 (pc' := 54) (ls' := [some (.inr (some 96)), some (.inl x1_7), some (.inl (x2_15 + 1)), none, none]) (st' := []) (I' := I_15) rfl rfl ?_
                refine g_goto hC dX9_findRow_54 (tgt := 15) (by decide) ?_
                exact g_weak (ls1 := [some (.inr (some 96)), some (.inl x1_7), some (.inl (x2_15 + 1)), none, none]) rfl (And.intro rfl (And.intro rfl (And.intro rfl trivial))) (ih15 (x2_15 + 1) I_15 hv.1 (Nat.lt_of_lt_of_le hv.2 (Nat.le_of_lt_succ hn15)))
              · have hv := hv2 hc
                clear hv1 hv2 hc
                refine g_blk hC _ bX9_findRow_35_54 (pc' := 54) (ls' := [some (.inr (some 96)), some (.inl x1_7), some (.inl (x2_15 + 1)), none, none]) (st' := []) (I' := up2 I_15 96 7 (((I_15 96 7) ||| (1 <<< (x1_7 &&& 31))) ||| (1 <<< (x2_15 &&& 31)))) rfl rfl ?_
                refine g_goto hC dX9_findRow_54 (tgt := 15) (by decide) ?_
                exact g_weak (ls1 := [some (.inr (some 96)), some (.inl x1_7), some (.inl (x2_15 + 1)), none, none]) rfl (And.intro rfl (And.intro rfl (And.intro rfl trivial))) (ih15 (x2_15 + 1) (up2 I_15 96 7 (((I_15 96 7) ||| (1 <<< (x1_7 &&& 31))) ||| (1 <<< (x2_15 &&& 31)))) hv.1 (Nat.lt_of_lt_of_le hv.2 (Nat.le_of_lt_succ hn15)))
        exact g_weak (ls1 := [some (.inr (some 96)), some (.inl x1_7), some (.inl 0), none, none]) rfl (And.intro rfl (And.intro rfl (And.intro rfl trivial))) (L15 _ 0 I_7 hi15 (Nat.lt_succ_self _))
  exact g_weak (ls1 := [some (.inr (some 96)), some (.inl 0), none, none, none]) rfl (And.intro rfl (And.intro rfl trivial)) (L7 _ 0 (up2 I 96 7 0) hi7 (Nat.lt_succ_self _))
theorem bX9_findItems_0_1 : okB cX9_findItems RX9 0 [(5, 0, 0, 0, 0)] := And.intro ⟨_, dX9_findItems_0, rfl⟩ trivial
theorem bX9_findItems_4_6 : okB cX9_findItems RX9 4 [(0, 0, 0, 0, 0), (7, 1, 0, 0, 0)] := And.intro ⟨_, dX9_findItems_4, by decide⟩ (And.intro ⟨_, dX9_findItems_5, rfl⟩ trivial)
theorem bX9_findItems_6_9 : okB cX9_findItems RX9 6 [(3, 1, 0, 0, 0), (1, 0, 0, 0, 10)] := And.intro ⟨_, dX9_findItems_6, rfl⟩ (And.intro ⟨_, dX9_findItems_7, by decide⟩ trivial)
theorem bX9_findItems_32_34 : okB cX9_findItems RX9 32 [(0, 0, 0, 0, 0), (7, 1, 0, 0, 0)] := And.intro ⟨_, dX9_findItems_32, by decide⟩ (And.intro ⟨_, dX9_findItems_33, rfl⟩ trivial)
theorem bX9_findItems_34_37 : okB cX9_findItems RX9 34 [(3, 1, 0, 0, 0), (1, 0, 0, 0, 10)] := And.intro ⟨_, dX9_findItems_34, rfl⟩ (And.intro ⟨_, dX9_findItems_35, by decide⟩ trivial)
theorem bX9_findItems_65_67 : okB cX9_findItems RX9 65 [(0, 0, 0, 0, 0), (7, 1, 0, 0, 0)] := And.intro ⟨_, dX9_findItems_65, by decide⟩ (And.intro ⟨_, dX9_findItems_66, rfl⟩ trivial)
theorem bX9_findItems_67_70 : okB cX9_findItems RX9 67 [(3, 1, 0, 0, 0), (1, 0, 0, 0, 10)] := And.intro ⟨_, dX9_findItems_67, rfl⟩ (And.intro ⟨_, dX9_findItems_68, by decide⟩ trivial)
theorem bX9_findItems_141_148 : okB cX9_findItems RX9 141 [(5, 0, 0, 0, 0), (0, 0, 0, 0, 1), (25, 110, 9, 14, 0), (0, 0, 0, 0, 0), (7, 1, 0, 0, 0)] := And.intro ⟨_, dX9_findItems_141, rfl⟩ (And.intro ⟨_, dX9_findItems_142, by decide⟩ (And.intro ⟨dX9_findItems_143, fl_X9_110, rfl, rfl⟩ (And.intro ⟨_, dX9_findItems_146, by decide⟩ (And.intro ⟨_, dX9_findItems_147, rfl⟩ trivial))))
theorem bX9_findItems_148_153 : okB cX9_findItems RX9 148 [(3, 1, 0, 0, 0), (5, 0, 0, 0, 0), (23, 90, 9, 12, 0)] := And.intro ⟨_, dX9_findItems_148, rfl⟩ (And.intro ⟨_, dX9_findItems_149, rfl⟩ (And.intro ⟨dX9_findItems_150, fl_X9_90⟩ trivial))
theorem bX9_findItems_177_179 : okB cX9_findItems RX9 177 [(0, 0, 0, 0, 0), (7, 1, 0, 0, 0)] := And.intro ⟨_, dX9_findItems_177, by decide⟩ (And.intro ⟨_, dX9_findItems_178, rfl⟩ trivial)
theorem bX9_findItems_179_182 : okB cX9_findItems RX9 179 [(3, 1, 0, 0, 0), (1, 0, 0, 0, 10)] := And.intro ⟨_, dX9_findItems_179, rfl⟩ (And.intro ⟨_, dX9_findItems_180, by decide⟩ trivial)
theorem bX9_findItems_185_187 : okB cX9_findItems RX9 185 [(0, 0, 0, 0, 0), (7, 2, 0, 0, 0)] := And.intro ⟨_, dX9_findItems_185, by decide⟩ (And.intro ⟨_, dX9_findItems_186, rfl⟩ trivial)
theorem bX9_findItems_187_190 : okB cX9_findItems RX9 187 [(3, 2, 0, 0, 0), (1, 0, 0, 0, 10)] := And.intro ⟨_, dX9_findItems_187, rfl⟩ (And.intro ⟨_, dX9_findItems_188, by decide⟩ trivial)
theorem bX9_findItems_321_324 : okB cX9_findItems RX9 321 [(11, 1, 0, 0, 1)] := And.intro ⟨_, dX9_findItems_321, by decide⟩ trivial
theorem bX9_findItems_193_196 : okB cX9_findItems RX9 193 [(5, 0, 0, 0, 0), (3, 1, 0, 0, 0), (3, 2, 0, 0, 0)] := And.intro ⟨_, dX9_findItems_193, rfl⟩ (And.intro ⟨_, dX9_findItems_194, rfl⟩ (And.intro ⟨_, dX9_findItems_195, rfl⟩ trivial))
theorem bX9_findItems_205_210 : okB cX9_findItems RX9 205 [(5, 0, 0, 0, 0), (23, 29, 9, 11, 0), (3, 1, 0, 0, 0)] := And.intro ⟨_, dX9_findItems_205, rfl⟩ (And.intro ⟨dX9_findItems_206, fl_X9_29⟩ (And.intro ⟨_, dX9_findItems_209, rfl⟩ trivial))
theorem bX9_findItems_211_212 : okB cX9_findItems RX9 211 [(7, 3, 0, 0, 0)] := And.intro ⟨_, dX9_findItems_211, rfl⟩ trivial
theorem bX9_findItems_212_218 : okB cX9_findItems RX9 212 [(3, 3, 0, 0, 0), (5, 0, 0, 0, 0), (23, 29, 9, 11, 0), (3, 2, 0, 0, 0)] := And.intro ⟨_, dX9_findItems_212, rfl⟩ (And.intro ⟨_, dX9_findItems_213, rfl⟩ (And.intro ⟨dX9_findItems_214, fl_X9_29⟩ (And.intro ⟨_, dX9_findItems_217, rfl⟩ trivial)))
theorem bX9_findItems_315_318 : okB cX9_findItems RX9 315 [(11, 2, 0, 0, 1)] := And.intro ⟨_, dX9_findItems_315, by decide⟩ trivial
theorem bX9_findItems_222_231 : okB cX9_findItems RX9 222 [(1, 0, 0, 0, 16), (3, 3, 0, 0, 0), (14, 0, 0, 0, 0), (5, 0, 0, 0, 0), (23, 41, 9, 17, 0), (3, 3, 0, 0, 0)] := And.intro ⟨_, dX9_findItems_222, by decide⟩ (And.intro ⟨_, dX9_findItems_224, rfl⟩ (And.intro dX9_findItems_225 (And.intro ⟨_, dX9_findItems_226, rfl⟩ (And.intro ⟨dX9_findItems_227, fl_X9_41⟩ (And.intro ⟨_, dX9_findItems_230, rfl⟩ trivial)))))
theorem bX9_findItems_232_247 : okB cX9_findItems RX9 232 [(12, 0, 0, 0, 0), (8, 4, 0, 0, 0), (5, 0, 0, 0, 0), (23, 44, 9, 18, 0), (4, 4, 0, 0, 0), (5, 0, 0, 0, 0), (3, 3, 0, 0, 0), (5, 0, 0, 0, 0), (3, 1, 0, 0, 0), (3, 2, 0, 0, 0), (3, 3, 0, 0, 0)] := And.intro dX9_findItems_232 (And.intro dX9_findItems_233 (And.intro ⟨_, dX9_findItems_235, rfl⟩ (And.intro ⟨dX9_findItems_236, fl_X9_44⟩ (And.intro dX9_findItems_239 (And.intro ⟨_, dX9_findItems_241, rfl⟩ (And.intro ⟨_, dX9_findItems_242, rfl⟩ (And.intro ⟨_, dX9_findItems_243, rfl⟩ (And.intro ⟨_, dX9_findItems_244, rfl⟩ (And.intro ⟨_, dX9_findItems_245, rfl⟩ (And.intro ⟨_, dX9_findItems_246, rfl⟩ trivial))))))))))
theorem bX9_findItems_254_270 : okB cX9_findItems RX9 254 [(5, 0, 0, 0, 0), (23, 47, 9, 19, 0), (4, 4, 0, 0, 0), (5, 0, 0, 0, 0), (3, 3, 0, 0, 0), (0, 0, 0, 0, 1), (12, 0, 0, 0, 0), (5, 0, 0, 0, 0), (3, 1, 0, 0, 0), (3, 2, 0, 0, 0), (3, 3, 0, 0, 0), (0, 0, 0, 0, 1), (12, 0, 0, 0, 0)] := And.intro ⟨_, dX9_findItems_254, rfl⟩ (And.intro ⟨dX9_findItems_255, fl_X9_47⟩ (And.intro dX9_findItems_258 (And.intro ⟨_, dX9_findItems_260, rfl⟩ (And.intro ⟨_, dX9_findItems_261, rfl⟩ (And.intro ⟨_, dX9_findItems_262, by decide⟩ (And.intro dX9_findItems_263 (And.intro ⟨_, dX9_findItems_264, rfl⟩ (And.intro ⟨_, dX9_findItems_265, rfl⟩ (And.intro ⟨_, dX9_findItems_266, rfl⟩ (And.intro ⟨_, dX9_findItems_267, rfl⟩ (And.intro ⟨_, dX9_findItems_268, by decide⟩ (And.intro dX9_findItems_269 trivial))))))))))))
theorem bX9_findItems_277_293 : okB cX9_findItems RX9 277 [(5, 0, 0, 0, 0), (23, 50, 9, 20, 0), (4, 4, 0, 0, 0), (5, 0, 0, 0, 0), (23, 7, 9, 1, 0), (1, 0, 0, 0, 10), (3, 1, 0, 0, 0), (14, 0, 0, 0, 0), (3, 2, 0, 0, 0), (12, 0, 0, 0, 0)] := And.intro ⟨_, dX9_findItems_277, rfl⟩ (And.intro ⟨dX9_findItems_278, fl_X9_50⟩ (And.intro dX9_findItems_281 (And.intro ⟨_, dX9_findItems_283, rfl⟩ (And.intro ⟨dX9_findItems_284, fl_X9_7⟩ (And.intro ⟨_, dX9_findItems_287, by decide⟩ (And.intro ⟨_, dX9_findItems_289, rfl⟩ (And.intro dX9_findItems_290 (And.intro ⟨_, dX9_findItems_291, rfl⟩ (And.intro dX9_findItems_292 trivial)))))))))
theorem bX9_findItems_295_305 : okB cX9_findItems RX9 295 [(5, 0, 0, 0, 0), (23, 41, 9, 17, 0), (3, 3, 0, 0, 0), (5, 0, 0, 0, 0), (23, 41, 9, 17, 0), (3, 3, 0, 0, 0)] := And.intro ⟨_, dX9_findItems_295, rfl⟩ (And.intro ⟨dX9_findItems_296, fl_X9_41⟩ (And.intro ⟨_, dX9_findItems_299, rfl⟩ (And.intro ⟨_, dX9_findItems_300, rfl⟩ (And.intro ⟨dX9_findItems_301, fl_X9_41⟩ (And.intro ⟨_, dX9_findItems_304, rfl⟩ trivial)))))
theorem bX9_findItems_306_308 : okB cX9_findItems RX9 306 [(0, 0, 0, 0, 1), (12, 0, 0, 0, 0)] := And.intro ⟨_, dX9_findItems_306, by decide⟩ (And.intro dX9_findItems_307 trivial)
theorem bX9_findItems_309_312 : okB cX9_findItems RX9 309 [(11, 3, 0, 0, 1)] := And.intro ⟨_, dX9_findItems_309, by decide⟩ trivial
theorem bX9_findItems_156_161 : okB cX9_findItems RX9 156 [(5, 0, 0, 0, 0), (23, 35, 9, 15, 0), (3, 1, 0, 0, 0)] := And.intro ⟨_, dX9_findItems_156, rfl⟩ (And.intro ⟨dX9_findItems_157, fl_X9_35⟩ (And.intro ⟨_, dX9_findItems_160, rfl⟩ trivial))
theorem bX9_findItems_162_163 : okB cX9_findItems RX9 162 [(0, 0, 0, 0, 5)] := And.intro ⟨_, dX9_findItems_162, by decide⟩ trivial
theorem bX9_findItems_171_174 : okB cX9_findItems RX9 171 [(11, 1, 0, 0, 1)] := And.intro ⟨_, dX9_findItems_171, by decide⟩ trivial
theorem bX9_findItems_166_174 : okB cX9_findItems RX9 166 [(5, 0, 0, 0, 0), (0, 0, 0, 0, 0), (25, 110, 9, 14, 0), (11, 1, 0, 0, 1)] := And.intro ⟨_, dX9_findItems_166, rfl⟩ (And.intro ⟨_, dX9_findItems_167, by decide⟩ (And.intro ⟨dX9_findItems_168, fl_X9_110, rfl, rfl⟩ (And.intro ⟨_, dX9_findItems_171, by decide⟩ trivial)))
theorem bX9_findItems_73_75 : okB cX9_findItems RX9 73 [(0, 0, 0, 0, 0), (7, 2, 0, 0, 0)] := And.intro ⟨_, dX9_findItems_73, by decide⟩ (And.intro ⟨_, dX9_findItems_74, rfl⟩ trivial)
theorem bX9_findItems_75_78 : okB cX9_findItems RX9 75 [(3, 2, 0, 0, 0), (1, 0, 0, 0, 10)] := And.intro ⟨_, dX9_findItems_75, rfl⟩ (And.intro ⟨_, dX9_findItems_76, by decide⟩ trivial)
theorem bX9_findItems_135_138 : okB cX9_findItems RX9 135 [(11, 1, 0, 0, 1)] := And.intro ⟨_, dX9_findItems_135, by decide⟩ trivial
theorem bX9_findItems_81_84 : okB cX9_findItems RX9 81 [(5, 0, 0, 0, 0), (3, 1, 0, 0, 0), (3, 2, 0, 0, 0)] := And.intro ⟨_, dX9_findItems_81, rfl⟩ (And.intro ⟨_, dX9_findItems_82, rfl⟩ (And.intro ⟨_, dX9_findItems_83, rfl⟩ trivial))
theorem bX9_findItems_129_132 : okB cX9_findItems RX9 129 [(11, 2, 0, 0, 1)] := And.intro ⟨_, dX9_findItems_129, by decide⟩ trivial
theorem bX9_findItems_90_95 : okB cX9_findItems RX9 90 [(5, 0, 0, 0, 0), (23, 29, 9, 11, 0), (3, 1, 0, 0, 0)] := And.intro ⟨_, dX9_findItems_90, rfl⟩ (And.intro ⟨dX9_findItems_91, fl_X9_29⟩ (And.intro ⟨_, dX9_findItems_94, rfl⟩ trivial))
theorem bX9_findItems_96_99 : okB cX9_findItems RX9 96 [(0, 0, 0, 0, 1), (12, 0, 0, 0, 0), (7, 3, 0, 0, 0)] := And.intro ⟨_, dX9_findItems_96, by decide⟩ (And.intro dX9_findItems_97 (And.intro ⟨_, dX9_findItems_98, rfl⟩ trivial))
theorem bX9_findItems_99_105 : okB cX9_findItems RX9 99 [(3, 3, 0, 0, 0), (5, 0, 0, 0, 0), (23, 29, 9, 11, 0), (3, 2, 0, 0, 0)] := And.intro ⟨_, dX9_findItems_99, rfl⟩ (And.intro ⟨_, dX9_findItems_100, rfl⟩ (And.intro ⟨dX9_findItems_101, fl_X9_29⟩ (And.intro ⟨_, dX9_findItems_104, rfl⟩ trivial)))
theorem bX9_findItems_109_120 : okB cX9_findItems RX9 109 [(5, 0, 0, 0, 0), (3, 3, 0, 0, 0), (1, 0, 0, 0, 100), (1, 0, 0, 0, 10), (3, 1, 0, 0, 0), (14, 0, 0, 0, 0), (12, 0, 0, 0, 0), (3, 2, 0, 0, 0), (12, 0, 0, 0, 0)] := And.intro ⟨_, dX9_findItems_109, rfl⟩ (And.intro ⟨_, dX9_findItems_110, rfl⟩ (And.intro ⟨_, dX9_findItems_111, by decide⟩ (And.intro ⟨_, dX9_findItems_113, by decide⟩ (And.intro ⟨_, dX9_findItems_115, rfl⟩ (And.intro dX9_findItems_116 (And.intro dX9_findItems_117 (And.intro ⟨_, dX9_findItems_118, rfl⟩ (And.intro dX9_findItems_119 trivial))))))))
theorem bX9_findItems_123_126 : okB cX9_findItems RX9 123 [(11, 3, 0, 0, 1)] := And.intro ⟨_, dX9_findItems_123, by decide⟩ trivial
theorem bX9_findItems_40_42 : okB cX9_findItems RX9 40 [(5, 0, 0, 0, 0), (3, 1, 0, 0, 0)] := And.intro ⟨_, dX9_findItems_40, rfl⟩ (And.intro ⟨_, dX9_findItems_41, rfl⟩ trivial)
theorem bX9_findItems_59_62 : okB cX9_findItems RX9 59 [(11, 1, 0, 0, 1)] := And.intro ⟨_, dX9_findItems_59, by decide⟩ trivial
theorem bX9_findItems_48_54 : okB cX9_findItems RX9 48 [(5, 0, 0, 0, 0), (5, 0, 0, 0, 0), (23, 29, 9, 11, 0), (3, 1, 0, 0, 0)] := And.intro ⟨_, dX9_findItems_48, rfl⟩ (And.intro ⟨_, dX9_findItems_49, rfl⟩ (And.intro ⟨dX9_findItems_50, fl_X9_29⟩ (And.intro ⟨_, dX9_findItems_53, rfl⟩ trivial)))
theorem bX9_findItems_55_56 : okB cX9_findItems RX9 55 [(3, 1, 0, 0, 0)] := And.intro ⟨_, dX9_findItems_55, rfl⟩ trivial
theorem bX9_findItems_12_18 : okB cX9_findItems RX9 12 [(5, 0, 0, 0, 0), (23, 35, 9, 15, 0), (3, 1, 0, 0, 0), (0, 0, 0, 0, 0)] := And.intro ⟨_, dX9_findItems_12, rfl⟩ (And.intro ⟨dX9_findItems_13, fl_X9_35⟩ (And.intro ⟨_, dX9_findItems_16, rfl⟩ (And.intro ⟨_, dX9_findItems_17, by decide⟩ trivial)))
theorem bX9_findItems_19_25 : okB cX9_findItems RX9 19 [(5, 0, 0, 0, 0), (23, 41, 9, 17, 0), (3, 1, 0, 0, 0), (0, 0, 0, 0, 0)] := And.intro ⟨_, dX9_findItems_19, rfl⟩ (And.intro ⟨dX9_findItems_20, fl_X9_41⟩ (And.intro ⟨_, dX9_findItems_23, rfl⟩ (And.intro ⟨_, dX9_findItems_24, by decide⟩ trivial)))
theorem bX9_findItems_26_29 : okB cX9_findItems RX9 26 [(11, 1, 0, 0, 1)] := And.intro ⟨_, dX9_findItems_26, by decide⟩ trivial
set_option maxHeartbeats 4000000 in
set_option maxRecDepth 100000 in
theorem k_X9_findItems (l : Launch) (D : va_G) (ads : AD) (I A : HI) (po : Option AV → HI → HI → Prop) {pp_X9_findRow : HI → HI → Prop} {qq_X9_findRow : HI → HI → HI → HI → Prop} (hh_X9_findRow : ∀ (I A : HI), pp_X9_findRow I A → Ct l yX9_findRow cX9_findRow 5 none 1 24 D ads shp [.inr (some 96)] I A (qV (qq_X9_findRow I A))) {pp_X9_find : HI → HI → Int32 → Int32 → Prop} {ff_X9_find : HI → HI → Int32 → Int32 → Int32} (hh_X9_find : ∀ (I A : HI) (a1 : Int32) (a2 : Int32), pp_X9_find I A a1 a2 → Ct l yX9_find cX9_find 4 (some .int) 0 0 D ads shp [.inr (some 96), .inl a1, .inl a2] I A (qI (ff_X9_find I A a1 a2) I A)) {pp_X9_puts : HI → HI → Int32 → Int32 → Prop} {qq_X9_puts : HI → HI → Int32 → Int32 → HI → HI → Prop} (hh_X9_puts : ∀ (I A : HI) (a1 : Int32) (a2 : Int32), pp_X9_puts I A a1 a2 → Ct l yX9_puts cX9_puts 4 none 0 0 D ads shp [.inr (some 96), .inl a1, .inl a2] I A (qV (qq_X9_puts I A a1 a2))) (Iv6 : HI → HI → Int32 → HI → Prop) (mu6 : HI → HI → Int32 → HI → Nat) (Iv34 : HI → HI → Int32 → HI → Int32 → HI → HI → Prop) (mu34 : HI → HI → Int32 → HI → Int32 → HI → HI → Nat) (Iv67 : HI → HI → Int32 → HI → Int32 → HI → HI → Int32 → HI → HI → Prop) (mu67 : HI → HI → Int32 → HI → Int32 → HI → HI → Int32 → HI → HI → Nat) (Iv148 : HI → HI → Int32 → HI → Int32 → HI → HI → Int32 → HI → HI → Int32 → HI → Prop) (mu148 : HI → HI → Int32 → HI → Int32 → HI → HI → Int32 → HI → HI → Int32 → HI → Nat) (Iv179 : HI → HI → Int32 → HI → Int32 → HI → HI → Int32 → HI → HI → Int32 → HI → Int32 → HI → Prop) (mu179 : HI → HI → Int32 → HI → Int32 → HI → HI → Int32 → HI → HI → Int32 → HI → Int32 → HI → Nat) (Iv187 : HI → HI → Int32 → HI → Int32 → HI → HI → Int32 → HI → HI → Int32 → HI → Int32 → HI → Int32 → HI → Prop) (mu187 : HI → HI → Int32 → HI → Int32 → HI → HI → Int32 → HI → HI → Int32 → HI → Int32 → HI → Int32 → HI → Nat) (Iv212 : HI → HI → Int32 → HI → Int32 → HI → HI → Int32 → HI → HI → Int32 → HI → Int32 → HI → Int32 → HI → Int32 → HI → Prop) (mu212 : HI → HI → Int32 → HI → Int32 → HI → HI → Int32 → HI → HI → Int32 → HI → Int32 → HI → Int32 → HI → Int32 → HI → Nat) (Iv75 : HI → HI → Int32 → HI → Int32 → HI → HI → Int32 → HI → HI → Int32 → HI → HI → Prop) (mu75 : HI → HI → Int32 → HI → Int32 → HI → HI → Int32 → HI → HI → Int32 → HI → HI → Nat) (Iv99 : HI → HI → Int32 → HI → Int32 → HI → HI → Int32 → HI → HI → Int32 → HI → HI → Int32 → HI → HI → Prop) (mu99 : HI → HI → Int32 → HI → Int32 → HI → HI → Int32 → HI → HI → Int32 → HI → HI → Int32 → HI → HI → Nat)
    (hv : ((pp_X9_findRow I A) ∧ (∀ (I2 A2 : HI), qq_X9_findRow I A I2 A2 → (Iv6 I2 A2 0 A2 ∧ ∀ (x1_6 : Int32) (A_6 : HI), Iv6 I2 A2 x1_6 A_6 → ((10 ≤ x1_6 → (Iv34 I2 A2 x1_6 A_6 0 I2 A_6 ∧ ∀ (x1_34 : Int32) (I_34 : HI) (A_34 : HI), Iv34 I2 A2 x1_6 A_6 x1_34 I_34 A_34 → ((10 ≤ x1_34 → (Iv67 I2 A2 x1_6 A_6 x1_34 I_34 A_34 0 I_34 A_34 ∧ ∀ (x1_67 : Int32) (I_67 : HI) (A_67 : HI), Iv67 I2 A2 x1_6 A_6 x1_34 I_34 A_34 x1_67 I_67 A_67 → ((10 ≤ x1_67 → (Iv148 I2 A2 x1_6 A_6 x1_34 I_34 A_34 x1_67 I_67 A_67 0 (up2 I_67 96 14 1) ∧ ∀ (x1_148 : Int32) (I_148 : HI), Iv148 I2 A2 x1_6 A_6 x1_34 I_34 A_34 x1_67 I_67 A_67 x1_148 I_148 → (((I_148 96 12) ≤ x1_148 → (Iv179 I2 A2 x1_6 A_6 x1_34 I_34 A_34 x1_67 I_67 A_67 x1_148 I_148 0 A_67 ∧ ∀ (x1_179 : Int32) (A_179 : HI), Iv179 I2 A2 x1_6 A_6 x1_34 I_34 A_34 x1_67 I_67 A_67 x1_148 I_148 x1_179 A_179 → ((10 ≤ x1_179 → po none I_148 A_179) ∧ (¬ 10 ≤ x1_179 → (Iv187 I2 A2 x1_6 A_6 x1_34 I_34 A_34 x1_67 I_67 A_67 x1_148 I_148 x1_179 A_179 0 A_179 ∧ ∀ (x2_187 : Int32) (A_187 : HI), Iv187 I2 A2 x1_6 A_6 x1_34 I_34 A_34 x1_67 I_67 A_67 x1_148 I_148 x1_179 A_179 x2_187 A_187 → ((10 ≤ x2_187 → (Iv179 I2 A2 x1_6 A_6 x1_34 I_34 A_34 x1_67 I_67 A_67 x1_148 I_148 (x1_179 + 1) A_187 ∧ mu179 I2 A2 x1_6 A_6 x1_34 I_34 A_34 x1_67 I_67 A_67 x1_148 I_148 (x1_179 + 1) A_187 < mu179 I2 A2 x1_6 A_6 x1_34 I_34 A_34 x1_67 I_67 A_67 x1_148 I_148 x1_179 A_179)) ∧ (¬ 10 ≤ x2_187 → ((vp_in x1_179 10 ∧ vp_in x2_187 10) ∧ ((¬ (isS (A_187 97) (A_187 101) x1_179 x2_187) = 0 → (vp_in x1_179 10 ∧ (Iv212 I2 A2 x1_6 A_6 x1_34 I_34 A_34 x1_67 I_67 A_67 x1_148 I_148 x1_179 A_179 x2_187 A_187 (A_187 102 x1_179.toNatClampNeg) A_187 ∧ ∀ (x3_212 : Int32) (A_212 : HI), Iv212 I2 A2 x1_6 A_6 x1_34 I_34 A_34 x1_67 I_67 A_67 x1_148 I_148 x1_179 A_179 x2_187 A_187 x3_212 A_212 → (vp_in x2_187 10 ∧ (((A_212 102 x2_187.toNatClampNeg) ≤ x3_212 → (Iv187 I2 A2 x1_6 A_6 x1_34 I_34 A_34 x1_67 I_67 A_67 x1_148 I_148 x1_179 A_179 (x2_187 + 1) A_212 ∧ mu187 I2 A2 x1_6 A_6 x1_34 I_34 A_34 x1_67 I_67 A_67 x1_148 I_148 x1_179 A_179 (x2_187 + 1) A_212 < mu187 I2 A2 x1_6 A_6 x1_34 I_34 A_34 x1_67 I_67 A_67 x1_148 I_148 x1_179 A_179 x2_187 A_187)) ∧ (¬ (A_212 102 x2_187.toNatClampNeg) ≤ x3_212 → (vp_in x3_212 10 ∧ ((vp_in x1_179 10 ∧ vp_in x2_187 10) ∧ ((pp_X9_find I_148 A_212 x3_212 (itmI (A_212 102) x1_179 x2_187 x3_212)) ∧ (vp_in ((16 * x3_212) + (A_212 106 x3_212.toNatClampNeg)) 160 ∧ ((vp_in x1_179 10 ∧ vp_in x2_187 10) ∧ ((pp_X9_find I_148 (up2 A_212 107 ((16 * x3_212) + (A_212 106 x3_212.toNatClampNeg)).toNatClampNeg (ff_X9_find I_148 A_212 x3_212 (itmI (A_212 102) x1_179 x2_187 x3_212))) (x3_212 + 1) (itmI ((up2 A_212 107 ((16 * x3_212) + (A_212 106 x3_212.toNatClampNeg)).toNatClampNeg (ff_X9_find I_148 A_212 x3_212 (itmI (A_212 102) x1_179 x2_187 x3_212))) 102) x1_179 x2_187 (x3_212 + 1))) ∧ (vp_in ((16 * x3_212) + (A_212 106 x3_212.toNatClampNeg)) 160 ∧ (vp_in ((10 * x1_179) + x2_187) 100 ∧ (vp_in ((16 * x3_212) + (A_212 106 x3_212.toNatClampNeg)) 160 ∧ (vp_in x3_212 10 ∧ (vp_in x3_212 10 ∧ (Iv212 I2 A2 x1_6 A_6 x1_34 I_34 A_34 x1_67 I_67 A_67 x1_148 I_148 x1_179 A_179 x2_187 A_187 (x3_212 + 1) (up2 (up2 (up2 (up2 A_212 107 ((16 * x3_212) + (A_212 106 x3_212.toNatClampNeg)).toNatClampNeg (ff_X9_find I_148 A_212 x3_212 (itmI (A_212 102) x1_179 x2_187 x3_212))) 108 ((16 * x3_212) + (A_212 106 x3_212.toNatClampNeg)).toNatClampNeg (ff_X9_find I_148 (up2 A_212 107 ((16 * x3_212) + (A_212 106 x3_212.toNatClampNeg)).toNatClampNeg (ff_X9_find I_148 A_212 x3_212 (itmI (A_212 102) x1_179 x2_187 x3_212))) (x3_212 + 1) (itmI ((up2 A_212 107 ((16 * x3_212) + (A_212 106 x3_212.toNatClampNeg)).toNatClampNeg (ff_X9_find I_148 A_212 x3_212 (itmI (A_212 102) x1_179 x2_187 x3_212))) 102) x1_179 x2_187 (x3_212 + 1)))) 109 ((16 * x3_212) + (A_212 106 x3_212.toNatClampNeg)).toNatClampNeg ((up2 (up2 A_212 107 ((16 * x3_212) + (A_212 106 x3_212.toNatClampNeg)).toNatClampNeg (ff_X9_find I_148 A_212 x3_212 (itmI (A_212 102) x1_179 x2_187 x3_212))) 108 ((16 * x3_212) + (A_212 106 x3_212.toNatClampNeg)).toNatClampNeg (ff_X9_find I_148 (up2 A_212 107 ((16 * x3_212) + (A_212 106 x3_212.toNatClampNeg)).toNatClampNeg (ff_X9_find I_148 A_212 x3_212 (itmI (A_212 102) x1_179 x2_187 x3_212))) (x3_212 + 1) (itmI ((up2 A_212 107 ((16 * x3_212) + (A_212 106 x3_212.toNatClampNeg)).toNatClampNeg (ff_X9_find I_148 A_212 x3_212 (itmI (A_212 102) x1_179 x2_187 x3_212))) 102) x1_179 x2_187 (x3_212 + 1)))) 97 ((10 * x1_179) + x2_187).toNatClampNeg)) 106 x3_212.toNatClampNeg (((up2 (up2 (up2 A_212 107 ((16 * x3_212) + (A_212 106 x3_212.toNatClampNeg)).toNatClampNeg (ff_X9_find I_148 A_212 x3_212 (itmI (A_212 102) x1_179 x2_187 x3_212))) 108 ((16 * x3_212) + (A_212 106 x3_212.toNatClampNeg)).toNatClampNeg (ff_X9_find I_148 (up2 A_212 107 ((16 * x3_212) + (A_212 106 x3_212.toNatClampNeg)).toNatClampNeg (ff_X9_find I_148 A_212 x3_212 (itmI (A_212 102) x1_179 x2_187 x3_212))) (x3_212 + 1) (itmI ((up2 A_212 107 ((16 * x3_212) + (A_212 106 x3_212.toNatClampNeg)).toNatClampNeg (ff_X9_find I_148 A_212 x3_212 (itmI (A_212 102) x1_179 x2_187 x3_212))) 102) x1_179 x2_187 (x3_212 + 1)))) 109 ((16 * x3_212) + (A_212 106 x3_212.toNatClampNeg)).toNatClampNeg ((up2 (up2 A_212 107 ((16 * x3_212) + (A_212 106 x3_212.toNatClampNeg)).toNatClampNeg (ff_X9_find I_148 A_212 x3_212 (itmI (A_212 102) x1_179 x2_187 x3_212))) 108 ((16 * x3_212) + (A_212 106 x3_212.toNatClampNeg)).toNatClampNeg (ff_X9_find I_148 (up2 A_212 107 ((16 * x3_212) + (A_212 106 x3_212.toNatClampNeg)).toNatClampNeg (ff_X9_find I_148 A_212 x3_212 (itmI (A_212 102) x1_179 x2_187 x3_212))) (x3_212 + 1) (itmI ((up2 A_212 107 ((16 * x3_212) + (A_212 106 x3_212.toNatClampNeg)).toNatClampNeg (ff_X9_find I_148 A_212 x3_212 (itmI (A_212 102) x1_179 x2_187 x3_212))) 102) x1_179 x2_187 (x3_212 + 1)))) 97 ((10 * x1_179) + x2_187).toNatClampNeg)) 106 x3_212.toNatClampNeg) + 1)) ∧ mu212 I2 A2 x1_6 A_6 x1_34 I_34 A_34 x1_67 I_67 A_67 x1_148 I_148 x1_179 A_179 x2_187 A_187 (x3_212 + 1) (up2 (up2 (up2 (up2 A_212 107 ((16 * x3_212) + (A_212 106 x3_212.toNatClampNeg)).toNatClampNeg (ff_X9_find I_148 A_212 x3_212 (itmI (A_212 102) x1_179 x2_187 x3_212))) 108 ((16 * x3_212) + (A_212 106 x3_212.toNatClampNeg)).toNatClampNeg (ff_X9_find I_148 (up2 A_212 107 ((16 * x3_212) + (A_212 106 x3_212.toNatClampNeg)).toNatClampNeg (ff_X9_find I_148 A_212 x3_212 (itmI (A_212 102) x1_179 x2_187 x3_212))) (x3_212 + 1) (itmI ((up2 A_212 107 ((16 * x3_212) + (A_212 106 x3_212.toNatClampNeg)).toNatClampNeg (ff_X9_find I_148 A_212 x3_212 (itmI (A_212 102) x1_179 x2_187 x3_212))) 102) x1_179 x2_187 (x3_212 + 1)))) 109 ((16 * x3_212) + (A_212 106 x3_212.toNatClampNeg)).toNatClampNeg ((up2 (up2 A_212 107 ((16 * x3_212) + (A_212 106 x3_212.toNatClampNeg)).toNatClampNeg (ff_X9_find I_148 A_212 x3_212 (itmI (A_212 102) x1_179 x2_187 x3_212))) 108 ((16 * x3_212) + (A_212 106 x3_212.toNatClampNeg)).toNatClampNeg (ff_X9_find I_148 (up2 A_212 107 ((16 * x3_212) + (A_212 106 x3_212.toNatClampNeg)).toNatClampNeg (ff_X9_find I_148 A_212 x3_212 (itmI (A_212 102) x1_179 x2_187 x3_212))) (x3_212 + 1) (itmI ((up2 A_212 107 ((16 * x3_212) + (A_212 106 x3_212.toNatClampNeg)).toNatClampNeg (ff_X9_find I_148 A_212 x3_212 (itmI (A_212 102) x1_179 x2_187 x3_212))) 102) x1_179 x2_187 (x3_212 + 1)))) 97 ((10 * x1_179) + x2_187).toNatClampNeg)) 106 x3_212.toNatClampNeg (((up2 (up2 (up2 A_212 107 ((16 * x3_212) + (A_212 106 x3_212.toNatClampNeg)).toNatClampNeg (ff_X9_find I_148 A_212 x3_212 (itmI (A_212 102) x1_179 x2_187 x3_212))) 108 ((16 * x3_212) + (A_212 106 x3_212.toNatClampNeg)).toNatClampNeg (ff_X9_find I_148 (up2 A_212 107 ((16 * x3_212) + (A_212 106 x3_212.toNatClampNeg)).toNatClampNeg (ff_X9_find I_148 A_212 x3_212 (itmI (A_212 102) x1_179 x2_187 x3_212))) (x3_212 + 1) (itmI ((up2 A_212 107 ((16 * x3_212) + (A_212 106 x3_212.toNatClampNeg)).toNatClampNeg (ff_X9_find I_148 A_212 x3_212 (itmI (A_212 102) x1_179 x2_187 x3_212))) 102) x1_179 x2_187 (x3_212 + 1)))) 109 ((16 * x3_212) + (A_212 106 x3_212.toNatClampNeg)).toNatClampNeg ((up2 (up2 A_212 107 ((16 * x3_212) + (A_212 106 x3_212.toNatClampNeg)).toNatClampNeg (ff_X9_find I_148 A_212 x3_212 (itmI (A_212 102) x1_179 x2_187 x3_212))) 108 ((16 * x3_212) + (A_212 106 x3_212.toNatClampNeg)).toNatClampNeg (ff_X9_find I_148 (up2 A_212 107 ((16 * x3_212) + (A_212 106 x3_212.toNatClampNeg)).toNatClampNeg (ff_X9_find I_148 A_212 x3_212 (itmI (A_212 102) x1_179 x2_187 x3_212))) (x3_212 + 1) (itmI ((up2 A_212 107 ((16 * x3_212) + (A_212 106 x3_212.toNatClampNeg)).toNatClampNeg (ff_X9_find I_148 A_212 x3_212 (itmI (A_212 102) x1_179 x2_187 x3_212))) 102) x1_179 x2_187 (x3_212 + 1)))) 97 ((10 * x1_179) + x2_187).toNatClampNeg)) 106 x3_212.toNatClampNeg) + 1)) < mu212 I2 A2 x1_6 A_6 x1_34 I_34 A_34 x1_67 I_67 A_67 x1_148 I_148 x1_179 A_179 x2_187 A_187 x3_212 A_212)))))))))))))))))) ∧ ((isS (A_187 97) (A_187 101) x1_179 x2_187) = 0 → (Iv187 I2 A2 x1_6 A_6 x1_34 I_34 A_34 x1_67 I_67 A_67 x1_148 I_148 x1_179 A_179 (x2_187 + 1) A_187 ∧ mu187 I2 A2 x1_6 A_6 x1_34 I_34 A_34 x1_67 I_67 A_67 x1_148 I_148 x1_179 A_179 (x2_187 + 1) A_187 < mu187 I2 A2 x1_6 A_6 x1_34 I_34 A_34 x1_67 I_67 A_67 x1_148 I_148 x1_179 A_179 x2_187 A_187))))))))))) ∧ (¬ (I_148 96 12) ≤ x1_148 → (vp_in x1_148 10 ∧ (((A_67 104 x1_148.toNatClampNeg) ≤ 5 → (Iv148 I2 A2 x1_6 A_6 x1_34 I_34 A_34 x1_67 I_67 A_67 (x1_148 + 1) I_148 ∧ mu148 I2 A2 x1_6 A_6 x1_34 I_34 A_34 x1_67 I_67 A_67 (x1_148 + 1) I_148 < mu148 I2 A2 x1_6 A_6 x1_34 I_34 A_34 x1_67 I_67 A_67 x1_148 I_148)) ∧ (¬ (A_67 104 x1_148.toNatClampNeg) ≤ 5 → (Iv148 I2 A2 x1_6 A_6 x1_34 I_34 A_34 x1_67 I_67 A_67 (x1_148 + 1) (up2 I_148 96 14 0) ∧ mu148 I2 A2 x1_6 A_6 x1_34 I_34 A_34 x1_67 I_67 A_67 (x1_148 + 1) (up2 I_148 96 14 0) < mu148 I2 A2 x1_6 A_6 x1_34 I_34 A_34 x1_67 I_67 A_67 x1_148 I_148)))))))) ∧ (¬ 10 ≤ x1_67 → (Iv75 I2 A2 x1_6 A_6 x1_34 I_34 A_34 x1_67 I_67 A_67 0 I_67 A_67 ∧ ∀ (x2_75 : Int32) (I_75 : HI) (A_75 : HI), Iv75 I2 A2 x1_6 A_6 x1_34 I_34 A_34 x1_67 I_67 A_67 x2_75 I_75 A_75 → ((10 ≤ x2_75 → (Iv67 I2 A2 x1_6 A_6 x1_34 I_34 A_34 (x1_67 + 1) I_75 A_75 ∧ mu67 I2 A2 x1_6 A_6 x1_34 I_34 A_34 (x1_67 + 1) I_75 A_75 < mu67 I2 A2 x1_6 A_6 x1_34 I_34 A_34 x1_67 I_67 A_67)) ∧ (¬ 10 ≤ x2_75 → ((vp_in x1_67 10 ∧ vp_in x2_75 10) ∧ (((isS (A_75 97) (A_75 101) x1_67 x2_75) = 0 → (Iv75 I2 A2 x1_6 A_6 x1_34 I_34 A_34 x1_67 I_67 A_67 (x2_75 + 1) I_75 A_75 ∧ mu75 I2 A2 x1_6 A_6 x1_34 I_34 A_34 x1_67 I_67 A_67 (x2_75 + 1) I_75 A_75 < mu75 I2 A2 x1_6 A_6 x1_34 I_34 A_34 x1_67 I_67 A_67 x2_75 I_75 A_75)) ∧ (¬ (isS (A_75 97) (A_75 101) x1_67 x2_75) = 0 → (vp_in x1_67 10 ∧ (Iv99 I2 A2 x1_6 A_6 x1_34 I_34 A_34 x1_67 I_67 A_67 x2_75 I_75 A_75 ((A_75 102 x1_67.toNatClampNeg) + 1) I_75 A_75 ∧ ∀ (x3_99 : Int32) (I_99 : HI) (A_99 : HI), Iv99 I2 A2 x1_6 A_6 x1_34 I_34 A_34 x1_67 I_67 A_67 x2_75 I_75 A_75 x3_99 I_99 A_99 → (vp_in x2_75 10 ∧ (((A_99 102 x2_75.toNatClampNeg) ≤ x3_99 → (Iv75 I2 A2 x1_6 A_6 x1_34 I_34 A_34 x1_67 I_67 A_67 (x2_75 + 1) I_99 A_99 ∧ mu75 I2 A2 x1_6 A_6 x1_34 I_34 A_34 x1_67 I_67 A_67 (x2_75 + 1) I_99 A_99 < mu75 I2 A2 x1_6 A_6 x1_34 I_34 A_34 x1_67 I_67 A_67 x2_75 I_75 A_75)) ∧ (¬ (A_99 102 x2_75.toNatClampNeg) ≤ x3_99 → ((pp_X9_puts I_99 A_99 x3_99 ((100 + (10 * x1_67)) + x2_75)) ∧ (∀ (I10 A10 : HI), qq_X9_puts I_99 A_99 x3_99 ((100 + (10 * x1_67)) + x2_75) I10 A10 → (Iv99 I2 A2 x1_6 A_6 x1_34 I_34 A_34 x1_67 I_67 A_67 x2_75 I_75 A_75 (x3_99 + 1) I10 A10 ∧ mu99 I2 A2 x1_6 A_6 x1_34 I_34 A_34 x1_67 I_67 A_67 x2_75 I_75 A_75 (x3_99 + 1) I10 A10 < mu99 I2 A2 x1_6 A_6 x1_34 I_34 A_34 x1_67 I_67 A_67 x2_75 I_75 A_75 x3_99 I_99 A_99)))))))))))))))))) ∧ (¬ 10 ≤ x1_34 → (((uBt (I_34 96 7) x1_34) = 0 → (Iv34 I2 A2 x1_6 A_6 (x1_34 + 1) I_34 A_34 ∧ mu34 I2 A2 x1_6 A_6 (x1_34 + 1) I_34 A_34 < mu34 I2 A2 x1_6 A_6 x1_34 I_34 A_34)) ∧ (¬ (uBt (I_34 96 7) x1_34) = 0 → (vp_in x1_34 10 ∧ ((pp_X9_puts I_34 A_34 (A_34 102 x1_34.toNatClampNeg) x1_34) ∧ (∀ (I13 A13 : HI), qq_X9_puts I_34 A_34 (A_34 102 x1_34.toNatClampNeg) x1_34 I13 A13 → (Iv34 I2 A2 x1_6 A_6 (x1_34 + 1) I13 A13 ∧ mu34 I2 A2 x1_6 A_6 (x1_34 + 1) I13 A13 < mu34 I2 A2 x1_6 A_6 x1_34 I_34 A_34)))))))))) ∧ (¬ 10 ≤ x1_6 → (vp_in x1_6 10 ∧ (vp_in x1_6 10 ∧ (Iv6 I2 A2 (x1_6 + 1) (up2 (up2 A_6 104 x1_6.toNatClampNeg 0) 106 x1_6.toNatClampNeg 0) ∧ mu6 I2 A2 (x1_6 + 1) (up2 (up2 A_6 104 x1_6.toNatClampNeg 0) 106 x1_6.toNatClampNeg 0) < mu6 I2 A2 x1_6 A_6))))))))) : Ct l yX9_findItems cX9_findItems 5 none 2 48 D ads shp [.inr (some 96)] I A po := by
  refine Ct_of (by decide) (Nat.le_of_ble_eq_true rfl) ?_
  intro p e s m args below meth c hC hr
  replace hC : CX p s m args meth c cX9_findItems 5 RX9 (AdS ads s.heap.size) := hC
  show Gm p l e s m args below meth c D ads 2 48 5 po I A 0 [some (.inr (some 96)), none, none, none, none] []
  refine g_blk hC _ bX9_findItems_0_1 (pc' := 1) (ls' := [some (.inr (some 96)), none, none, none, none]) (st' := [.inr (some 96)]) (I' := I) rfl rfl ?_
  obtain ⟨hp1, hv⟩ := hv
  refine g_callV hC (hh_X9_findRow I A  hp1) dX9_findItems_1 nm_X9_findRow rfl rfl wl_X9_97 wi_X9_findRow ws_X9_findRow wn_X9 wc_X9_findRow ⟨by decide, by decide⟩ (as := []) (rest := []) rfl (Nat.le_of_ble_eq_true rfl) ⟨Nat.le_refl _, Nat.le_refl _⟩ (k_qV ?_)
  intro I2 A2 hq2
  replace hv := hv I2 A2 hq2
  refine g_blk hC _ bX9_findItems_4_6 (pc' := 6) (ls' := [some (.inr (some 96)), some (.inl 0), none, none, none]) (st' := []) (I' := I2) rfl rfl ?_
  obtain ⟨hi6, hb6⟩ := hv
  have L6 : ∀ (n : Nat) (x1_6 : Int32) (A_6 : HI), Iv6 I2 A2 x1_6 A_6 → mu6 I2 A2 x1_6 A_6 < n → Gm p l e s m args below meth c D ads 2 48 5 po I2 A_6 6 [some (.inr (some 96)), some (.inl x1_6), none, none, none] [] := by
    intro n
    induction n with
    | zero => intro x1_6 A_6 _ hn; exact absurd hn (Nat.not_lt_zero _)
    | succ n ih6 =>
      intro x1_6 A_6 hv hn6
      replace hv := hb6 x1_6 A_6 hv
      skip
      refine g_blk hC _ bX9_findItems_6_9 (pc' := 9) (ls' := [some (.inr (some 96)), some (.inl x1_6), none, none, none]) (st' := [.inl 10, .inl x1_6]) (I' := I2) rfl rfl ?_
      obtain ⟨hv1, hv2⟩ := hv
      refine g_cge hC dX9_findItems_9 (tgt := 32) (by decide) (fun hc => ?_) (fun hc => ?_)
      · have hv := hv1 hc
        clear hv1 hv2 hc
        refine g_blk hC _ bX9_findItems_32_34 (pc' := 34) (ls' := [some (.inr (some 96)), some (.inl 0), none, none, none]) (st' := []) (I' := I2) rfl rfl ?_
        obtain ⟨hi34, hb34⟩ := hv
        have L34 : ∀ (n : Nat) (x1_34 : Int32) (I_34 : HI) (A_34 : HI), Iv34 I2 A2 x1_6 A_6 x1_34 I_34 A_34 → mu34 I2 A2 x1_6 A_6 x1_34 I_34 A_34 < n → Gm p l e s m args below meth c D ads 2 48 5 po I_34 A_34 34 [some (.inr (some 96)), some (.inl x1_34), none, none, none] [] := by
          intro n
          induction n with
          | zero => intro x1_34 I_34 A_34 _ hn; exact absurd hn (Nat.not_lt_zero _)
          | succ n ih34 =>
            intro x1_34 I_34 A_34 hv hn34
            replace hv := hb34 x1_34 I_34 A_34 hv
            skip
            refine g_blk hC _ bX9_findItems_34_37 (pc' := 37) (ls' := [some (.inr (some 96)), some (.inl x1_34), none, none, none]) (st' := [.inl 10, .inl x1_34]) (I' := I_34) rfl rfl ?_
            obtain ⟨hv1, hv2⟩ := hv
            refine g_cge hC dX9_findItems_37 (tgt := 65) (by decide) (fun hc => ?_) (fun hc => ?_)
            · have hv := hv1 hc
              clear hv1 hv2 hc
              refine g_blk hC _ bX9_findItems_65_67 (pc' := 67) (ls' := [some (.inr (some 96)), some (.inl 0), none, none, none]) (st' := []) (I' := I_34) rfl rfl ?_
              obtain ⟨hi67, hb67⟩ := hv
              have L67 : ∀ (n : Nat) (x1_67 : Int32) (I_67 : HI) (A_67 : HI), Iv67 I2 A2 x1_6 A_6 x1_34 I_34 A_34 x1_67 I_67 A_67 → mu67 I2 A2 x1_6 A_6 x1_34 I_34 A_34 x1_67 I_67 A_67 < n → Gm p l e s m args below meth c D ads 2 48 5 po I_67 A_67 67 [some (.inr (some 96)), some (.inl x1_67), none, none, none] [] := by
                intro n
                induction n with
                | zero => intro x1_67 I_67 A_67 _ hn; exact absurd hn (Nat.not_lt_zero _)
                | succ n ih67 =>
                  intro x1_67 I_67 A_67 hv hn67
                  replace hv := hb67 x1_67 I_67 A_67 hv
                  skip
                  refine g_blk hC _ bX9_findItems_67_70 (pc' := 70) (ls' := [some (.inr (some 96)), some (.inl x1_67), none, none, none]) (st' := [.inl 10, .inl x1_67]) (I' := I_67) rfl rfl ?_
                  obtain ⟨hv1, hv2⟩ := hv
                  refine g_cge hC dX9_findItems_70 (tgt := 141) (by decide) (fun hc => ?_) (fun hc => ?_)
                  · have hv := hv1 hc
                    clear hv1 hv2 hc
                    refine g_blk hC _ bX9_findItems_141_148 (pc' := 148) (ls' := [some (.inr (some 96)), some (.inl 0), none, none, none]) (st' := []) (I' := up2 I_67 96 14 1) rfl rfl ?_
                    obtain ⟨hi148, hb148⟩ := hv
                    have L148 : ∀ (n : Nat) (x1_148 : Int32) (I_148 : HI), Iv148 I2 A2 x1_6 A_6 x1_34 I_34 A_34 x1_67 I_67 A_67 x1_148 I_148 → mu148 I2 A2 x1_6 A_6 x1_34 I_34 A_34 x1_67 I_67 A_67 x1_148 I_148 < n → Gm p l e s m args below meth c D ads 2 48 5 po I_148 A_67 148 [some (.inr (some 96)), some (.inl x1_148), none, none, none] [] := by
                      intro n
                      induction n with
                      | zero => intro x1_148 I_148 _ hn; exact absurd hn (Nat.not_lt_zero _)
                      | succ n ih148 =>
                        intro x1_148 I_148 hv hn148
                        replace hv := hb148 x1_148 I_148 hv
                        skip
                        refine g_blk hC _ bX9_findItems_148_153 (pc' := 153) (ls' := [some (.inr (some 96)), some (.inl x1_148), none, none, none]) (st' := [.inl (I_148 96 12), .inl x1_148]) (I' := I_148) rfl rfl ?_
                        obtain ⟨hv1, hv2⟩ := hv
                        refine g_cge hC dX9_findItems_153 (tgt := 177) (by decide) (fun hc => ?_) (fun hc => ?_)
                        · have hv := hv1 hc
                          clear hv1 hv2 hc
                          refine g_blk hC _ bX9_findItems_177_179 (pc' := 179) (ls' := [some (.inr (some 96)), some (.inl 0), none, none, none]) (st' := []) (I' := I_148) rfl rfl ?_
                          obtain ⟨hi179, hb179⟩ := hv
                          have L179 : ∀ (n : Nat) (x1_179 : Int32) (A_179 : HI), Iv179 I2 A2 x1_6 A_6 x1_34 I_34 A_34 x1_67 I_67 A_67 x1_148 I_148 x1_179 A_179 → mu179 I2 A2 x1_6 A_6 x1_34 I_34 A_34 x1_67 I_67 A_67 x1_148 I_148 x1_179 A_179 < n → Gm p l e s m args below meth c D ads 2 48 5 po I_148 A_179 179 [some (.inr (some 96)), some (.inl x1_179), none, none, none] [] := by
                            intro n
                            induction n with
                            | zero => intro x1_179 A_179 _ hn; exact absurd hn (Nat.not_lt_zero _)
                            | succ n ih179 =>
                              intro x1_179 A_179 hv hn179
                              replace hv := hb179 x1_179 A_179 hv
                              skip
                              refine g_blk hC _ bX9_findItems_179_182 (pc' := 182) (ls' := [some (.inr (some 96)), some (.inl x1_179), none, none, none]) (st' := [.inl 10, .inl x1_179]) (I' := I_148) rfl rfl ?_
                              obtain ⟨hv1, hv2⟩ := hv
                              refine g_cge hC dX9_findItems_182 (tgt := 327) (by decide) (fun hc => ?_) (fun hc => ?_)
                              · have hv := hv1 hc
                                clear hv1 hv2 hc
                                exact g_retv hC hr dX9_findItems_327 hv
                              · have hv := hv2 hc
                                clear hv1 hv2 hc
                                refine g_blk hC _ bX9_findItems_185_187 (pc' := 187) (ls' := [some (.inr (some 96)), some (.inl x1_179), some (.inl 0), none, none]) (st' := []) (I' := I_148) rfl rfl ?_
                                obtain ⟨hi187, hb187⟩ := hv
                                have L187 : ∀ (n : Nat) (x2_187 : Int32) (A_187 : HI), Iv187 I2 A2 x1_6 A_6 x1_34 I_34 A_34 x1_67 I_67 A_67 x1_148 I_148 x1_179 A_179 x2_187 A_187 → mu187 I2 A2 x1_6 A_6 x1_34 I_34 A_34 x1_67 I_67 A_67 x1_148 I_148 x1_179 A_179 x2_187 A_187 < n → Gm p l e s m args below meth c D ads 2 48 5 po I_148 A_187 187 [some (.inr (some 96)), some (.inl x1_179), some (.inl x2_187), none, none] [] := by
                                  intro n
                                  induction n with
                                  | zero => intro x2_187 A_187 _ hn; exact absurd hn (Nat.not_lt_zero _)
                                  | succ n ih187 =>
                                    intro x2_187 A_187 hv hn187
                                    replace hv := hb187 x2_187 A_187 hv
                                    skip
                                    refine g_blk hC _ bX9_findItems_187_190 (pc' := 190) (ls' := [some (.inr (some 96)), some (.inl x1_179), some (.inl x2_187), none, none]) (st' := [.inl 10, .inl x2_187]) (I' := I_148) rfl rfl ?_
                                    obtain ⟨hv1, hv2⟩ := hv
                                    refine g_cge hC dX9_findItems_190 (tgt := 321) (by decide) (fun hc => ?_) (fun hc => ?_)
                                    · have hv := hv1 hc
                                      clear hv1 hv2 hc
                                      refine g_blk hC _ bX9_findItems_321_324 (pc' := 324) (ls' := [some (.inr (some 96)), some (.inl (x1_179 + 1)), some (.inl x2_187), none, none]) (st' := []) (I' := I_148) rfl rfl ?_
                                      refine g_goto hC dX9_findItems_324 (tgt := 179) (by decide) ?_
                                      exact g_weak (ls1 := [some (.inr (some 96)), some (.inl (x1_179 + 1)), none, none, none]) rfl (And.intro rfl (And.intro rfl trivial)) (ih179 (x1_179 + 1) A_187 hv.1 (Nat.lt_of_lt_of_le hv.2 (Nat.le_of_lt_succ hn179)))
                                    · have hv := hv2 hc
                                      clear hv1 hv2 hc
                                      refine g_blk hC _ bX9_findItems_193_196 (pc' := 196) (ls' := [some (.inr (some 96)), some (.inl x1_179), some (.inl x2_187), none, none]) (st' := [.inl x2_187, .inl x1_179, .inr (some 96)]) (I' := I_148) rfl rfl ?_
                                      obtain ⟨hp3, hv⟩ := hv
                                      refine g_callV hC (c_X9_isStraight l D ads I_148 A_187 x1_179 x2_187 hp3) dX9_findItems_196 nm_X9_isStraight rfl rfl wl_X9_107 wi_X9_isStraight ws_X9_isStraight wn_X9 wc_X9_isStraight ⟨by decide, by decide⟩ (as := [.inl x1_179, .inl x2_187]) (rest := []) rfl (Nat.le_of_ble_eq_true rfl) ⟨Nat.le_refl _, Nat.le_refl _⟩ (k_qI ?_)
                                      obtain ⟨hv1, hv2⟩ := hv
                                      refine g_ifne hC dX9_findItems_199 (tgt := 205) (by decide) (fun hc => ?_) (fun hc => ?_)
                                      · have hv := hv1 hc
                                        clear hv1 hv2 hc
                                        refine g_blk hC _ bX9_findItems_205_210 (pc' := 210) (ls' := [some (.inr (some 96)), some (.inl x1_179), some (.inl x2_187), none, none]) (st' := [.inl x1_179, .inr (some 102)]) (I' := I_148) rfl rfl ?_
                                        obtain ⟨hi, hv⟩ := hv
                                        refine g_iald hC dX9_findItems_210 (rfl) hi ?_
                                        clear hi
                                        refine g_blk hC _ bX9_findItems_211_212 (pc' := 212) (ls' := [some (.inr (some 96)), some (.inl x1_179), some (.inl x2_187), some (.inl (A_187 102 x1_179.toNatClampNeg)), none]) (st' := []) (I' := I_148) rfl rfl ?_
                                        obtain ⟨hi212, hb212⟩ := hv
                                        have L212 : ∀ (n : Nat) (x3_212 : Int32) (A_212 : HI), Iv212 I2 A2 x1_6 A_6 x1_34 I_34 A_34 x1_67 I_67 A_67 x1_148 I_148 x1_179 A_179 x2_187 A_187 x3_212 A_212 → mu212 I2 A2 x1_6 A_6 x1_34 I_34 A_34 x1_67 I_67 A_67 x1_148 I_148 x1_179 A_179 x2_187 A_187 x3_212 A_212 < n → Gm p l e s m args below meth c D ads 2 48 5 po I_148 A_212 212 [some (.inr (some 96)), some (.inl x1_179), some (.inl x2_187), some (.inl x3_212), none] [] := by
                                          intro n
                                          induction n with
                                          | zero => intro x3_212 A_212 _ hn; exact absurd hn (Nat.not_lt_zero _)
                                          | succ n ih212 =>
                                            intro x3_212 A_212 hv hn212
                                            replace hv := hb212 x3_212 A_212 hv
                                            skip
                                            refine g_blk hC _ bX9_findItems_212_218 (pc' := 218) (ls' := [some (.inr (some 96)), some (.inl x1_179), some (.inl x2_187), some (.inl x3_212), none]) (st' := [.inl x2_187, .inr (some 102), .inl x3_212]) (I' := I_148) rfl rfl ?_
                                            obtain ⟨hi, hv⟩ := hv
                                            refine g_iald hC dX9_findItems_218 (rfl) hi ?_
                                            clear hi
                                            obtain ⟨hv1, hv2⟩ := hv
                                            refine g_cge hC dX9_findItems_219 (tgt := 315) (by decide) (fun hc => ?_) (fun hc => ?_)
                                            · have hv := hv1 hc
                                              clear hv1 hv2 hc
                                              refine g_blk hC _ bX9_findItems_315_318 (pc' := 318) (ls' := [some (.inr (some 96)), some (.inl x1_179), some (.inl (x2_187 + 1)), some (.inl x3_212), none]) (st' := []) (I' := I_148) rfl rfl ?_
                                              refine g_goto hC dX9_findItems_318 (tgt := 187) (by decide) ?_
                                              exact g_weak (ls1 := [some (.inr (some 96)), some (.inl x1_179), some (.inl (x2_187 + 1)), none, none]) rfl (And.intro rfl (And.intro rfl (And.intro rfl trivial))) (ih187 (x2_187 + 1) A_212 hv.1 (Nat.lt_of_lt_of_le hv.2 (Nat.le_of_lt_succ hn187)))
                                            · have hv := hv2 hc
                                              clear hv1 hv2 hc
                                              refine g_blk hC _ bX9_findItems_222_231 (pc' := 231) (ls' := [some (.inr (some 96)), some (.inl x1_179), some (.inl x2_187), some (.inl x3_212), none]) (st' := [.inl x3_212, .inr (some 106), .inl (16 * x3_212)]) (I' := I_148) rfl rfl ?_
                                              obtain ⟨hi, hv⟩ := hv
                                              refine g_iald hC dX9_findItems_231 (rfl) hi ?_
                                              clear hi
                                              refine g_blk hC _ bX9_findItems_232_247 (pc' := 247) (ls' := [some (.inr (some 96)), some (.inl x1_179), some (.inl x2_187), some (.inl x3_212), some (.inl ((16 * x3_212) + (A_212 106 x3_212.toNatClampNeg)))]) (st' := [.inl x3_212, .inl x2_187, .inl x1_179, .inr (some 96), .inl x3_212, .inr (some 96), .inl ((16 * x3_212) + (A_212 106 x3_212.toNatClampNeg)), .inr (some 107)]) (I' := I_148) rfl rfl ?_
                                              obtain ⟨hp4, hv⟩ := hv
                                              refine g_callV hC (c_X9_idOf l D ads I_148 A_212 x1_179 x2_187 x3_212 hp4) dX9_findItems_247 nm_X9_idOf rfl rfl wl_X9_114 wi_X9_idOf ws_X9_idOf wn_X9 wc_X9_idOf ⟨by decide, by decide⟩ (as := [.inl x1_179, .inl x2_187, .inl x3_212]) (rest := [.inl x3_212, .inr (some 96), .inl ((16 * x3_212) + (A_212 106 x3_212.toNatClampNeg)), .inr (some 107)]) rfl (Nat.le_of_ble_eq_true rfl) ⟨Nat.le_refl _, Nat.le_refl _⟩ (k_qI ?_)
                                              obtain ⟨hp5, hv⟩ := hv
                                              refine g_callV hC (hh_X9_find I_148 A_212 x3_212 (itmI (A_212 102) x1_179 x2_187 x3_212) hp5) dX9_findItems_250 nm_X9_find rfl rfl wl_X9_118 wi_X9_find ws_X9_find wn_X9 wc_X9_find ⟨by decide, by decide⟩ (as := [.inl x3_212, .inl (itmI (A_212 102) x1_179 x2_187 x3_212)]) (rest := [.inl ((16 * x3_212) + (A_212 106 x3_212.toNatClampNeg)), .inr (some 107)]) rfl (Nat.le_of_ble_eq_true rfl) ⟨Nat.le_refl _, Nat.le_refl _⟩ (k_qI ?_)
                                              obtain ⟨hi, hv⟩ := hv
                                              refine g_iast hC dX9_findItems_253 (rfl) hi ?_
                                              clear hi
                                              refine g_blk hC _ bX9_findItems_254_270 (pc' := 270) (ls' := [some (.inr (some 96)), some (.inl x1_179), some (.inl x2_187), some (.inl x3_212), some (.inl ((16 * x3_212) + (A_212 106 x3_212.toNatClampNeg)))]) (st' := [.inl (x3_212 + 1), .inl x2_187, .inl x1_179, .inr (some 96), .inl (x3_212 + 1), .inr (some 96), .inl ((16 * x3_212) + (A_212 106 x3_212.toNatClampNeg)), .inr (some 108)]) (I' := I_148) rfl rfl ?_
                                              obtain ⟨hp6, hv⟩ := hv
                                              refine g_callV hC (c_X9_idOf l D ads I_148 (up2 A_212 107 ((16 * x3_212) + (A_212 106 x3_212.toNatClampNeg)).toNatClampNeg (ff_X9_find I_148 A_212 x3_212 (itmI (A_212 102) x1_179 x2_187 x3_212))) x1_179 x2_187 (x3_212 + 1) hp6) dX9_findItems_270 nm_X9_idOf rfl rfl wl_X9_114 wi_X9_idOf ws_X9_idOf wn_X9 wc_X9_idOf ⟨by decide, by decide⟩ (as := [.inl x1_179, .inl x2_187, .inl (x3_212 + 1)]) (rest := [.inl (x3_212 + 1), .inr (some 96), .inl ((16 * x3_212) + (A_212 106 x3_212.toNatClampNeg)), .inr (some 108)]) rfl (Nat.le_of_ble_eq_true rfl) ⟨Nat.le_refl _, Nat.le_refl _⟩ (k_qI ?_)
                                              obtain ⟨hp7, hv⟩ := hv
                                              refine g_callV hC (hh_X9_find I_148 (up2 A_212 107 ((16 * x3_212) + (A_212 106 x3_212.toNatClampNeg)).toNatClampNeg (ff_X9_find I_148 A_212 x3_212 (itmI (A_212 102) x1_179 x2_187 x3_212))) (x3_212 + 1) (itmI ((up2 A_212 107 ((16 * x3_212) + (A_212 106 x3_212.toNatClampNeg)).toNatClampNeg (ff_X9_find I_148 A_212 x3_212 (itmI (A_212 102) x1_179 x2_187 x3_212))) 102) x1_179 x2_187 (x3_212 + 1)) hp7) dX9_findItems_273 nm_X9_find rfl rfl wl_X9_118 wi_X9_find ws_X9_find wn_X9 wc_X9_find ⟨by decide, by decide⟩ (as := [.inl (x3_212 + 1), .inl (itmI ((up2 A_212 107 ((16 * x3_212) + (A_212 106 x3_212.toNatClampNeg)).toNatClampNeg (ff_X9_find I_148 A_212 x3_212 (itmI (A_212 102) x1_179 x2_187 x3_212))) 102) x1_179 x2_187 (x3_212 + 1))]) (rest := [.inl ((16 * x3_212) + (A_212 106 x3_212.toNatClampNeg)), .inr (some 108)]) rfl (Nat.le_of_ble_eq_true rfl) ⟨Nat.le_refl _, Nat.le_refl _⟩ (k_qI ?_)
                                              obtain ⟨hi, hv⟩ := hv
                                              refine g_iast hC dX9_findItems_276 (rfl) hi ?_
                                              clear hi
                                              refine g_blk hC _ bX9_findItems_277_293 (pc' := 293) (ls' := [some (.inr (some 96)), some (.inl x1_179), some (.inl x2_187), some (.inl x3_212), some (.inl ((16 * x3_212) + (A_212 106 x3_212.toNatClampNeg)))]) (st' := [.inl ((10 * x1_179) + x2_187), .inr (some 97), .inl ((16 * x3_212) + (A_212 106 x3_212.toNatClampNeg)), .inr (some 109)]) (I' := I_148) rfl rfl ?_
                                              obtain ⟨hi, hv⟩ := hv
                                              refine g_iald hC dX9_findItems_293 (rfl) hi ?_
                                              clear hi
                                              obtain ⟨hi, hv⟩ := hv
                                              refine g_iast hC dX9_findItems_294 (rfl) hi ?_
                                              clear hi
                                              refine g_blk hC _ bX9_findItems_295_305 (pc' := 305) (ls' := [some (.inr (some 96)), some (.inl x1_179), some (.inl x2_187), some (.inl x3_212), some (.inl ((16 * x3_212) + (A_212 106 x3_212.toNatClampNeg)))]) (st' := [.inl x3_212, .inr (some 106), .inl x3_212, .inr (some 106)]) (I' := I_148) rfl rfl ?_
                                              obtain ⟨hi, hv⟩ := hv
                                              refine g_iald hC dX9_findItems_305 (rfl) hi ?_
                                              clear hi
                                              refine g_blk hC _ bX9_findItems_306_308 (pc' := 308) (ls' := [some (.inr (some 96)), some (.inl x1_179), some (.inl x2_187), some (.inl x3_212), some (.inl ((16 * x3_212) + (A_212 106 x3_212.toNatClampNeg)))]) (st' := [.inl (((up2 (up2 (up2 A_212 107 ((16 * x3_212) + (A_212 106 x3_212.toNatClampNeg)).toNatClampNeg (ff_X9_find I_148 A_212 x3_212 (itmI (A_212 102) x1_179 x2_187 x3_212))) 108 ((16 * x3_212) + (A_212 106 x3_212.toNatClampNeg)).toNatClampNeg (ff_X9_find I_148 (up2 A_212 107 ((16 * x3_212) + (A_212 106 x3_212.toNatClampNeg)).toNatClampNeg (ff_X9_find I_148 A_212 x3_212 (itmI (A_212 102) x1_179 x2_187 x3_212))) (x3_212 + 1) (itmI ((up2 A_212 107 ((16 * x3_212) + (A_212 106 x3_212.toNatClampNeg)).toNatClampNeg (ff_X9_find I_148 A_212 x3_212 (itmI (A_212 102) x1_179 x2_187 x3_212))) 102) x1_179 x2_187 (x3_212 + 1)))) 109 ((16 * x3_212) + (A_212 106 x3_212.toNatClampNeg)).toNatClampNeg ((up2 (up2 A_212 107 ((16 * x3_212) + (A_212 106 x3_212.toNatClampNeg)).toNatClampNeg (ff_X9_find I_148 A_212 x3_212 (itmI (A_212 102) x1_179 x2_187 x3_212))) 108 ((16 * x3_212) + (A_212 106 x3_212.toNatClampNeg)).toNatClampNeg (ff_X9_find I_148 (up2 A_212 107 ((16 * x3_212) + (A_212 106 x3_212.toNatClampNeg)).toNatClampNeg (ff_X9_find I_148 A_212 x3_212 (itmI (A_212 102) x1_179 x2_187 x3_212))) (x3_212 + 1) (itmI ((up2 A_212 107 ((16 * x3_212) + (A_212 106 x3_212.toNatClampNeg)).toNatClampNeg (ff_X9_find I_148 A_212 x3_212 (itmI (A_212 102) x1_179 x2_187 x3_212))) 102) x1_179 x2_187 (x3_212 + 1)))) 97 ((10 * x1_179) + x2_187).toNatClampNeg)) 106 x3_212.toNatClampNeg) + 1), .inl x3_212, .inr (some 106)]) (I' := I_148) rfl rfl ?_
                                              obtain ⟨hi, hv⟩ := hv
                                              refine g_iast hC dX9_findItems_308 (rfl) hi ?_
                                              clear hi
                                              refine g_blk hC _ bX9_findItems_309_312 (pc' := 312) (ls' := [some (.inr (some 96)), some (.inl x1_179), some (.inl x2_187), some (.inl (x3_212 + 1)), some (.inl ((16 * x3_212) + (A_212 106 x3_212.toNatClampNeg)))]) (st' := []) (I' := I_148) rfl rfl ?_
                                              refine g_goto hC dX9_findItems_312 (tgt := 212) (by decide) ?_
                                              exact g_weak (ls1 := [some (.inr (some 96)), some (.inl x1_179), some (.inl x2_187), some (.inl (x3_212 + 1)), none]) rfl (And.intro rfl (And.intro rfl (And.intro rfl (And.intro rfl trivial)))) (ih212 (x3_212 + 1) (up2 (up2 (up2 (up2 A_212 107 ((16 * x3_212) + (A_212 106 x3_212.toNatClampNeg)).toNatClampNeg (ff_X9_find I_148 A_212 x3_212 (itmI (A_212 102) x1_179 x2_187 x3_212))) 108 ((16 * x3_212) + (A_212 106 x3_212.toNatClampNeg)).toNatClampNeg (ff_X9_find I_148 (up2 A_212 107 ((16 * x3_212) + (A_212 106 x3_212.toNatClampNeg)).toNatClampNeg (ff_X9_find I_148 A_212 x3_212 (itmI (A_212 102) x1_179 x2_187 x3_212))) (x3_212 + 1) (itmI ((up2 A_212 107 ((16 * x3_212) + (A_212 106 x3_212.toNatClampNeg)).toNatClampNeg (ff_X9_find I_148 A_212 x3_212 (itmI (A_212 102) x1_179 x2_187 x3_212))) 102) x1_179 x2_187 (x3_212 + 1)))) 109 ((16 * x3_212) + (A_212 106 x3_212.toNatClampNeg)).toNatClampNeg ((up2 (up2 A_212 107 ((16 * x3_212) + (A_212 106 x3_212.toNatClampNeg)).toNatClampNeg (ff_X9_find I_148 A_212 x3_212 (itmI (A_212 102) x1_179 x2_187 x3_212))) 108 ((16 * x3_212) + (A_212 106 x3_212.toNatClampNeg)).toNatClampNeg (ff_X9_find I_148 (up2 A_212 107 ((16 * x3_212) + (A_212 106 x3_212.toNatClampNeg)).toNatClampNeg (ff_X9_find I_148 A_212 x3_212 (itmI (A_212 102) x1_179 x2_187 x3_212))) (x3_212 + 1) (itmI ((up2 A_212 107 ((16 * x3_212) + (A_212 106 x3_212.toNatClampNeg)).toNatClampNeg (ff_X9_find I_148 A_212 x3_212 (itmI (A_212 102) x1_179 x2_187 x3_212))) 102) x1_179 x2_187 (x3_212 + 1)))) 97 ((10 * x1_179) + x2_187).toNatClampNeg)) 106 x3_212.toNatClampNeg (((up2 (up2 (up2 A_212 107 ((16 * x3_212) + (A_212 106 x3_212.toNatClampNeg)).toNatClampNeg (ff_X9_find I_148 A_212 x3_212 (itmI (A_212 102) x1_179 x2_187 x3_212))) 108 ((16 * x3_212) + (A_212 106 x3_212.toNatClampNeg)).toNatClampNeg (ff_X9_find I_148 (up2 A_212 107 ((16 * x3_212) + (A_212 106 x3_212.toNatClampNeg)).toNatClampNeg (ff_X9_find I_148 A_212 x3_212 (itmI (A_212 102) x1_179 x2_187 x3_212))) (x3_212 + 1) (itmI ((up2 A_212 107 ((16 * x3_212) + (A_212 106 x3_212.toNatClampNeg)).toNatClampNeg (ff_X9_find I_148 A_212 x3_212 (itmI (A_212 102) x1_179 x2_187 x3_212))) 102) x1_179 x2_187 (x3_212 + 1)))) 109 ((16 * x3_212) + (A_212 106 x3_212.toNatClampNeg)).toNatClampNeg ((up2 (up2 A_212 107 ((16 * x3_212) + (A_212 106 x3_212.toNatClampNeg)).toNatClampNeg (ff_X9_find I_148 A_212 x3_212 (itmI (A_212 102) x1_179 x2_187 x3_212))) 108 ((16 * x3_212) + (A_212 106 x3_212.toNatClampNeg)).toNatClampNeg (ff_X9_find I_148 (up2 A_212 107 ((16 * x3_212) + (A_212 106 x3_212.toNatClampNeg)).toNatClampNeg (ff_X9_find I_148 A_212 x3_212 (itmI (A_212 102) x1_179 x2_187 x3_212))) (x3_212 + 1) (itmI ((up2 A_212 107 ((16 * x3_212) + (A_212 106 x3_212.toNatClampNeg)).toNatClampNeg (ff_X9_find I_148 A_212 x3_212 (itmI (A_212 102) x1_179 x2_187 x3_212))) 102) x1_179 x2_187 (x3_212 + 1)))) 97 ((10 * x1_179) + x2_187).toNatClampNeg)) 106 x3_212.toNatClampNeg) + 1)) hv.1 (Nat.lt_of_lt_of_le hv.2 (Nat.le_of_lt_succ hn212)))
                                        exact g_weak (ls1 := [some (.inr (some 96)), some (.inl x1_179), some (.inl x2_187), some (.inl (A_187 102 x1_179.toNatClampNeg)), none]) rfl (And.intro rfl (And.intro rfl (And.intro rfl (And.intro rfl trivial)))) (L212 _ (A_187 102 x1_179.toNatClampNeg) A_187 hi212 (Nat.lt_succ_self _))
                                      · have hv := hv2 hc
                                        clear hv1 hv2 hc
                                        refine g_goto hC dX9_findItems_202 (tgt := 315) (by decide) ?_
                                        refine g_blk hC _ bX9_findItems_315_318 (pc' := 318) (ls' := [some (.inr (some 96)), some (.inl x1_179), some (.inl (x2_187 + 1)), none, none]) (st' := []) (I' := I_148) rfl rfl ?_
                                        refine g_goto hC dX9_findItems_318 (tgt := 187) (by decide) ?_
                                        exact g_weak (ls1 := [some (.inr (some 96)), some (.inl x1_179), some (.inl (x2_187 + 1)), none, none]) rfl (And.intro rfl (And.intro rfl (And.intro rfl trivial))) (ih187 (x2_187 + 1) A_187 hv.1 (Nat.lt_of_lt_of_le hv.2 (Nat.le_of_lt_succ hn187)))
                                exact g_weak (ls1 := [some (.inr (some 96)), some (.inl x1_179), some (.inl 0), none, none]) rfl (And.intro rfl (And.intro rfl (And.intro rfl trivial))) (L187 _ 0 A_179 hi187 (Nat.lt_succ_self _))
                          exact g_weak (ls1 := [some (.inr (some 96)), some (.inl 0), none, none, none]) rfl (And.intro rfl (And.intro rfl trivial)) (L179 _ 0 A_67 hi179 (Nat.lt_succ_self _))
                        · have hv := hv2 hc
                          clear hv1 hv2 hc
                          refine g_blk hC _ bX9_findItems_156_161 (pc' := 161) (ls' := [some (.inr (some 96)), some (.inl x1_148), none, none, none]) (st' := [.inl x1_148, .inr (some 104)]) (I' := I_148) rfl rfl ?_
                          obtain ⟨hi, hv⟩ := hv
                          refine g_iald hC dX9_findItems_161 (rfl) hi ?_
                          clear hi
                          refine g_blk hC _ bX9_findItems_162_163 (pc' := 163) (ls' := [some (.inr (some 96)), some (.inl x1_148), none, none, none]) (st' := [.inl 5, .inl (A_67 104 x1_148.toNatClampNeg)]) (I' := I_148) rfl rfl ?_
                          obtain ⟨hv1, hv2⟩ := hv
                          refine g_cle hC dX9_findItems_163 (tgt := 171) (by decide) (fun hc => ?_) (fun hc => ?_)
                          · have hv := hv1 hc
                            clear hv1 hv2 hc
                            refine g_blk hC _ bX9_findItems_171_174 (pc' := 174) (ls' := [some (.inr (some 96)), some (.inl (x1_148 + 1)), none, none, none]) (st' := []) (I' := I_148) rfl rfl ?_
                            refine g_goto hC dX9_findItems_174 (tgt := 148) (by decide) ?_
                            exact g_weak (ls1 := [some (.inr (some 96)), some (.inl (x1_148 + 1)), none, none, none]) rfl (And.intro rfl (And.intro rfl trivial)) (ih148 (x1_148 + 1) I_148 hv.1 (Nat.lt_of_lt_of_le hv.2 (Nat.le_of_lt_succ hn148)))
                          · have hv := hv2 hc
                            clear hv1 hv2 hc
                            refine g_blk hC _ bX9_findItems_166_174 (pc' := 174) (ls' := [some (.inr (some 96)), some (.inl (x1_148 + 1)), none, none, none]) (st' := []) (I' := up2 I_148 96 14 0) rfl rfl ?_
                            refine g_goto hC dX9_findItems_174 (tgt := 148) (by decide) ?_
                            exact g_weak (ls1 := [some (.inr (some 96)), some (.inl (x1_148 + 1)), none, none, none]) rfl (And.intro rfl (And.intro rfl trivial)) (ih148 (x1_148 + 1) (up2 I_148 96 14 0) hv.1 (Nat.lt_of_lt_of_le hv.2 (Nat.le_of_lt_succ hn148)))
                    exact g_weak (ls1 := [some (.inr (some 96)), some (.inl 0), none, none, none]) rfl (And.intro rfl (And.intro rfl trivial)) (L148 _ 0 (up2 I_67 96 14 1) hi148 (Nat.lt_succ_self _))
                  · have hv := hv2 hc
                    clear hv1 hv2 hc
                    refine g_blk hC _ bX9_findItems_73_75 (pc' := 75) (ls' := [some (.inr (some 96)), some (.inl x1_67), some (.inl 0), none, none]) (st' := []) (I' := I_67) rfl rfl ?_
                    obtain ⟨hi75, hb75⟩ := hv
                    have L75 : ∀ (n : Nat) (x2_75 : Int32) (I_75 : HI) (A_75 : HI), Iv75 I2 A2 x1_6 A_6 x1_34 I_34 A_34 x1_67 I_67 A_67 x2_75 I_75 A_75 → mu75 I2 A2 x1_6 A_6 x1_34 I_34 A_34 x1_67 I_67 A_67 x2_75 I_75 A_75 < n → Gm p l e s m args below meth c D ads 2 48 5 po I_75 A_75 75 [some (.inr (some 96)), some (.inl x1_67), some (.inl x2_75), none, none] [] := by
                      intro n
                      induction n with
                      | zero => intro x2_75 I_75 A_75 _ hn; exact absurd hn (Nat.not_lt_zero _)
                      | succ n ih75 =>
                        intro x2_75 I_75 A_75 hv hn75
                        replace hv := hb75 x2_75 I_75 A_75 hv
                        skip
                        refine g_blk hC _ bX9_findItems_75_78 (pc' := 78) (ls' := [some (.inr (some 96)), some (.inl x1_67), some (.inl x2_75), none, none]) (st' := [.inl 10, .inl x2_75]) (I' := I_75) rfl rfl ?_
                        obtain ⟨hv1, hv2⟩ := hv
                        refine g_cge hC dX9_findItems_78 (tgt := 135) (by decide) (fun hc => ?_) (fun hc => ?_)
                        · have hv := hv1 hc
                          clear hv1 hv2 hc
                          refine g_blk hC _ bX9_findItems_135_138 (pc' := 138) (ls' := [some (.inr (some 96)), some (.inl (x1_67 + 1)), some (.inl x2_75), none, none]) (st' := []) (I' := I_75) rfl rfl ?_
                          refine g_goto hC dX9_findItems_138 (tgt := 67) (by decide) ?_
                          exact g_weak (ls1 := [some (.inr (some 96)), some (.inl (x1_67 + 1)), none, none, none]) rfl (And.intro rfl (And.intro rfl trivial)) (ih67 (x1_67 + 1) I_75 A_75 hv.1 (Nat.lt_of_lt_of_le hv.2 (Nat.le_of_lt_succ hn67)))
                        · have hv := hv2 hc
                          clear hv1 hv2 hc
                          refine g_blk hC _ bX9_findItems_81_84 (pc' := 84) (ls' := [some (.inr (some 96)), some (.inl x1_67), some (.inl x2_75), none, none]) (st' := [.inl x2_75, .inl x1_67, .inr (some 96)]) (I' := I_75) rfl rfl ?_
                          obtain ⟨hp8, hv⟩ := hv
                          refine g_callV hC (c_X9_isStraight l D ads I_75 A_75 x1_67 x2_75 hp8) dX9_findItems_84 nm_X9_isStraight rfl rfl wl_X9_107 wi_X9_isStraight ws_X9_isStraight wn_X9 wc_X9_isStraight ⟨by decide, by decide⟩ (as := [.inl x1_67, .inl x2_75]) (rest := []) rfl (Nat.le_of_ble_eq_true rfl) ⟨Nat.le_refl _, Nat.le_refl _⟩ (k_qI ?_)
                          obtain ⟨hv1, hv2⟩ := hv
                          refine g_ifeq hC dX9_findItems_87 (tgt := 129) (by decide) (fun hc => ?_) (fun hc => ?_)
                          · have hv := hv1 hc
                            clear hv1 hv2 hc
                            refine g_blk hC _ bX9_findItems_129_132 (pc' := 132) (ls' := [some (.inr (some 96)), some (.inl x1_67), some (.inl (x2_75 + 1)), none, none]) (st' := []) (I' := I_75) rfl rfl ?_
                            refine g_goto hC dX9_findItems_132 (tgt := 75) (by decide) ?_
                            exact g_weak (ls1 := [some (.inr (some 96)), some (.inl x1_67), some (.inl (x2_75 + 1)), none, none]) rfl (And.intro rfl (And.intro rfl (And.intro rfl trivial))) (ih75 (x2_75 + 1) I_75 A_75 hv.1 (Nat.lt_of_lt_of_le hv.2 (Nat.le_of_lt_succ hn75)))
                          · have hv := hv2 hc
                            clear hv1 hv2 hc
                            refine g_blk hC _ bX9_findItems_90_95 (pc' := 95) (ls' := [some (.inr (some 96)), some (.inl x1_67), some (.inl x2_75), none, none]) (st' := [.inl x1_67, .inr (some 102)]) (I' := I_75) rfl rfl ?_
                            obtain ⟨hi, hv⟩ := hv
                            refine g_iald hC dX9_findItems_95 (rfl) hi ?_
                            clear hi
                            refine g_blk hC _ bX9_findItems_96_99 (pc' := 99) (ls' := [some (.inr (some 96)), some (.inl x1_67), some (.inl x2_75), some (.inl ((A_75 102 x1_67.toNatClampNeg) + 1)), none]) (st' := []) (I' := I_75) rfl rfl ?_
                            obtain ⟨hi99, hb99⟩ := hv
                            have L99 : ∀ (n : Nat) (x3_99 : Int32) (I_99 : HI) (A_99 : HI), Iv99 I2 A2 x1_6 A_6 x1_34 I_34 A_34 x1_67 I_67 A_67 x2_75 I_75 A_75 x3_99 I_99 A_99 → mu99 I2 A2 x1_6 A_6 x1_34 I_34 A_34 x1_67 I_67 A_67 x2_75 I_75 A_75 x3_99 I_99 A_99 < n → Gm p l e s m args below meth c D ads 2 48 5 po I_99 A_99 99 [some (.inr (some 96)), some (.inl x1_67), some (.inl x2_75), some (.inl x3_99), none] [] := by
                              intro n
                              induction n with
                              | zero => intro x3_99 I_99 A_99 _ hn; exact absurd hn (Nat.not_lt_zero _)
                              | succ n ih99 =>
                                intro x3_99 I_99 A_99 hv hn99
                                replace hv := hb99 x3_99 I_99 A_99 hv
                                skip
                                refine g_blk hC _ bX9_findItems_99_105 (pc' := 105) (ls' := [some (.inr (some 96)), some (.inl x1_67), some (.inl x2_75), some (.inl x3_99), none]) (st' := [.inl x2_75, .inr (some 102), .inl x3_99]) (I' := I_99) rfl rfl ?_
                                obtain ⟨hi, hv⟩ := hv
                                refine g_iald hC dX9_findItems_105 (rfl) hi ?_
                                clear hi
                                obtain ⟨hv1, hv2⟩ := hv
                                refine g_cge hC dX9_findItems_106 (tgt := 129) (by decide) (fun hc => ?_) (fun hc => ?_)
                                · have hv := hv1 hc
                                  clear hv1 hv2 hc
                                  refine g_blk hC _ bX9_findItems_129_132 (pc' := 132) (ls' := [some (.inr (some 96)), some (.inl x1_67), some (.inl (x2_75 + 1)), some (.inl x3_99), none]) (st' := []) (I' := I_99) rfl rfl ?_
                                  refine g_goto hC dX9_findItems_132 (tgt := 75) (by decide) ?_
                                  exact g_weak (ls1 := [some (.inr (some 96)), some (.inl x1_67), some (.inl (x2_75 + 1)), none, none]) rfl (And.intro rfl (And.intro rfl (And.intro rfl trivial))) (ih75 (x2_75 + 1) I_99 A_99 hv.1 (Nat.lt_of_lt_of_le hv.2 (Nat.le_of_lt_succ hn75)))
                                · have hv := hv2 hc
                                  clear hv1 hv2 hc
                                  refine g_blk hC _ bX9_findItems_109_120 (pc' := 120) (ls' := [some (.inr (some 96)), some (.inl x1_67), some (.inl x2_75), some (.inl x3_99), none]) (st' := [.inl ((100 + (10 * x1_67)) + x2_75), .inl x3_99, .inr (some 96)]) (I' := I_99) rfl rfl ?_
                                  obtain ⟨hp9, hv⟩ := hv
                                  refine g_callV hC (hh_X9_puts I_99 A_99 x3_99 ((100 + (10 * x1_67)) + x2_75) hp9) dX9_findItems_120 nm_X9_puts rfl rfl wl_X9_103 wi_X9_puts ws_X9_puts wn_X9 wc_X9_puts ⟨by decide, by decide⟩ (as := [.inl x3_99, .inl ((100 + (10 * x1_67)) + x2_75)]) (rest := []) rfl (Nat.le_of_ble_eq_true rfl) ⟨Nat.le_refl _, Nat.le_refl _⟩ (k_qV ?_)
                                  intro I10 A10 hq10
                                  replace hv := hv I10 A10 hq10
                                  refine g_blk hC _ bX9_findItems_123_126 (pc' := 126) (ls' := [some (.inr (some 96)), some (.inl x1_67), some (.inl x2_75), some (.inl (x3_99 + 1)), none]) (st' := []) (I' := I10) rfl rfl ?_
                                  refine g_goto hC dX9_findItems_126 (tgt := 99) (by decide) ?_
                                  exact g_weak (ls1 := [some (.inr (some 96)), some (.inl x1_67), some (.inl x2_75), some (.inl (x3_99 + 1)), none]) rfl (And.intro rfl (And.intro rfl (And.intro rfl (And.intro rfl trivial)))) (ih99 (x3_99 + 1) I10 A10 hv.1 (Nat.lt_of_lt_of_le hv.2 (Nat.le_of_lt_succ hn99)))
                            exact g_weak (ls1 := [some (.inr (some 96)), some (.inl x1_67), some (.inl x2_75), some (.inl ((A_75 102 x1_67.toNatClampNeg) + 1)), none]) rfl (And.intro rfl (And.intro rfl (And.intro rfl (And.intro rfl trivial)))) (L99 _ ((A_75 102 x1_67.toNatClampNeg) + 1) I_75 A_75 hi99 (Nat.lt_succ_self _))
                    exact g_weak (ls1 := [some (.inr (some 96)), some (.inl x1_67), some (.inl 0), none, none]) rfl (And.intro rfl (And.intro rfl (And.intro rfl trivial))) (L75 _ 0 I_67 A_67 hi75 (Nat.lt_succ_self _))
              exact g_weak (ls1 := [some (.inr (some 96)), some (.inl 0), none, none, none]) rfl (And.intro rfl (And.intro rfl trivial)) (L67 _ 0 I_34 A_34 hi67 (Nat.lt_succ_self _))
            · have hv := hv2 hc
              clear hv1 hv2 hc
              refine g_blk hC _ bX9_findItems_40_42 (pc' := 42) (ls' := [some (.inr (some 96)), some (.inl x1_34), none, none, none]) (st' := [.inl x1_34, .inr (some 96)]) (I' := I_34) rfl rfl ?_
              refine g_callV hC (c_X9_isUsed l D ads I_34 A_34 x1_34) dX9_findItems_42 nm_X9_isUsed rfl rfl wl_X9_100 wi_X9_isUsed ws_X9_isUsed wn_X9 wc_X9_isUsed ⟨by decide, by decide⟩ (as := [.inl x1_34]) (rest := []) rfl (Nat.le_of_ble_eq_true rfl) ⟨Nat.le_refl _, Nat.le_refl _⟩ (k_qI ?_)
              obtain ⟨hv1, hv2⟩ := hv
              refine g_ifeq hC dX9_findItems_45 (tgt := 59) (by decide) (fun hc => ?_) (fun hc => ?_)
              · have hv := hv1 hc
                clear hv1 hv2 hc
                refine g_blk hC _ bX9_findItems_59_62 (pc' := 62) (ls' := [some (.inr (some 96)), some (.inl (x1_34 + 1)), none, none, none]) (st' := []) (I' := I_34) rfl rfl ?_
                refine g_goto hC dX9_findItems_62 (tgt := 34) (by decide) ?_
                exact g_weak (ls1 := [some (.inr (some 96)), some (.inl (x1_34 + 1)), none, none, none]) rfl (And.intro rfl (And.intro rfl trivial)) (ih34 (x1_34 + 1) I_34 A_34 hv.1 (Nat.lt_of_lt_of_le hv.2 (Nat.le_of_lt_succ hn34)))
              · have hv := hv2 hc
                clear hv1 hv2 hc
                refine g_blk hC _ bX9_findItems_48_54 (pc' := 54) (ls' := [some (.inr (some 96)), some (.inl x1_34), none, none, none]) (st' := [.inl x1_34, .inr (some 102), .inr (some 96)]) (I' := I_34) rfl rfl ?_
                obtain ⟨hi, hv⟩ := hv
                refine g_iald hC dX9_findItems_54 (rfl) hi ?_
                clear hi
                refine g_blk hC _ bX9_findItems_55_56 (pc' := 56) (ls' := [some (.inr (some 96)), some (.inl x1_34), none, none, none]) (st' := [.inl x1_34, .inl (A_34 102 x1_34.toNatClampNeg), .inr (some 96)]) (I' := I_34) rfl rfl ?_
                obtain ⟨hp12, hv⟩ := hv
                refine g_callV hC (hh_X9_puts I_34 A_34 (A_34 102 x1_34.toNatClampNeg) x1_34 hp12) dX9_findItems_56 nm_X9_puts rfl rfl wl_X9_103 wi_X9_puts ws_X9_puts wn_X9 wc_X9_puts ⟨by decide, by decide⟩ (as := [.inl (A_34 102 x1_34.toNatClampNeg), .inl x1_34]) (rest := []) rfl (Nat.le_of_ble_eq_true rfl) ⟨Nat.le_refl _, Nat.le_refl _⟩ (k_qV ?_)
                intro I13 A13 hq13
                replace hv := hv I13 A13 hq13
                refine g_blk hC _ bX9_findItems_59_62 (pc' := 62) (ls' := [some (.inr (some 96)), some (.inl (x1_34 + 1)), none, none, none]) (st' := []) (I' := I13) rfl rfl ?_
                refine g_goto hC dX9_findItems_62 (tgt := 34) (by decide) ?_
                exact g_weak (ls1 := [some (.inr (some 96)), some (.inl (x1_34 + 1)), none, none, none]) rfl (And.intro rfl (And.intro rfl trivial)) (ih34 (x1_34 + 1) I13 A13 hv.1 (Nat.lt_of_lt_of_le hv.2 (Nat.le_of_lt_succ hn34)))
        exact g_weak (ls1 := [some (.inr (some 96)), some (.inl 0), none, none, none]) rfl (And.intro rfl (And.intro rfl trivial)) (L34 _ 0 I2 A_6 hi34 (Nat.lt_succ_self _))
      · have hv := hv2 hc
        clear hv1 hv2 hc
        refine g_blk hC _ bX9_findItems_12_18 (pc' := 18) (ls' := [some (.inr (some 96)), some (.inl x1_6), none, none, none]) (st' := [.inl 0, .inl x1_6, .inr (some 104)]) (I' := I2) rfl rfl ?_
        obtain ⟨hi, hv⟩ := hv
        refine g_iast hC dX9_findItems_18 (rfl) hi ?_
        clear hi
        refine g_blk hC _ bX9_findItems_19_25 (pc' := 25) (ls' := [some (.inr (some 96)), some (.inl x1_6), none, none, none]) (st' := [.inl 0, .inl x1_6, .inr (some 106)]) (I' := I2) rfl rfl ?_
        obtain ⟨hi, hv⟩ := hv
        refine g_iast hC dX9_findItems_25 (rfl) hi ?_
        clear hi
        refine g_blk hC _ bX9_findItems_26_29 (pc' := 29) (ls' := [some (.inr (some 96)), some (.inl (x1_6 + 1)), none, none, none]) (st' := []) (I' := I2) rfl rfl ?_
        refine g_goto hC dX9_findItems_29 (tgt := 6) (by decide) ?_
        exact g_weak (ls1 := [some (.inr (some 96)), some (.inl (x1_6 + 1)), none, none, none]) rfl (And.intro rfl (And.intro rfl trivial)) (ih6 (x1_6 + 1) (up2 (up2 A_6 104 x1_6.toNatClampNeg 0) 106 x1_6.toNatClampNeg 0) hv.1 (Nat.lt_of_lt_of_le hv.2 (Nat.le_of_lt_succ hn6)))
  exact g_weak (ls1 := [some (.inr (some 96)), some (.inl 0), none, none, none]) rfl (And.intro rfl (And.intro rfl trivial)) (L6 _ 0 A2 hi6 (Nat.lt_succ_self _))
theorem bX9_makeRows_0_4 : okB cX9_makeRows RX9 0 [(5, 0, 0, 0, 0), (23, 121, 9, 22, 0)] := And.intro ⟨_, dX9_makeRows_0, rfl⟩ (And.intro ⟨dX9_makeRows_1, fl_X9_121⟩ trivial)
theorem bX9_makeRows_8_15 : okB cX9_makeRows RX9 8 [(5, 0, 0, 0, 0), (0, 0, 0, 0, 1), (25, 121, 9, 22, 0), (0, 0, 0, 0, 0), (7, 1, 0, 0, 0)] := And.intro ⟨_, dX9_makeRows_8, rfl⟩ (And.intro ⟨_, dX9_makeRows_9, by decide⟩ (And.intro ⟨dX9_makeRows_10, fl_X9_121, rfl, rfl⟩ (And.intro ⟨_, dX9_makeRows_13, by decide⟩ (And.intro ⟨_, dX9_makeRows_14, rfl⟩ trivial))))
theorem bX9_makeRows_15_17 : okB cX9_makeRows RX9 15 [(3, 1, 0, 0, 0), (0, 0, 0, 0, 5)] := And.intro ⟨_, dX9_makeRows_15, rfl⟩ (And.intro ⟨_, dX9_makeRows_16, by decide⟩ trivial)
theorem bX9_makeRows_20_22 : okB cX9_makeRows RX9 20 [(0, 0, 0, 0, 0), (7, 2, 0, 0, 0)] := And.intro ⟨_, dX9_makeRows_20, by decide⟩ (And.intro ⟨_, dX9_makeRows_21, rfl⟩ trivial)
theorem bX9_makeRows_22_25 : okB cX9_makeRows RX9 22 [(3, 2, 0, 0, 0), (5, 0, 0, 0, 0), (3, 1, 0, 0, 0)] := And.intro ⟨_, dX9_makeRows_22, rfl⟩ (And.intro ⟨_, dX9_makeRows_23, rfl⟩ (And.intro ⟨_, dX9_makeRows_24, rfl⟩ trivial))
theorem bX9_makeRows_152_155 : okB cX9_makeRows RX9 152 [(11, 1, 0, 0, 1)] := And.intro ⟨_, dX9_makeRows_152, by decide⟩ trivial
theorem bX9_makeRows_31_39 : okB cX9_makeRows RX9 31 [(3, 2, 0, 0, 0), (7, 3, 0, 0, 0), (0, 0, 0, 0, 0), (8, 4, 0, 0, 0), (0, 0, 0, 0, 0), (8, 5, 0, 0, 0)] := And.intro ⟨_, dX9_makeRows_31, rfl⟩ (And.intro ⟨_, dX9_makeRows_32, rfl⟩ (And.intro ⟨_, dX9_makeRows_33, by decide⟩ (And.intro dX9_makeRows_34 (And.intro ⟨_, dX9_makeRows_36, by decide⟩ (And.intro dX9_makeRows_37 trivial)))))
theorem bX9_makeRows_39_42 : okB cX9_makeRows RX9 39 [(4, 5, 0, 0, 0), (3, 1, 0, 0, 0)] := And.intro dX9_makeRows_39 (And.intro ⟨_, dX9_makeRows_41, rfl⟩ trivial)
theorem bX9_makeRows_146_149 : okB cX9_makeRows RX9 146 [(11, 2, 0, 0, 1)] := And.intro ⟨_, dX9_makeRows_146, by decide⟩ trivial
theorem bX9_makeRows_45_52 : okB cX9_makeRows RX9 45 [(5, 0, 0, 0, 0), (3, 1, 0, 0, 0), (0, 0, 0, 0, 1), (13, 0, 0, 0, 0), (4, 5, 0, 0, 0), (13, 0, 0, 0, 0)] := And.intro ⟨_, dX9_makeRows_45, rfl⟩ (And.intro ⟨_, dX9_makeRows_46, rfl⟩ (And.intro ⟨_, dX9_makeRows_47, by decide⟩ (And.intro dX9_makeRows_48 (And.intro dX9_makeRows_49 (And.intro dX9_makeRows_51 trivial)))))
theorem bX9_makeRows_55_60 : okB cX9_makeRows RX9 55 [(8, 6, 0, 0, 0), (3, 3, 0, 0, 0), (4, 6, 0, 0, 0)] := And.intro dX9_makeRows_55 (And.intro ⟨_, dX9_makeRows_57, rfl⟩ (And.intro dX9_makeRows_58 trivial))
theorem bX9_makeRows_61_66 : okB cX9_makeRows RX9 61 [(8, 7, 0, 0, 0), (3, 3, 0, 0, 0), (4, 6, 0, 0, 0)] := And.intro dX9_makeRows_61 (And.intro ⟨_, dX9_makeRows_63, rfl⟩ (And.intro dX9_makeRows_64 trivial))
theorem bX9_makeRows_67_71 : okB cX9_makeRows RX9 67 [(7, 3, 0, 0, 0), (0, 0, 0, 0, 0), (8, 8, 0, 0, 0)] := And.intro ⟨_, dX9_makeRows_67, rfl⟩ (And.intro ⟨_, dX9_makeRows_68, by decide⟩ (And.intro dX9_makeRows_69 trivial))
theorem bX9_makeRows_71_79 : okB cX9_makeRows RX9 71 [(4, 4, 0, 0, 0), (4, 8, 0, 0, 0), (19, 0, 0, 0, 0), (0, 0, 0, 0, 1), (15, 0, 0, 0, 0), (0, 0, 0, 0, 1)] := And.intro dX9_makeRows_71 (And.intro dX9_makeRows_73 (And.intro dX9_makeRows_75 (And.intro ⟨_, dX9_makeRows_76, by decide⟩ (And.intro dX9_makeRows_77 (And.intro ⟨_, dX9_makeRows_78, by decide⟩ trivial)))))
theorem bX9_makeRows_87_94 : okB cX9_makeRows RX9 87 [(4, 4, 0, 0, 0), (4, 8, 0, 0, 0), (19, 0, 0, 0, 0), (0, 0, 0, 0, 1), (15, 0, 0, 0, 0)] := And.intro dX9_makeRows_87 (And.intro dX9_makeRows_89 (And.intro dX9_makeRows_91 (And.intro ⟨_, dX9_makeRows_92, by decide⟩ (And.intro dX9_makeRows_93 trivial))))
theorem bX9_makeRows_103_109 : okB cX9_makeRows RX9 103 [(4, 8, 0, 0, 0), (0, 0, 0, 0, 1), (12, 0, 0, 0, 0), (8, 8, 0, 0, 0)] := And.intro dX9_makeRows_103 (And.intro ⟨_, dX9_makeRows_105, by decide⟩ (And.intro dX9_makeRows_106 (And.intro dX9_makeRows_107 trivial)))
theorem bX9_makeRows_97_109 : okB cX9_makeRows RX9 97 [(4, 7, 0, 0, 0), (0, 0, 0, 0, 1), (13, 0, 0, 0, 0), (8, 7, 0, 0, 0), (4, 8, 0, 0, 0), (0, 0, 0, 0, 1), (12, 0, 0, 0, 0), (8, 8, 0, 0, 0)] := And.intro dX9_makeRows_97 (And.intro ⟨_, dX9_makeRows_99, by decide⟩ (And.intro dX9_makeRows_100 (And.intro dX9_makeRows_101 (And.intro dX9_makeRows_103 (And.intro ⟨_, dX9_makeRows_105, by decide⟩ (And.intro dX9_makeRows_106 (And.intro dX9_makeRows_107 trivial)))))))
theorem bX9_makeRows_82_84 : okB cX9_makeRows RX9 82 [(4, 7, 0, 0, 0)] := And.intro dX9_makeRows_82 trivial
theorem bX9_makeRows_112_139 : okB cX9_makeRows RX9 112 [(4, 4, 0, 0, 0), (0, 0, 0, 0, 1), (4, 8, 0, 0, 0), (18, 0, 0, 0, 0), (16, 0, 0, 0, 0), (8, 4, 0, 0, 0), (5, 0, 0, 0, 0), (23, 53, 9, 21, 0), (2, 0, 0, 0, 600), (3, 1, 0, 0, 0), (14, 0, 0, 0, 0), (0, 0, 0, 0, 5), (3, 2, 0, 0, 0), (14, 0, 0, 0, 0), (12, 0, 0, 0, 0), (4, 8, 0, 0, 0), (12, 0, 0, 0, 0), (4, 5, 0, 0, 0)] := And.intro dX9_makeRows_112 (And.intro ⟨_, dX9_makeRows_114, by decide⟩ (And.intro dX9_makeRows_115 (And.intro dX9_makeRows_117 (And.intro dX9_makeRows_118 (And.intro dX9_makeRows_119 (And.intro ⟨_, dX9_makeRows_121, rfl⟩ (And.intro ⟨dX9_makeRows_122, fl_X9_53⟩ (And.intro ⟨_, dX9_makeRows_125, by decide⟩ (And.intro ⟨_, dX9_makeRows_128, rfl⟩ (And.intro dX9_makeRows_129 (And.intro ⟨_, dX9_makeRows_130, by decide⟩ (And.intro ⟨_, dX9_makeRows_131, rfl⟩ (And.intro dX9_makeRows_132 (And.intro dX9_makeRows_133 (And.intro dX9_makeRows_134 (And.intro dX9_makeRows_136 (And.intro dX9_makeRows_137 trivial)))))))))))))))))
theorem bX9_makeRows_140_143 : okB cX9_makeRows RX9 140 [(11, 5, 0, 0, 1)] := And.intro ⟨_, dX9_makeRows_140, by decide⟩ trivial
set_option maxHeartbeats 4000000 in
set_option maxRecDepth 100000 in
theorem k_X9_makeRows (l : Launch) (D : va_G) (ads : AD) (I A : HI) (po : Option AV → HI → HI → Prop) {pp_X9_factorial : HI → HI → Int32 → Prop} {ff_X9_factorial : HI → HI → Int32 → Int32} (hh_X9_factorial : ∀ (I A : HI) (a1 : Int32), pp_X9_factorial I A a1 → Ct l yX9_factorial cX9_factorial 4 (some .int) 0 0 D ads shp [.inr (some 96), .inl a1] I A (qI (ff_X9_factorial I A a1) I A)) (Iv15 : Int32 → HI → Prop) (mu15 : Int32 → HI → Nat) (Iv22 : Int32 → HI → Int32 → HI → Prop) (mu22 : Int32 → HI → Int32 → HI → Nat) (Iv39 : Int32 → HI → Int32 → HI → Int32 → Int32 → Int32 → HI → Prop) (mu39 : Int32 → HI → Int32 → HI → Int32 → Int32 → Int32 → HI → Nat) (Iv71 : Int32 → HI → Int32 → HI → Int32 → Int32 → Int32 → HI → Int32 → Int32 → Prop) (mu71 : Int32 → HI → Int32 → HI → Int32 → Int32 → Int32 → HI → Int32 → Int32 → Nat)
    (hv : (((I 96 22) = 0 → (Iv15 0 A ∧ ∀ (x1_15 : Int32) (A_15 : HI), Iv15 x1_15 A_15 → ((5 < x1_15 → po none (up2 I 96 22 1) A_15) ∧ (¬ 5 < x1_15 → (Iv22 x1_15 A_15 0 A_15 ∧ ∀ (x2_22 : Int32) (A_22 : HI), Iv22 x1_15 A_15 x2_22 A_22 → ((pp_X9_factorial (up2 I 96 22 1) A_22 x1_15) ∧ (((ff_X9_factorial (up2 I 96 22 1) A_22 x1_15) ≤ x2_22 → (Iv15 (x1_15 + 1) A_22 ∧ mu15 (x1_15 + 1) A_22 < mu15 x1_15 A_15)) ∧ (¬ (ff_X9_factorial (up2 I 96 22 1) A_22 x1_15) ≤ x2_22 → (Iv39 x1_15 A_15 x2_22 A_22 x2_22 0 0 A_22 ∧ ∀ (x3_39 : Int32) (x4_39 : Int32) (x5_39 : Int32) (A_39 : HI), Iv39 x1_15 A_15 x2_22 A_22 x3_39 x4_39 x5_39 A_39 → ((x1_15 ≤ x5_39 → (Iv22 x1_15 A_15 (x2_22 + 1) A_39 ∧ mu22 x1_15 A_15 (x2_22 + 1) A_39 < mu22 x1_15 A_15 x2_22 A_22)) ∧ (¬ x1_15 ≤ x5_39 → ((pp_X9_factorial (up2 I 96 22 1) A_39 ((x1_15 - 1) - x5_39)) ∧ (¬ (ff_X9_factorial (up2 I 96 22 1) A_39 ((x1_15 - 1) - x5_39)) = 0 ∧ (¬ (ff_X9_factorial (up2 I 96 22 1) A_39 ((x1_15 - 1) - x5_39)) = 0 ∧ (Iv71 x1_15 A_15 x2_22 A_22 x3_39 x4_39 x5_39 A_39 (x3_39 / (ff_X9_factorial (up2 I 96 22 1) A_39 ((x1_15 - 1) - x5_39))) 0 ∧ ∀ (x7_71 : Int32) (x8_71 : Int32), Iv71 x1_15 A_15 x2_22 A_22 x3_39 x4_39 x5_39 A_39 x7_71 x8_71 → ((((x4_39 >>> (x8_71 &&& 31)) &&& 1) = 1 → ((¬ ((x4_39 >>> (x8_71 &&& 31)) &&& 1) = 0 → (Iv71 x1_15 A_15 x2_22 A_22 x3_39 x4_39 x5_39 A_39 x7_71 (x8_71 + 1) ∧ mu71 x1_15 A_15 x2_22 A_22 x3_39 x4_39 x5_39 A_39 x7_71 (x8_71 + 1) < mu71 x1_15 A_15 x2_22 A_22 x3_39 x4_39 x5_39 A_39 x7_71 x8_71)) ∧ (((x4_39 >>> (x8_71 &&& 31)) &&& 1) = 0 → (Iv71 x1_15 A_15 x2_22 A_22 x3_39 x4_39 x5_39 A_39 (x7_71 - 1) (x8_71 + 1) ∧ mu71 x1_15 A_15 x2_22 A_22 x3_39 x4_39 x5_39 A_39 (x7_71 - 1) (x8_71 + 1) < mu71 x1_15 A_15 x2_22 A_22 x3_39 x4_39 x5_39 A_39 x7_71 x8_71)))) ∧ (¬ ((x4_39 >>> (x8_71 &&& 31)) &&& 1) = 1 → ((x7_71 ≤ 0 → (vp_in (((600 * x1_15) + (5 * x2_22)) + x8_71) 3600 ∧ (Iv39 x1_15 A_15 x2_22 A_22 (x3_39 - x3_39 / (ff_X9_factorial (up2 I 96 22 1) A_39 ((x1_15 - 1) - x5_39)) * (ff_X9_factorial (up2 I 96 22 1) A_39 ((x1_15 - 1) - x5_39))) (x4_39 ||| (1 <<< (x8_71 &&& 31))) (x5_39 + 1) (up2 A_39 110 (((600 * x1_15) + (5 * x2_22)) + x8_71).toNatClampNeg x5_39) ∧ mu39 x1_15 A_15 x2_22 A_22 (x3_39 - x3_39 / (ff_X9_factorial (up2 I 96 22 1) A_39 ((x1_15 - 1) - x5_39)) * (ff_X9_factorial (up2 I 96 22 1) A_39 ((x1_15 - 1) - x5_39))) (x4_39 ||| (1 <<< (x8_71 &&& 31))) (x5_39 + 1) (up2 A_39 110 (((600 * x1_15) + (5 * x2_22)) + x8_71).toNatClampNeg x5_39) < mu39 x1_15 A_15 x2_22 A_22 x3_39 x4_39 x5_39 A_39))) ∧ (¬ x7_71 ≤ 0 → ((¬ ((x4_39 >>> (x8_71 &&& 31)) &&& 1) = 0 → (Iv71 x1_15 A_15 x2_22 A_22 x3_39 x4_39 x5_39 A_39 x7_71 (x8_71 + 1) ∧ mu71 x1_15 A_15 x2_22 A_22 x3_39 x4_39 x5_39 A_39 x7_71 (x8_71 + 1) < mu71 x1_15 A_15 x2_22 A_22 x3_39 x4_39 x5_39 A_39 x7_71 x8_71)) ∧ (((x4_39 >>> (x8_71 &&& 31)) &&& 1) = 0 → (Iv71 x1_15 A_15 x2_22 A_22 x3_39 x4_39 x5_39 A_39 (x7_71 - 1) (x8_71 + 1) ∧ mu71 x1_15 A_15 x2_22 A_22 x3_39 x4_39 x5_39 A_39 (x7_71 - 1) (x8_71 + 1) < mu71 x1_15 A_15 x2_22 A_22 x3_39 x4_39 x5_39 A_39 x7_71 x8_71)))))))))))))))))))))) ∧ (¬ (I 96 22) = 0 → po none I A))) : Ct l yX9_makeRows cX9_makeRows 9 none 1 23 D ads shp [.inr (some 96)] I A po := by
  refine Ct_of (by decide) (Nat.le_of_ble_eq_true rfl) ?_
  intro p e s m args below meth c hC hr
  replace hC : CX p s m args meth c cX9_makeRows 9 RX9 (AdS ads s.heap.size) := hC
  show Gm p l e s m args below meth c D ads 1 23 9 po I A 0 [some (.inr (some 96)), none, none, none, none, none, none, none, none] []
  refine g_blk hC _ bX9_makeRows_0_4 (pc' := 4) (ls' := [some (.inr (some 96)), none, none, none, none, none, none, none, none]) (st' := [.inl (I 96 22)]) (I' := I) rfl rfl ?_
  obtain ⟨hv1, hv2⟩ := hv
  refine g_ifeq hC dX9_makeRows_4 (tgt := 8) (by decide) (fun hc => ?_) (fun hc => ?_)
  · have hv := hv1 hc
    clear hv1 hv2 hc
    refine g_blk hC _ bX9_makeRows_8_15 (pc' := 15) (ls' := [some (.inr (some 96)), some (.inl 0), none, none, none, none, none, none, none]) (st' := []) (I' := up2 I 96 22 1) rfl rfl ?_
    obtain ⟨hi15, hb15⟩ := hv
    have L15 : ∀ (n : Nat) (x1_15 : Int32) (A_15 : HI), Iv15 x1_15 A_15 → mu15 x1_15 A_15 < n → Gm p l e s m args below meth c D ads 1 23 9 po (up2 I 96 22 1) A_15 15 [some (.inr (some 96)), some (.inl x1_15), none, none, none, none, none, none, none] [] := by
      intro n
      induction n with
      | zero => intro x1_15 A_15 _ hn; exact absurd hn (Nat.not_lt_zero _)
      | succ n ih15 =>
        intro x1_15 A_15 hv hn15
        replace hv := hb15 x1_15 A_15 hv
        skip
        refine g_blk hC _ bX9_makeRows_15_17 (pc' := 17) (ls' := [some (.inr (some 96)), some (.inl x1_15), none, none, none, none, none, none, none]) (st' := [.inl 5, .inl x1_15]) (I' := up2 I 96 22 1) rfl rfl ?_
        obtain ⟨hv1, hv2⟩ := hv
        refine g_cgt hC dX9_makeRows_17 (tgt := 158) (by decide) (fun hc => ?_) (fun hc => ?_)
        · have hv := hv1 hc
          clear hv1 hv2 hc
          exact g_retv hC hr dX9_makeRows_158 hv
        · have hv := hv2 hc
          clear hv1 hv2 hc
          refine g_blk hC _ bX9_makeRows_20_22 (pc' := 22) (ls' := [some (.inr (some 96)), some (.inl x1_15), some (.inl 0), none, none, none, none, none, none]) (st' := []) (I' := up2 I 96 22 1) rfl rfl ?_
          obtain ⟨hi22, hb22⟩ := hv
          have L22 : ∀ (n : Nat) (x2_22 : Int32) (A_22 : HI), Iv22 x1_15 A_15 x2_22 A_22 → mu22 x1_15 A_15 x2_22 A_22 < n → Gm p l e s m args below meth c D ads 1 23 9 po (up2 I 96 22 1) A_22 22 [some (.inr (some 96)), some (.inl x1_15), some (.inl x2_22), none, none, none, none, none, none] [] := by
            intro n
            induction n with
            | zero => intro x2_22 A_22 _ hn; exact absurd hn (Nat.not_lt_zero _)
            | succ n ih22 =>
              intro x2_22 A_22 hv hn22
              replace hv := hb22 x2_22 A_22 hv
              skip
              refine g_blk hC _ bX9_makeRows_22_25 (pc' := 25) (ls' := [some (.inr (some 96)), some (.inl x1_15), some (.inl x2_22), none, none, none, none, none, none]) (st' := [.inl x1_15, .inr (some 96), .inl x2_22]) (I' := up2 I 96 22 1) rfl rfl ?_
              obtain ⟨hp1, hv⟩ := hv
              refine g_callV hC (hh_X9_factorial (up2 I 96 22 1) A_22 x1_15 hp1) dX9_makeRows_25 nm_X9_factorial rfl rfl wl_X9_124 wi_X9_factorial ws_X9_factorial wn_X9 wc_X9_factorial ⟨by decide, by decide⟩ (as := [.inl x1_15]) (rest := [.inl x2_22]) rfl (Nat.le_of_ble_eq_true rfl) ⟨Nat.le_refl _, Nat.le_refl _⟩ (k_qI ?_)
              obtain ⟨hv1, hv2⟩ := hv
              refine g_cge hC dX9_makeRows_28 (tgt := 152) (by decide) (fun hc => ?_) (fun hc => ?_)
              · have hv := hv1 hc
                clear hv1 hv2 hc
                refine g_blk hC _ bX9_makeRows_152_155 (pc' := 155) (ls' := [some (.inr (some 96)), some (.inl (x1_15 + 1)), some (.inl x2_22), none, none, none, none, none, none]) (st' := []) (I' := up2 I 96 22 1) rfl rfl ?_
                refine g_goto hC dX9_makeRows_155 (tgt := 15) (by decide) ?_
                exact g_weak (ls1 := [some (.inr (some 96)), some (.inl (x1_15 + 1)), none, none, none, none, none, none, none]) rfl (And.intro rfl (And.intro rfl trivial)) (ih15 (x1_15 + 1) A_22 hv.1 (Nat.lt_of_lt_of_le hv.2 (Nat.le_of_lt_succ hn15)))
              · have hv := hv2 hc
                clear hv1 hv2 hc
                refine g_blk hC _ bX9_makeRows_31_39 (pc' := 39) (ls' := [some (.inr (some 96)), some (.inl x1_15), some (.inl x2_22), some (.inl x2_22), some (.inl 0), some (.inl 0), none, none, none]) (st' := []) (I' := up2 I 96 22 1) rfl rfl ?_
                obtain ⟨hi39, hb39⟩ := hv
                have L39 : ∀ (n : Nat) (x3_39 : Int32) (x4_39 : Int32) (x5_39 : Int32) (A_39 : HI), Iv39 x1_15 A_15 x2_22 A_22 x3_39 x4_39 x5_39 A_39 → mu39 x1_15 A_15 x2_22 A_22 x3_39 x4_39 x5_39 A_39 < n → Gm p l e s m args below meth c D ads 1 23 9 po (up2 I 96 22 1) A_39 39 [some (.inr (some 96)), some (.inl x1_15), some (.inl x2_22), some (.inl x3_39), some (.inl x4_39), some (.inl x5_39), none, none, none] [] := by
                  intro n
                  induction n with
                  | zero => intro x3_39 x4_39 x5_39 A_39 _ hn; exact absurd hn (Nat.not_lt_zero _)
                  | succ n ih39 =>
                    intro x3_39 x4_39 x5_39 A_39 hv hn39
                    replace hv := hb39 x3_39 x4_39 x5_39 A_39 hv
                    skip
                    refine g_blk hC _ bX9_makeRows_39_42 (pc' := 42) (ls' := [some (.inr (some 96)), some (.inl x1_15), some (.inl x2_22), some (.inl x3_39), some (.inl x4_39), some (.inl x5_39), none, none, none]) (st' := [.inl x1_15, .inl x5_39]) (I' := up2 I 96 22 1) rfl rfl ?_
                    obtain ⟨hv1, hv2⟩ := hv
                    refine g_cge hC dX9_makeRows_42 (tgt := 146) (by decide) (fun hc => ?_) (fun hc => ?_)
                    · have hv := hv1 hc
                      clear hv1 hv2 hc
                      refine g_blk hC _ bX9_makeRows_146_149 (pc' := 149) (ls' := [some (.inr (some 96)), some (.inl x1_15), some (.inl (x2_22 + 1)), some (.inl x3_39), some (.inl x4_39), some (.inl x5_39), none, none, none]) (st' := []) (I' := up2 I 96 22 1) rfl rfl ?_
                      refine g_goto hC dX9_makeRows_149 (tgt := 22) (by decide) ?_
                      exact g_weak (ls1 := [some (.inr (some 96)), some (.inl x1_15), some (.inl (x2_22 + 1)), none, none, none, none, none, none]) rfl (And.intro rfl (And.intro rfl (And.intro rfl trivial))) (ih22 (x2_22 + 1) A_39 hv.1 (Nat.lt_of_lt_of_le hv.2 (Nat.le_of_lt_succ hn22)))
                    · have hv := hv2 hc
                      clear hv1 hv2 hc
                      refine g_blk hC _ bX9_makeRows_45_52 (pc' := 52) (ls' := [some (.inr (some 96)), some (.inl x1_15), some (.inl x2_22), some (.inl x3_39), some (.inl x4_39), some (.inl x5_39), none, none, none]) (st' := [.inl ((x1_15 - 1) - x5_39), .inr (some 96)]) (I' := up2 I 96 22 1) rfl rfl ?_
                      obtain ⟨hp2, hv⟩ := hv
                      refine g_callV hC (hh_X9_factorial (up2 I 96 22 1) A_39 ((x1_15 - 1) - x5_39) hp2) dX9_makeRows_52 nm_X9_factorial rfl rfl wl_X9_124 wi_X9_factorial ws_X9_factorial wn_X9 wc_X9_factorial ⟨by decide, by decide⟩ (as := [.inl ((x1_15 - 1) - x5_39)]) (rest := []) rfl (Nat.le_of_ble_eq_true rfl) ⟨Nat.le_refl _, Nat.le_refl _⟩ (k_qI ?_)
                      refine g_blk hC _ bX9_makeRows_55_60 (pc' := 60) (ls' := [some (.inr (some 96)), some (.inl x1_15), some (.inl x2_22), some (.inl x3_39), some (.inl x4_39), some (.inl x5_39), some (.inl (ff_X9_factorial (up2 I 96 22 1) A_39 ((x1_15 - 1) - x5_39))), none, none]) (st' := [.inl (ff_X9_factorial (up2 I 96 22 1) A_39 ((x1_15 - 1) - x5_39)), .inl x3_39]) (I' := up2 I 96 22 1) rfl rfl ?_
                      obtain ⟨hy, hv⟩ := hv
                      refine g_idiv hC dX9_makeRows_60 hy ?_
                      refine g_blk hC _ bX9_makeRows_61_66 (pc' := 66) (ls' := [some (.inr (some 96)), some (.inl x1_15), some (.inl x2_22), some (.inl x3_39), some (.inl x4_39), some (.inl x5_39), some (.inl (ff_X9_factorial (up2 I 96 22 1) A_39 ((x1_15 - 1) - x5_39))), some (.inl (x3_39 / (ff_X9_factorial (up2 I 96 22 1) A_39 ((x1_15 - 1) - x5_39)))), none]) (st' := [.inl (ff_X9_factorial (up2 I 96 22 1) A_39 ((x1_15 - 1) - x5_39)), .inl x3_39]) (I' := up2 I 96 22 1) rfl rfl ?_
                      obtain ⟨hy, hv⟩ := hv
                      refine g_irem hC dX9_makeRows_66 hy ?_
                      refine g_blk hC _ bX9_makeRows_67_71 (pc' := 71) (ls' := [some (.inr (some 96)), some (.inl x1_15), some (.inl x2_22), some (.inl (x3_39 - x3_39 / (ff_X9_factorial (up2 I 96 22 1) A_39 ((x1_15 - 1) - x5_39)) * (ff_X9_factorial (up2 I 96 22 1) A_39 ((x1_15 - 1) - x5_39)))), some (.inl x4_39), some (.inl x5_39), some (.inl (ff_X9_factorial (up2 I 96 22 1) A_39 ((x1_15 - 1) - x5_39))), some (.inl (x3_39 / (ff_X9_factorial (up2 I 96 22 1) A_39 ((x1_15 - 1) - x5_39)))), some (.inl 0)]) (st' := []) (I' := up2 I 96 22 1) rfl rfl ?_
                      obtain ⟨hi71, hb71⟩ := hv
                      have L71 : ∀ (n : Nat) (x7_71 : Int32) (x8_71 : Int32), Iv71 x1_15 A_15 x2_22 A_22 x3_39 x4_39 x5_39 A_39 x7_71 x8_71 → mu71 x1_15 A_15 x2_22 A_22 x3_39 x4_39 x5_39 A_39 x7_71 x8_71 < n → Gm p l e s m args below meth c D ads 1 23 9 po (up2 I 96 22 1) A_39 71 [some (.inr (some 96)), some (.inl x1_15), some (.inl x2_22), some (.inl (x3_39 - x3_39 / (ff_X9_factorial (up2 I 96 22 1) A_39 ((x1_15 - 1) - x5_39)) * (ff_X9_factorial (up2 I 96 22 1) A_39 ((x1_15 - 1) - x5_39)))), some (.inl x4_39), some (.inl x5_39), none, some (.inl x7_71), some (.inl x8_71)] [] := by
                        intro n
                        induction n with
                        | zero => intro x7_71 x8_71 _ hn; exact absurd hn (Nat.not_lt_zero _)
                        | succ n ih71 =>
                          intro x7_71 x8_71 hv hn71
                          replace hv := hb71 x7_71 x8_71 hv
                          skip
                          refine g_blk hC _ bX9_makeRows_71_79 (pc' := 79) (ls' := [some (.inr (some 96)), some (.inl x1_15), some (.inl x2_22), some (.inl (x3_39 - x3_39 / (ff_X9_factorial (up2 I 96 22 1) A_39 ((x1_15 - 1) - x5_39)) * (ff_X9_factorial (up2 I 96 22 1) A_39 ((x1_15 - 1) - x5_39)))), some (.inl x4_39), some (.inl x5_39), none, some (.inl x7_71), some (.inl x8_71)]) (st' := [.inl 1, .inl ((x4_39 >>> (x8_71 &&& 31)) &&& 1)]) (I' := up2 I 96 22 1) rfl rfl ?_
                          obtain ⟨hv1, hv2⟩ := hv
                          refine g_ceq hC dX9_makeRows_79 (tgt := 87) (by decide) (fun hc => ?_) (fun hc => ?_)
                          · have hv := hv1 hc
                            clear hv1 hv2 hc
                            refine g_blk hC _ bX9_makeRows_87_94 (pc' := 94) (ls' := [some (.inr (some 96)), some (.inl x1_15), some (.inl x2_22), some (.inl (x3_39 - x3_39 / (ff_X9_factorial (up2 I 96 22 1) A_39 ((x1_15 - 1) - x5_39)) * (ff_X9_factorial (up2 I 96 22 1) A_39 ((x1_15 - 1) - x5_39)))), some (.inl x4_39), some (.inl x5_39), none, some (.inl x7_71), some (.inl x8_71)]) (st' := [.inl ((x4_39 >>> (x8_71 &&& 31)) &&& 1)]) (I' := up2 I 96 22 1) rfl rfl ?_
                            obtain ⟨hv1, hv2⟩ := hv
                            refine g_ifne hC dX9_makeRows_94 (tgt := 103) (by decide) (fun hc => ?_) (fun hc => ?_)
                            · have hv := hv1 hc
                              clear hv1 hv2 hc
                              refine g_blk hC _ bX9_makeRows_103_109 (pc' := 109) (ls' := [some (.inr (some 96)), some (.inl x1_15), some (.inl x2_22), some (.inl (x3_39 - x3_39 / (ff_X9_factorial (up2 I 96 22 1) A_39 ((x1_15 - 1) - x5_39)) * (ff_X9_factorial (up2 I 96 22 1) A_39 ((x1_15 - 1) - x5_39)))), some (.inl x4_39), some (.inl x5_39), none, some (.inl x7_71), some (.inl (x8_71 + 1))]) (st' := []) (I' := up2 I 96 22 1) rfl rfl ?_
                              refine g_goto hC dX9_makeRows_109 (tgt := 71) (by decide) ?_
                              exact g_weak (ls1 := [some (.inr (some 96)), some (.inl x1_15), some (.inl x2_22), some (.inl (x3_39 - x3_39 / (ff_X9_factorial (up2 I 96 22 1) A_39 ((x1_15 - 1) - x5_39)) * (ff_X9_factorial (up2 I 96 22 1) A_39 ((x1_15 - 1) - x5_39)))), some (.inl x4_39), some (.inl x5_39), none, some (.inl x7_71), some (.inl (x8_71 + 1))]) rfl (And.intro rfl (And.intro rfl (And.intro rfl (And.intro rfl (And.intro rfl (And.intro rfl (And.intro rfl (And.intro rfl trivial)))))))) (ih71 x7_71 (x8_71 + 1) hv.1 (Nat.lt_of_lt_of_le hv.2 (Nat.le_of_lt_succ hn71)))
                            · have hv := hv2 hc
                              clear hv1 hv2 hc
                              refine g_blk hC _ bX9_makeRows_97_109 (pc' := 109) (ls' := [some (.inr (some 96)), some (.inl x1_15), some (.inl x2_22), some (.inl (x3_39 - x3_39 / (ff_X9_factorial (up2 I 96 22 1) A_39 ((x1_15 - 1) - x5_39)) * (ff_X9_factorial (up2 I 96 22 1) A_39 ((x1_15 - 1) - x5_39)))), some (.inl x4_39), some (.inl x5_39), none, some (.inl (x7_71 - 1)), some (.inl (x8_71 + 1))]) (st' := []) (I' := up2 I 96 22 1) rfl rfl ?_
                              refine g_goto hC dX9_makeRows_109 (tgt := 71) (by decide) ?_
                              exact g_weak (ls1 := [some (.inr (some 96)), some (.inl x1_15), some (.inl x2_22), some (.inl (x3_39 - x3_39 / (ff_X9_factorial (up2 I 96 22 1) A_39 ((x1_15 - 1) - x5_39)) * (ff_X9_factorial (up2 I 96 22 1) A_39 ((x1_15 - 1) - x5_39)))), some (.inl x4_39), some (.inl x5_39), none, some (.inl (x7_71 - 1)), some (.inl (x8_71 + 1))]) rfl (And.intro rfl (And.intro rfl (And.intro rfl (And.intro rfl (And.intro rfl (And.intro rfl (And.intro rfl (And.intro rfl trivial)))))))) (ih71 (x7_71 - 1) (x8_71 + 1) hv.1 (Nat.lt_of_lt_of_le hv.2 (Nat.le_of_lt_succ hn71)))
                          · have hv := hv2 hc
                            clear hv1 hv2 hc
                            refine g_blk hC _ bX9_makeRows_82_84 (pc' := 84) (ls' := [some (.inr (some 96)), some (.inl x1_15), some (.inl x2_22), some (.inl (x3_39 - x3_39 / (ff_X9_factorial (up2 I 96 22 1) A_39 ((x1_15 - 1) - x5_39)) * (ff_X9_factorial (up2 I 96 22 1) A_39 ((x1_15 - 1) - x5_39)))), some (.inl x4_39), some (.inl x5_39), none, some (.inl x7_71), some (.inl x8_71)]) (st' := [.inl x7_71]) (I' := up2 I 96 22 1) rfl rfl ?_
                            obtain ⟨hv1, hv2⟩ := hv
                            refine g_ifle hC dX9_makeRows_84 (tgt := 112) (by decide) (fun hc => ?_) (fun hc => ?_)
                            · have hv := hv1 hc
                              clear hv1 hv2 hc
                              refine g_blk hC _ bX9_makeRows_112_139 (pc' := 139) (ls' := [some (.inr (some 96)), some (.inl x1_15), some (.inl x2_22), some (.inl (x3_39 - x3_39 / (ff_X9_factorial (up2 I 96 22 1) A_39 ((x1_15 - 1) - x5_39)) * (ff_X9_factorial (up2 I 96 22 1) A_39 ((x1_15 - 1) - x5_39)))), some (.inl (x4_39 ||| (1 <<< (x8_71 &&& 31)))), some (.inl x5_39), none, some (.inl x7_71), some (.inl x8_71)]) (st' := [.inl x5_39, .inl (((600 * x1_15) + (5 * x2_22)) + x8_71), .inr (some 110)]) (I' := up2 I 96 22 1) rfl rfl ?_
                              obtain ⟨hi, hv⟩ := hv
                              refine g_iast hC dX9_makeRows_139 (rfl) hi ?_
                              clear hi
                              refine g_blk hC _ bX9_makeRows_140_143 (pc' := 143) (ls' := [some (.inr (some 96)), some (.inl x1_15), some (.inl x2_22), some (.inl (x3_39 - x3_39 / (ff_X9_factorial (up2 I 96 22 1) A_39 ((x1_15 - 1) - x5_39)) * (ff_X9_factorial (up2 I 96 22 1) A_39 ((x1_15 - 1) - x5_39)))), some (.inl (x4_39 ||| (1 <<< (x8_71 &&& 31)))), some (.inl (x5_39 + 1)), none, some (.inl x7_71), some (.inl x8_71)]) (st' := []) (I' := up2 I 96 22 1) rfl rfl ?_
                              refine g_goto hC dX9_makeRows_143 (tgt := 39) (by decide) ?_
                              exact g_weak (ls1 := [some (.inr (some 96)), some (.inl x1_15), some (.inl x2_22), some (.inl (x3_39 - x3_39 / (ff_X9_factorial (up2 I 96 22 1) A_39 ((x1_15 - 1) - x5_39)) * (ff_X9_factorial (up2 I 96 22 1) A_39 ((x1_15 - 1) - x5_39)))), some (.inl (x4_39 ||| (1 <<< (x8_71 &&& 31)))), some (.inl (x5_39 + 1)), none, none, none]) rfl (And.intro rfl (And.intro rfl (And.intro rfl (And.intro rfl (And.intro rfl (And.intro rfl trivial)))))) (ih39 (x3_39 - x3_39 / (ff_X9_factorial (up2 I 96 22 1) A_39 ((x1_15 - 1) - x5_39)) * (ff_X9_factorial (up2 I 96 22 1) A_39 ((x1_15 - 1) - x5_39))) (x4_39 ||| (1 <<< (x8_71 &&& 31))) (x5_39 + 1) (up2 A_39 110 (((600 * x1_15) + (5 * x2_22)) + x8_71).toNatClampNeg x5_39) hv.1 (Nat.lt_of_lt_of_le hv.2 (Nat.le_of_lt_succ hn39)))
                            · have hv := hv2 hc
                              clear hv1 hv2 hc
                              refine g_blk hC _ bX9_makeRows_87_94 (pc' := 94) (ls' := [some (.inr (some 96)), some (.inl x1_15), some (.inl x2_22), some (.inl (x3_39 - x3_39 / (ff_X9_factorial (up2 I 96 22 1) A_39 ((x1_15 - 1) - x5_39)) * (ff_X9_factorial (up2 I 96 22 1) A_39 ((x1_15 - 1) - x5_39)))), some (.inl x4_39), some (.inl x5_39), none, some (.inl x7_71), some (.inl x8_71)]) (st' := [.inl ((x4_39 >>> (x8_71 &&& 31)) &&& 1)]) (I' := up2 I 96 22 1) rfl rfl ?_
                              obtain ⟨hv1, hv2⟩ := hv
                              refine g_ifne hC dX9_makeRows_94 (tgt := 103) (by decide) (fun hc => ?_) (fun hc => ?_)
                              · have hv := hv1 hc
                                clear hv1 hv2 hc
                                refine g_blk hC _ bX9_makeRows_103_109 (pc' := 109) (ls' := [some (.inr (some 96)), some (.inl x1_15), some (.inl x2_22), some (.inl (x3_39 - x3_39 / (ff_X9_factorial (up2 I 96 22 1) A_39 ((x1_15 - 1) - x5_39)) * (ff_X9_factorial (up2 I 96 22 1) A_39 ((x1_15 - 1) - x5_39)))), some (.inl x4_39), some (.inl x5_39), none, some (.inl x7_71), some (.inl (x8_71 + 1))]) (st' := []) (I' := up2 I 96 22 1) rfl rfl ?_
                                refine g_goto hC dX9_makeRows_109 (tgt := 71) (by decide) ?_
                                exact g_weak (ls1 := [some (.inr (some 96)), some (.inl x1_15), some (.inl x2_22), some (.inl (x3_39 - x3_39 / (ff_X9_factorial (up2 I 96 22 1) A_39 ((x1_15 - 1) - x5_39)) * (ff_X9_factorial (up2 I 96 22 1) A_39 ((x1_15 - 1) - x5_39)))), some (.inl x4_39), some (.inl x5_39), none, some (.inl x7_71), some (.inl (x8_71 + 1))]) rfl (And.intro rfl (And.intro rfl (And.intro rfl (And.intro rfl (And.intro rfl (And.intro rfl (And.intro rfl (And.intro rfl trivial)))))))) (ih71 x7_71 (x8_71 + 1) hv.1 (Nat.lt_of_lt_of_le hv.2 (Nat.le_of_lt_succ hn71)))
                              · have hv := hv2 hc
                                clear hv1 hv2 hc
                                refine g_blk hC _ bX9_makeRows_97_109 (pc' := 109) (ls' := [some (.inr (some 96)), some (.inl x1_15), some (.inl x2_22), some (.inl (x3_39 - x3_39 / (ff_X9_factorial (up2 I 96 22 1) A_39 ((x1_15 - 1) - x5_39)) * (ff_X9_factorial (up2 I 96 22 1) A_39 ((x1_15 - 1) - x5_39)))), some (.inl x4_39), some (.inl x5_39), none, some (.inl (x7_71 - 1)), some (.inl (x8_71 + 1))]) (st' := []) (I' := up2 I 96 22 1) rfl rfl ?_
                                refine g_goto hC dX9_makeRows_109 (tgt := 71) (by decide) ?_
                                exact g_weak (ls1 := [some (.inr (some 96)), some (.inl x1_15), some (.inl x2_22), some (.inl (x3_39 - x3_39 / (ff_X9_factorial (up2 I 96 22 1) A_39 ((x1_15 - 1) - x5_39)) * (ff_X9_factorial (up2 I 96 22 1) A_39 ((x1_15 - 1) - x5_39)))), some (.inl x4_39), some (.inl x5_39), none, some (.inl (x7_71 - 1)), some (.inl (x8_71 + 1))]) rfl (And.intro rfl (And.intro rfl (And.intro rfl (And.intro rfl (And.intro rfl (And.intro rfl (And.intro rfl (And.intro rfl trivial)))))))) (ih71 (x7_71 - 1) (x8_71 + 1) hv.1 (Nat.lt_of_lt_of_le hv.2 (Nat.le_of_lt_succ hn71)))
                      exact g_weak (ls1 := [some (.inr (some 96)), some (.inl x1_15), some (.inl x2_22), some (.inl (x3_39 - x3_39 / (ff_X9_factorial (up2 I 96 22 1) A_39 ((x1_15 - 1) - x5_39)) * (ff_X9_factorial (up2 I 96 22 1) A_39 ((x1_15 - 1) - x5_39)))), some (.inl x4_39), some (.inl x5_39), none, some (.inl (x3_39 / (ff_X9_factorial (up2 I 96 22 1) A_39 ((x1_15 - 1) - x5_39)))), some (.inl 0)]) rfl (And.intro rfl (And.intro rfl (And.intro rfl (And.intro rfl (And.intro rfl (And.intro rfl (And.intro rfl (And.intro rfl trivial)))))))) (L71 _ (x3_39 / (ff_X9_factorial (up2 I 96 22 1) A_39 ((x1_15 - 1) - x5_39))) 0 hi71 (Nat.lt_succ_self _))
                exact g_weak (ls1 := [some (.inr (some 96)), some (.inl x1_15), some (.inl x2_22), some (.inl x2_22), some (.inl 0), some (.inl 0), none, none, none]) rfl (And.intro rfl (And.intro rfl (And.intro rfl (And.intro rfl (And.intro rfl (And.intro rfl trivial)))))) (L39 _ x2_22 0 0 A_22 hi39 (Nat.lt_succ_self _))
          exact g_weak (ls1 := [some (.inr (some 96)), some (.inl x1_15), some (.inl 0), none, none, none, none, none, none]) rfl (And.intro rfl (And.intro rfl (And.intro rfl trivial))) (L22 _ 0 A_15 hi22 (Nat.lt_succ_self _))
    exact g_weak (ls1 := [some (.inr (some 96)), some (.inl 0), none, none, none, none, none, none, none]) rfl (And.intro rfl (And.intro rfl trivial)) (L15 _ 0 A hi15 (Nat.lt_succ_self _))
  · have hv := hv2 hc
    clear hv1 hv2 hc
    exact g_retv hC hr dX9_makeRows_7 hv
theorem bX9_crosses_0_14 : okB cX9_crosses RX9 0 [(0, 0, 0, 0, 0), (8, 4, 0, 0, 0), (5, 0, 0, 0, 0), (0, 0, 0, 0, 0), (24, 128, 9, 23, 0), (1, 0, 0, 0, 16), (3, 1, 0, 0, 0), (14, 0, 0, 0, 0), (8, 5, 0, 0, 0)] := And.intro ⟨_, dX9_crosses_0, by decide⟩ (And.intro dX9_crosses_1 (And.intro ⟨_, dX9_crosses_3, rfl⟩ (And.intro ⟨_, dX9_crosses_4, by decide⟩ (And.intro ⟨dX9_crosses_5, fl_X9_128, rfl, rfl⟩ (And.intro ⟨_, dX9_crosses_8, by decide⟩ (And.intro ⟨_, dX9_crosses_10, rfl⟩ (And.intro dX9_crosses_11 (And.intro dX9_crosses_12 trivial))))))))
theorem bX9_crosses_14_25 : okB cX9_crosses RX9 14 [(4, 5, 0, 0, 0), (1, 0, 0, 0, 16), (3, 1, 0, 0, 0), (14, 0, 0, 0, 0), (5, 0, 0, 0, 0), (23, 41, 9, 17, 0), (3, 1, 0, 0, 0)] := And.intro dX9_crosses_14 (And.intro ⟨_, dX9_crosses_16, by decide⟩ (And.intro ⟨_, dX9_crosses_18, rfl⟩ (And.intro dX9_crosses_19 (And.intro ⟨_, dX9_crosses_20, rfl⟩ (And.intro ⟨dX9_crosses_21, fl_X9_41⟩ (And.intro ⟨_, dX9_crosses_24, rfl⟩ trivial))))))
theorem bX9_crosses_26_27 : okB cX9_crosses RX9 26 [(12, 0, 0, 0, 0)] := And.intro dX9_crosses_26 trivial
theorem bX9_crosses_171_173 : okB cX9_crosses RX9 171 [(4, 4, 0, 0, 0)] := And.intro dX9_crosses_171 trivial
theorem bX9_crosses_30_36 : okB cX9_crosses RX9 30 [(1, 0, 0, 0, 16), (3, 1, 0, 0, 0), (14, 0, 0, 0, 0), (8, 6, 0, 0, 0)] := And.intro ⟨_, dX9_crosses_30, by decide⟩ (And.intro ⟨_, dX9_crosses_32, rfl⟩ (And.intro dX9_crosses_33 (And.intro dX9_crosses_34 trivial)))
theorem bX9_crosses_36_47 : okB cX9_crosses RX9 36 [(4, 6, 0, 0, 0), (1, 0, 0, 0, 16), (3, 1, 0, 0, 0), (14, 0, 0, 0, 0), (5, 0, 0, 0, 0), (23, 41, 9, 17, 0), (3, 1, 0, 0, 0)] := And.intro dX9_crosses_36 (And.intro ⟨_, dX9_crosses_38, by decide⟩ (And.intro ⟨_, dX9_crosses_40, rfl⟩ (And.intro dX9_crosses_41 (And.intro ⟨_, dX9_crosses_42, rfl⟩ (And.intro ⟨dX9_crosses_43, fl_X9_41⟩ (And.intro ⟨_, dX9_crosses_46, rfl⟩ trivial))))))
theorem bX9_crosses_48_49 : okB cX9_crosses RX9 48 [(12, 0, 0, 0, 0)] := And.intro dX9_crosses_48 trivial
theorem bX9_crosses_165_168 : okB cX9_crosses RX9 165 [(11, 5, 0, 0, 1)] := And.intro ⟨_, dX9_crosses_165, by decide⟩ trivial
theorem bX9_crosses_52_61 : okB cX9_crosses RX9 52 [(5, 0, 0, 0, 0), (3, 1, 0, 0, 0), (3, 2, 0, 0, 0), (5, 0, 0, 0, 0), (23, 44, 9, 18, 0), (4, 5, 0, 0, 0)] := And.intro ⟨_, dX9_crosses_52, rfl⟩ (And.intro ⟨_, dX9_crosses_53, rfl⟩ (And.intro ⟨_, dX9_crosses_54, rfl⟩ (And.intro ⟨_, dX9_crosses_55, rfl⟩ (And.intro ⟨dX9_crosses_56, fl_X9_44⟩ (And.intro dX9_crosses_59 trivial)))))
theorem bX9_crosses_65_74 : okB cX9_crosses RX9 65 [(5, 0, 0, 0, 0), (3, 1, 0, 0, 0), (3, 2, 0, 0, 0), (5, 0, 0, 0, 0), (23, 44, 9, 18, 0), (4, 6, 0, 0, 0)] := And.intro ⟨_, dX9_crosses_65, rfl⟩ (And.intro ⟨_, dX9_crosses_66, rfl⟩ (And.intro ⟨_, dX9_crosses_67, rfl⟩ (And.intro ⟨_, dX9_crosses_68, rfl⟩ (And.intro ⟨dX9_crosses_69, fl_X9_44⟩ (And.intro dX9_crosses_72 trivial)))))
theorem bX9_crosses_118_123 : okB cX9_crosses RX9 118 [(0, 0, 0, 0, 0), (8, 7, 0, 0, 0), (4, 7, 0, 0, 0)] := And.intro ⟨_, dX9_crosses_118, by decide⟩ (And.intro dX9_crosses_119 (And.intro dX9_crosses_121 trivial))
theorem bX9_crosses_159_162 : okB cX9_crosses RX9 159 [(11, 6, 0, 0, 1)] := And.intro ⟨_, dX9_crosses_159, by decide⟩ trivial
theorem bX9_crosses_81_92 : okB cX9_crosses RX9 81 [(5, 0, 0, 0, 0), (3, 1, 0, 0, 0), (0, 0, 0, 0, 1), (12, 0, 0, 0, 0), (3, 3, 0, 0, 0), (5, 0, 0, 0, 0), (23, 47, 9, 19, 0), (4, 5, 0, 0, 0)] := And.intro ⟨_, dX9_crosses_81, rfl⟩ (And.intro ⟨_, dX9_crosses_82, rfl⟩ (And.intro ⟨_, dX9_crosses_83, by decide⟩ (And.intro dX9_crosses_84 (And.intro ⟨_, dX9_crosses_85, rfl⟩ (And.intro ⟨_, dX9_crosses_86, rfl⟩ (And.intro ⟨dX9_crosses_87, fl_X9_47⟩ (And.intro dX9_crosses_90 trivial)))))))
theorem bX9_crosses_96_107 : okB cX9_crosses RX9 96 [(5, 0, 0, 0, 0), (3, 1, 0, 0, 0), (0, 0, 0, 0, 1), (12, 0, 0, 0, 0), (3, 3, 0, 0, 0), (5, 0, 0, 0, 0), (23, 47, 9, 19, 0), (4, 6, 0, 0, 0)] := And.intro ⟨_, dX9_crosses_96, rfl⟩ (And.intro ⟨_, dX9_crosses_97, rfl⟩ (And.intro ⟨_, dX9_crosses_98, by decide⟩ (And.intro dX9_crosses_99 (And.intro ⟨_, dX9_crosses_100, rfl⟩ (And.intro ⟨_, dX9_crosses_101, rfl⟩ (And.intro ⟨dX9_crosses_102, fl_X9_47⟩ (And.intro dX9_crosses_105 trivial)))))))
theorem bX9_crosses_114_115 : okB cX9_crosses RX9 114 [(0, 0, 0, 0, 1)] := And.intro ⟨_, dX9_crosses_114, by decide⟩ trivial
theorem bX9_crosses_119_123 : okB cX9_crosses RX9 119 [(8, 7, 0, 0, 0), (4, 7, 0, 0, 0)] := And.intro dX9_crosses_119 (And.intro dX9_crosses_121 trivial)
theorem bX9_crosses_129_137 : okB cX9_crosses RX9 129 [(4, 4, 0, 0, 0), (5, 0, 0, 0, 0), (23, 50, 9, 20, 0), (4, 5, 0, 0, 0)] := And.intro dX9_crosses_129 (And.intro ⟨_, dX9_crosses_131, rfl⟩ (And.intro ⟨dX9_crosses_132, fl_X9_50⟩ (And.intro dX9_crosses_135 trivial)))
theorem bX9_crosses_138_144 : okB cX9_crosses RX9 138 [(5, 0, 0, 0, 0), (23, 50, 9, 20, 0), (4, 6, 0, 0, 0)] := And.intro ⟨_, dX9_crosses_138, rfl⟩ (And.intro ⟨dX9_crosses_139, fl_X9_50⟩ (And.intro dX9_crosses_142 trivial))
theorem bX9_crosses_145_162 : okB cX9_crosses RX9 145 [(14, 0, 0, 0, 0), (12, 0, 0, 0, 0), (8, 4, 0, 0, 0), (5, 0, 0, 0, 0), (5, 0, 0, 0, 0), (23, 128, 9, 23, 0), (0, 0, 0, 0, 1), (12, 0, 0, 0, 0), (24, 128, 9, 23, 0), (11, 6, 0, 0, 1)] := And.intro dX9_crosses_145 (And.intro dX9_crosses_146 (And.intro dX9_crosses_147 (And.intro ⟨_, dX9_crosses_149, rfl⟩ (And.intro ⟨_, dX9_crosses_150, rfl⟩ (And.intro ⟨dX9_crosses_151, fl_X9_128⟩ (And.intro ⟨_, dX9_crosses_154, by decide⟩ (And.intro dX9_crosses_155 (And.intro ⟨dX9_crosses_156, fl_X9_128, rfl, rfl⟩ (And.intro ⟨_, dX9_crosses_159, by decide⟩ trivial)))))))))
set_option maxHeartbeats 4000000 in
set_option maxRecDepth 100000 in
theorem k_X9_crosses (l : Launch) (D : va_G) (ads : AD) (I A : HI) (a1 : Int32) (a2 : Int32) (a3 : Int32) (po : Option AV → HI → HI → Prop) (Iv14 : Int32 → Int32 → HI → Prop) (mu14 : Int32 → Int32 → HI → Nat) (Iv36 : Int32 → Int32 → HI → Int32 → Int32 → HI → Prop) (mu36 : Int32 → Int32 → HI → Int32 → Int32 → HI → Nat)
    (hv : (Iv14 0 (16 * a1) (up2 I 96 23 0) ∧ ∀ (x4_14 : Int32) (x5_14 : Int32) (I_14 : HI), Iv14 x4_14 x5_14 I_14 → (vp_in a1 10 ∧ ((((16 * a1) + (A 106 a1.toNatClampNeg)) ≤ x5_14 → po (some (.inl x4_14)) I_14 A) ∧ (¬ ((16 * a1) + (A 106 a1.toNatClampNeg)) ≤ x5_14 → (Iv36 x4_14 x5_14 I_14 x4_14 (16 * a1) I_14 ∧ ∀ (x4_36 : Int32) (x6_36 : Int32) (I_36 : HI), Iv36 x4_14 x5_14 I_14 x4_36 x6_36 I_36 → (vp_in a1 10 ∧ ((((16 * a1) + (A 106 a1.toNatClampNeg)) ≤ x6_36 → (Iv14 x4_36 (x5_14 + 1) I_36 ∧ mu14 x4_36 (x5_14 + 1) I_36 < mu14 x4_14 x5_14 I_14)) ∧ (¬ ((16 * a1) + (A 106 a1.toNatClampNeg)) ≤ x6_36 → (vp_in x5_14 160 ∧ ((stO0 (A 104) a1 a2 (A 107 x5_14.toNatClampNeg)) ∧ (vp_in x6_36 160 ∧ ((stO0 (A 104) a1 a2 (A 107 x6_36.toNatClampNeg)) ∧ (((stO (A 104) (A 110) a1 a2 (A 107 x6_36.toNatClampNeg)) ≤ (stO (A 104) (A 110) a1 a2 (A 107 x5_14.toNatClampNeg)) → (Iv36 x4_14 x5_14 I_14 x4_36 (x6_36 + 1) I_36 ∧ mu36 x4_14 x5_14 I_14 x4_36 (x6_36 + 1) I_36 < mu36 x4_14 x5_14 I_14 x4_36 x6_36 I_36)) ∧ (¬ (stO (A 104) (A 110) a1 a2 (A 107 x6_36.toNatClampNeg)) ≤ (stO (A 104) (A 110) a1 a2 (A 107 x5_14.toNatClampNeg)) → (vp_in x5_14 160 ∧ ((stO0 (A 104) (a1 + 1) a3 (A 108 x5_14.toNatClampNeg)) ∧ (vp_in x6_36 160 ∧ ((stO0 (A 104) (a1 + 1) a3 (A 108 x6_36.toNatClampNeg)) ∧ (((stO (A 104) (A 110) (a1 + 1) a3 (A 108 x5_14.toNatClampNeg)) ≤ (stO (A 104) (A 110) (a1 + 1) a3 (A 108 x6_36.toNatClampNeg)) → (Iv36 x4_14 x5_14 I_14 x4_36 (x6_36 + 1) I_36 ∧ mu36 x4_14 x5_14 I_14 x4_36 (x6_36 + 1) I_36 < mu36 x4_14 x5_14 I_14 x4_36 x6_36 I_36)) ∧ (¬ (stO (A 104) (A 110) (a1 + 1) a3 (A 108 x5_14.toNatClampNeg)) ≤ (stO (A 104) (A 110) (a1 + 1) a3 (A 108 x6_36.toNatClampNeg)) → (vp_in x5_14 160 ∧ (vp_in x6_36 160 ∧ (Iv36 x4_14 x5_14 I_14 (x4_36 + ((A 109 x5_14.toNatClampNeg) * (A 109 x6_36.toNatClampNeg))) (x6_36 + 1) (up2 I_36 96 23 ((I_36 96 23) + 1)) ∧ mu36 x4_14 x5_14 I_14 (x4_36 + ((A 109 x5_14.toNatClampNeg) * (A 109 x6_36.toNatClampNeg))) (x6_36 + 1) (up2 I_36 96 23 ((I_36 96 23) + 1)) < mu36 x4_14 x5_14 I_14 x4_36 x6_36 I_36)))))))))))))))))))))))) : Ct l yX9_crosses cX9_crosses 8 (some .int) 1 23 D ads shp [.inr (some 96), .inl a1, .inl a2, .inl a3] I A po := by
  refine Ct_of (by decide) (Nat.le_of_ble_eq_true rfl) ?_
  intro p e s m args below meth c hC hr
  replace hC : CX p s m args meth c cX9_crosses 8 RX9 (AdS ads s.heap.size) := hC
  show Gm p l e s m args below meth c D ads 1 23 8 po I A 0 [some (.inr (some 96)), some (.inl a1), some (.inl a2), some (.inl a3), none, none, none, none] []
  refine g_blk hC _ bX9_crosses_0_14 (pc' := 14) (ls' := [some (.inr (some 96)), some (.inl a1), some (.inl a2), some (.inl a3), some (.inl 0), some (.inl (16 * a1)), none, none]) (st' := []) (I' := up2 I 96 23 0) rfl rfl ?_
  obtain ⟨hi14, hb14⟩ := hv
  have L14 : ∀ (n : Nat) (x4_14 : Int32) (x5_14 : Int32) (I_14 : HI), Iv14 x4_14 x5_14 I_14 → mu14 x4_14 x5_14 I_14 < n → Gm p l e s m args below meth c D ads 1 23 8 po I_14 A 14 [some (.inr (some 96)), some (.inl a1), some (.inl a2), some (.inl a3), some (.inl x4_14), some (.inl x5_14), none, none] [] := by
    intro n
    induction n with
    | zero => intro x4_14 x5_14 I_14 _ hn; exact absurd hn (Nat.not_lt_zero _)
    | succ n ih14 =>
      intro x4_14 x5_14 I_14 hv hn14
      replace hv := hb14 x4_14 x5_14 I_14 hv
      skip
      refine g_blk hC _ bX9_crosses_14_25 (pc' := 25) (ls' := [some (.inr (some 96)), some (.inl a1), some (.inl a2), some (.inl a3), some (.inl x4_14), some (.inl x5_14), none, none]) (st' := [.inl a1, .inr (some 106), .inl (16 * a1), .inl x5_14]) (I' := I_14) rfl rfl ?_
      obtain ⟨hi, hv⟩ := hv
      refine g_iald hC dX9_crosses_25 (rfl) hi ?_
      clear hi
      refine g_blk hC _ bX9_crosses_26_27 (pc' := 27) (ls' := [some (.inr (some 96)), some (.inl a1), some (.inl a2), some (.inl a3), some (.inl x4_14), some (.inl x5_14), none, none]) (st' := [.inl ((16 * a1) + (A 106 a1.toNatClampNeg)), .inl x5_14]) (I' := I_14) rfl rfl ?_
      obtain ⟨hv1, hv2⟩ := hv
      refine g_cge hC dX9_crosses_27 (tgt := 171) (by decide) (fun hc => ?_) (fun hc => ?_)
      · have hv := hv1 hc
        clear hv1 hv2 hc
        refine g_blk hC _ bX9_crosses_171_173 (pc' := 173) (ls' := [some (.inr (some 96)), some (.inl a1), some (.inl a2), some (.inl a3), some (.inl x4_14), some (.inl x5_14), none, none]) (st' := [.inl x4_14]) (I' := I_14) rfl rfl ?_
        exact g_reti hC hr rfl dX9_crosses_173 hv
      · have hv := hv2 hc
        clear hv1 hv2 hc
        refine g_blk hC _ bX9_crosses_30_36 (pc' := 36) (ls' := [some (.inr (some 96)), some (.inl a1), some (.inl a2), some (.inl a3), some (.inl x4_14), some (.inl x5_14), some (.inl (16 * a1)), none]) (st' := []) (I' := I_14) rfl rfl ?_
        obtain ⟨hi36, hb36⟩ := hv
        have L36 : ∀ (n : Nat) (x4_36 : Int32) (x6_36 : Int32) (I_36 : HI), Iv36 x4_14 x5_14 I_14 x4_36 x6_36 I_36 → mu36 x4_14 x5_14 I_14 x4_36 x6_36 I_36 < n → Gm p l e s m args below meth c D ads 1 23 8 po I_36 A 36 [some (.inr (some 96)), some (.inl a1), some (.inl a2), some (.inl a3), some (.inl x4_36), some (.inl x5_14), some (.inl x6_36), none] [] := by
          intro n
          induction n with
          | zero => intro x4_36 x6_36 I_36 _ hn; exact absurd hn (Nat.not_lt_zero _)
          | succ n ih36 =>
            intro x4_36 x6_36 I_36 hv hn36
            replace hv := hb36 x4_36 x6_36 I_36 hv
            skip
            refine g_blk hC _ bX9_crosses_36_47 (pc' := 47) (ls' := [some (.inr (some 96)), some (.inl a1), some (.inl a2), some (.inl a3), some (.inl x4_36), some (.inl x5_14), some (.inl x6_36), none]) (st' := [.inl a1, .inr (some 106), .inl (16 * a1), .inl x6_36]) (I' := I_36) rfl rfl ?_
            obtain ⟨hi, hv⟩ := hv
            refine g_iald hC dX9_crosses_47 (rfl) hi ?_
            clear hi
            refine g_blk hC _ bX9_crosses_48_49 (pc' := 49) (ls' := [some (.inr (some 96)), some (.inl a1), some (.inl a2), some (.inl a3), some (.inl x4_36), some (.inl x5_14), some (.inl x6_36), none]) (st' := [.inl ((16 * a1) + (A 106 a1.toNatClampNeg)), .inl x6_36]) (I' := I_36) rfl rfl ?_
            obtain ⟨hv1, hv2⟩ := hv
            refine g_cge hC dX9_crosses_49 (tgt := 165) (by decide) (fun hc => ?_) (fun hc => ?_)
            · have hv := hv1 hc
              clear hv1 hv2 hc
              refine g_blk hC _ bX9_crosses_165_168 (pc' := 168) (ls' := [some (.inr (some 96)), some (.inl a1), some (.inl a2), some (.inl a3), some (.inl x4_36), some (.inl (x5_14 + 1)), some (.inl x6_36), none]) (st' := []) (I' := I_36) rfl rfl ?_
              refine g_goto hC dX9_crosses_168 (tgt := 14) (by decide) ?_
              exact g_weak (ls1 := [some (.inr (some 96)), some (.inl a1), some (.inl a2), some (.inl a3), some (.inl x4_36), some (.inl (x5_14 + 1)), none, none]) rfl (And.intro rfl (And.intro rfl (And.intro rfl (And.intro rfl (And.intro rfl (And.intro rfl trivial)))))) (ih14 x4_36 (x5_14 + 1) I_36 hv.1 (Nat.lt_of_lt_of_le hv.2 (Nat.le_of_lt_succ hn14)))
            · have hv := hv2 hc
              clear hv1 hv2 hc
              refine g_blk hC _ bX9_crosses_52_61 (pc' := 61) (ls' := [some (.inr (some 96)), some (.inl a1), some (.inl a2), some (.inl a3), some (.inl x4_36), some (.inl x5_14), some (.inl x6_36), none]) (st' := [.inl x5_14, .inr (some 107), .inl a2, .inl a1, .inr (some 96)]) (I' := I_36) rfl rfl ?_
              obtain ⟨hi, hv⟩ := hv
              refine g_iald hC dX9_crosses_61 (rfl) hi ?_
              clear hi
              obtain ⟨hp1, hv⟩ := hv
              refine g_callV hC (c_X9_standOf l D ads I_36 A a1 a2 (A 107 x5_14.toNatClampNeg) hp1) dX9_crosses_62 nm_X9_standOf rfl rfl wl_X9_131 wi_X9_standOf ws_X9_standOf wn_X9 wc_X9_standOf ⟨by decide, by decide⟩ (as := [.inl a1, .inl a2, .inl (A 107 x5_14.toNatClampNeg)]) (rest := []) rfl (Nat.le_of_ble_eq_true rfl) ⟨Nat.le_refl _, Nat.le_refl _⟩ (k_qI ?_)
              refine g_blk hC _ bX9_crosses_65_74 (pc' := 74) (ls' := [some (.inr (some 96)), some (.inl a1), some (.inl a2), some (.inl a3), some (.inl x4_36), some (.inl x5_14), some (.inl x6_36), none]) (st' := [.inl x6_36, .inr (some 107), .inl a2, .inl a1, .inr (some 96), .inl (stO (A 104) (A 110) a1 a2 (A 107 x5_14.toNatClampNeg))]) (I' := I_36) rfl rfl ?_
              obtain ⟨hi, hv⟩ := hv
              refine g_iald hC dX9_crosses_74 (rfl) hi ?_
              clear hi
              obtain ⟨hp2, hv⟩ := hv
              refine g_callV hC (c_X9_standOf l D ads I_36 A a1 a2 (A 107 x6_36.toNatClampNeg) hp2) dX9_crosses_75 nm_X9_standOf rfl rfl wl_X9_131 wi_X9_standOf ws_X9_standOf wn_X9 wc_X9_standOf ⟨by decide, by decide⟩ (as := [.inl a1, .inl a2, .inl (A 107 x6_36.toNatClampNeg)]) (rest := [.inl (stO (A 104) (A 110) a1 a2 (A 107 x5_14.toNatClampNeg))]) rfl (Nat.le_of_ble_eq_true rfl) ⟨Nat.le_refl _, Nat.le_refl _⟩ (k_qI ?_)
              obtain ⟨hv1, hv2⟩ := hv
              refine g_cge hC dX9_crosses_78 (tgt := 118) (by decide) (fun hc => ?_) (fun hc => ?_)
              · have hv := hv1 hc
                clear hv1 hv2 hc
                refine g_blk hC _ bX9_crosses_118_123 (pc' := 123) (ls' := [some (.inr (some 96)), some (.inl a1), some (.inl a2), some (.inl a3), some (.inl x4_36), some (.inl x5_14), some (.inl x6_36), some (.inl 0)]) (st' := [.inl 0]) (I' := I_36) rfl rfl ?_
                refine g_ifne hC dX9_crosses_123 (tgt := 129) (by decide) (fun hc => absurd hc (by decide)) (fun hc => ?_)
                refine g_goto hC dX9_crosses_126 (tgt := 159) (by decide) ?_
                refine g_blk hC _ bX9_crosses_159_162 (pc' := 162) (ls' := [some (.inr (some 96)), some (.inl a1), some (.inl a2), some (.inl a3), some (.inl x4_36), some (.inl x5_14), some (.inl (x6_36 + 1)), some (.inl 0)]) (st' := []) (I' := I_36) rfl rfl ?_
                refine g_goto hC dX9_crosses_162 (tgt := 36) (by decide) ?_
                exact g_weak (ls1 := [some (.inr (some 96)), some (.inl a1), some (.inl a2), some (.inl a3), some (.inl x4_36), some (.inl x5_14), some (.inl (x6_36 + 1)), none]) rfl (And.intro rfl (And.intro rfl (And.intro rfl (And.intro rfl (And.intro rfl (And.intro rfl (And.intro rfl trivial))))))) (ih36 x4_36 (x6_36 + 1) I_36 hv.1 (Nat.lt_of_lt_of_le hv.2 (Nat.le_of_lt_succ hn36)))
              · have hv := hv2 hc
                clear hv1 hv2 hc
                refine g_blk hC _ bX9_crosses_81_92 (pc' := 92) (ls' := [some (.inr (some 96)), some (.inl a1), some (.inl a2), some (.inl a3), some (.inl x4_36), some (.inl x5_14), some (.inl x6_36), none]) (st' := [.inl x5_14, .inr (some 108), .inl a3, .inl (a1 + 1), .inr (some 96)]) (I' := I_36) rfl rfl ?_
                obtain ⟨hi, hv⟩ := hv
                refine g_iald hC dX9_crosses_92 (rfl) hi ?_
                clear hi
                obtain ⟨hp3, hv⟩ := hv
                refine g_callV hC (c_X9_standOf l D ads I_36 A (a1 + 1) a3 (A 108 x5_14.toNatClampNeg) hp3) dX9_crosses_93 nm_X9_standOf rfl rfl wl_X9_131 wi_X9_standOf ws_X9_standOf wn_X9 wc_X9_standOf ⟨by decide, by decide⟩ (as := [.inl (a1 + 1), .inl a3, .inl (A 108 x5_14.toNatClampNeg)]) (rest := []) rfl (Nat.le_of_ble_eq_true rfl) ⟨Nat.le_refl _, Nat.le_refl _⟩ (k_qI ?_)
                refine g_blk hC _ bX9_crosses_96_107 (pc' := 107) (ls' := [some (.inr (some 96)), some (.inl a1), some (.inl a2), some (.inl a3), some (.inl x4_36), some (.inl x5_14), some (.inl x6_36), none]) (st' := [.inl x6_36, .inr (some 108), .inl a3, .inl (a1 + 1), .inr (some 96), .inl (stO (A 104) (A 110) (a1 + 1) a3 (A 108 x5_14.toNatClampNeg))]) (I' := I_36) rfl rfl ?_
                obtain ⟨hi, hv⟩ := hv
                refine g_iald hC dX9_crosses_107 (rfl) hi ?_
                clear hi
                obtain ⟨hp4, hv⟩ := hv
                refine g_callV hC (c_X9_standOf l D ads I_36 A (a1 + 1) a3 (A 108 x6_36.toNatClampNeg) hp4) dX9_crosses_108 nm_X9_standOf rfl rfl wl_X9_131 wi_X9_standOf ws_X9_standOf wn_X9 wc_X9_standOf ⟨by decide, by decide⟩ (as := [.inl (a1 + 1), .inl a3, .inl (A 108 x6_36.toNatClampNeg)]) (rest := [.inl (stO (A 104) (A 110) (a1 + 1) a3 (A 108 x5_14.toNatClampNeg))]) rfl (Nat.le_of_ble_eq_true rfl) ⟨Nat.le_refl _, Nat.le_refl _⟩ (k_qI ?_)
                obtain ⟨hv1, hv2⟩ := hv
                refine g_cle hC dX9_crosses_111 (tgt := 118) (by decide) (fun hc => ?_) (fun hc => ?_)
                · have hv := hv1 hc
                  clear hv1 hv2 hc
                  refine g_blk hC _ bX9_crosses_118_123 (pc' := 123) (ls' := [some (.inr (some 96)), some (.inl a1), some (.inl a2), some (.inl a3), some (.inl x4_36), some (.inl x5_14), some (.inl x6_36), some (.inl 0)]) (st' := [.inl 0]) (I' := I_36) rfl rfl ?_
                  refine g_ifne hC dX9_crosses_123 (tgt := 129) (by decide) (fun hc => absurd hc (by decide)) (fun hc => ?_)
                  refine g_goto hC dX9_crosses_126 (tgt := 159) (by decide) ?_
                  refine g_blk hC _ bX9_crosses_159_162 (pc' := 162) (ls' := [some (.inr (some 96)), some (.inl a1), some (.inl a2), some (.inl a3), some (.inl x4_36), some (.inl x5_14), some (.inl (x6_36 + 1)), some (.inl 0)]) (st' := []) (I' := I_36) rfl rfl ?_
                  refine g_goto hC dX9_crosses_162 (tgt := 36) (by decide) ?_
                  exact g_weak (ls1 := [some (.inr (some 96)), some (.inl a1), some (.inl a2), some (.inl a3), some (.inl x4_36), some (.inl x5_14), some (.inl (x6_36 + 1)), none]) rfl (And.intro rfl (And.intro rfl (And.intro rfl (And.intro rfl (And.intro rfl (And.intro rfl (And.intro rfl trivial))))))) (ih36 x4_36 (x6_36 + 1) I_36 hv.1 (Nat.lt_of_lt_of_le hv.2 (Nat.le_of_lt_succ hn36)))
                · have hv := hv2 hc
                  clear hv1 hv2 hc
                  refine g_blk hC _ bX9_crosses_114_115 (pc' := 115) (ls' := [some (.inr (some 96)), some (.inl a1), some (.inl a2), some (.inl a3), some (.inl x4_36), some (.inl x5_14), some (.inl x6_36), none]) (st' := [.inl 1]) (I' := I_36) rfl rfl ?_
                  refine g_goto hC dX9_crosses_115 (tgt := 119) (by decide) ?_
                  refine g_blk hC _ bX9_crosses_119_123 (pc' := 123) (ls' := [some (.inr (some 96)), some (.inl a1), some (.inl a2), some (.inl a3), some (.inl x4_36), some (.inl x5_14), some (.inl x6_36), some (.inl 1)]) (st' := [.inl 1]) (I' := I_36) rfl rfl ?_
                  refine g_ifne hC dX9_crosses_123 (tgt := 129) (by decide) (fun hc => ?_) (fun hc => absurd hc (by decide))
                  refine g_blk hC _ bX9_crosses_129_137 (pc' := 137) (ls' := [some (.inr (some 96)), some (.inl a1), some (.inl a2), some (.inl a3), some (.inl x4_36), some (.inl x5_14), some (.inl x6_36), some (.inl 1)]) (st' := [.inl x5_14, .inr (some 109), .inl x4_36]) (I' := I_36) rfl rfl ?_
                  obtain ⟨hi, hv⟩ := hv
                  refine g_iald hC dX9_crosses_137 (rfl) hi ?_
                  clear hi
                  refine g_blk hC _ bX9_crosses_138_144 (pc' := 144) (ls' := [some (.inr (some 96)), some (.inl a1), some (.inl a2), some (.inl a3), some (.inl x4_36), some (.inl x5_14), some (.inl x6_36), some (.inl 1)]) (st' := [.inl x6_36, .inr (some 109), .inl (A 109 x5_14.toNatClampNeg), .inl x4_36]) (I' := I_36) rfl rfl ?_
                  obtain ⟨hi, hv⟩ := hv
                  refine g_iald hC dX9_crosses_144 (rfl) hi ?_
                  clear hi
                  refine g_blk hC _ bX9_crosses_145_162 (pc' := 162) (ls' := [some (.inr (some 96)), some (.inl a1), some (.inl a2), some (.inl a3), some (.inl (x4_36 + ((A 109 x5_14.toNatClampNeg) * (A 109 x6_36.toNatClampNeg)))), some (.inl x5_14), some (.inl (x6_36 + 1)), some (.inl 1)]) (st' := []) (I' := up2 I_36 96 23 ((I_36 96 23) + 1)) rfl rfl ?_
                  refine g_goto hC dX9_crosses_162 (tgt := 36) (by decide) ?_
                  exact g_weak (ls1 := [some (.inr (some 96)), some (.inl a1), some (.inl a2), some (.inl a3), some (.inl (x4_36 + ((A 109 x5_14.toNatClampNeg) * (A 109 x6_36.toNatClampNeg)))), some (.inl x5_14), some (.inl (x6_36 + 1)), none]) rfl (And.intro rfl (And.intro rfl (And.intro rfl (And.intro rfl (And.intro rfl (And.intro rfl (And.intro rfl trivial))))))) (ih36 (x4_36 + ((A 109 x5_14.toNatClampNeg) * (A 109 x6_36.toNatClampNeg))) (x6_36 + 1) (up2 I_36 96 23 ((I_36 96 23) + 1)) hv.1 (Nat.lt_of_lt_of_le hv.2 (Nat.le_of_lt_succ hn36)))
        exact g_weak (ls1 := [some (.inr (some 96)), some (.inl a1), some (.inl a2), some (.inl a3), some (.inl x4_14), some (.inl x5_14), some (.inl (16 * a1)), none]) rfl (And.intro rfl (And.intro rfl (And.intro rfl (And.intro rfl (And.intro rfl (And.intro rfl (And.intro rfl trivial))))))) (L36 _ x4_14 (16 * a1) I_14 hi36 (Nat.lt_succ_self _))
  exact g_weak (ls1 := [some (.inr (some 96)), some (.inl a1), some (.inl a2), some (.inl a3), some (.inl 0), some (.inl (16 * a1)), none, none]) rfl (And.intro rfl (And.intro rfl (And.intro rfl (And.intro rfl (And.intro rfl (And.intro rfl trivial)))))) (L14 _ 0 (16 * a1) (up2 I 96 23 0) hi14 (Nat.lt_succ_self _))
theorem bX9_moves_0_5 : okB cX9_moves RX9 0 [(0, 0, 0, 0, 0), (7, 3, 0, 0, 0), (0, 0, 0, 0, 0), (8, 4, 0, 0, 0)] := And.intro ⟨_, dX9_moves_0, by decide⟩ (And.intro ⟨_, dX9_moves_1, rfl⟩ (And.intro ⟨_, dX9_moves_2, by decide⟩ (And.intro dX9_moves_3 trivial)))
theorem bX9_moves_5_12 : okB cX9_moves RX9 5 [(4, 4, 0, 0, 0), (5, 0, 0, 0, 0), (23, 35, 9, 15, 0), (3, 1, 0, 0, 0)] := And.intro dX9_moves_5 (And.intro ⟨_, dX9_moves_7, rfl⟩ (And.intro ⟨dX9_moves_8, fl_X9_35⟩ (And.intro ⟨_, dX9_moves_11, rfl⟩ trivial)))
theorem bX9_moves_171_172 : okB cX9_moves RX9 171 [(3, 3, 0, 0, 0)] := And.intro ⟨_, dX9_moves_171, rfl⟩ trivial
theorem bX9_moves_16_22 : okB cX9_moves RX9 16 [(4, 4, 0, 0, 0), (0, 0, 0, 0, 1), (12, 0, 0, 0, 0), (8, 5, 0, 0, 0)] := And.intro dX9_moves_16 (And.intro ⟨_, dX9_moves_18, by decide⟩ (And.intro dX9_moves_19 (And.intro dX9_moves_20 trivial)))
theorem bX9_moves_22_29 : okB cX9_moves RX9 22 [(4, 5, 0, 0, 0), (5, 0, 0, 0, 0), (23, 35, 9, 15, 0), (3, 1, 0, 0, 0)] := And.intro dX9_moves_22 (And.intro ⟨_, dX9_moves_24, rfl⟩ (And.intro ⟨dX9_moves_25, fl_X9_35⟩ (And.intro ⟨_, dX9_moves_28, rfl⟩ trivial)))
theorem bX9_moves_165_168 : okB cX9_moves RX9 165 [(11, 4, 0, 0, 1)] := And.intro ⟨_, dX9_moves_165, by decide⟩ trivial
theorem bX9_moves_33_44 : okB cX9_moves RX9 33 [(5, 0, 0, 0, 0), (23, 38, 9, 16, 0), (1, 0, 0, 0, 30), (3, 1, 0, 0, 0), (14, 0, 0, 0, 0), (4, 4, 0, 0, 0), (12, 0, 0, 0, 0)] := And.intro ⟨_, dX9_moves_33, rfl⟩ (And.intro ⟨dX9_moves_34, fl_X9_38⟩ (And.intro ⟨_, dX9_moves_37, by decide⟩ (And.intro ⟨_, dX9_moves_39, rfl⟩ (And.intro dX9_moves_40 (And.intro dX9_moves_41 (And.intro dX9_moves_43 trivial))))))
theorem bX9_moves_45_58 : okB cX9_moves RX9 45 [(8, 6, 0, 0, 0), (5, 0, 0, 0, 0), (23, 38, 9, 16, 0), (1, 0, 0, 0, 30), (3, 1, 0, 0, 0), (14, 0, 0, 0, 0), (4, 5, 0, 0, 0), (12, 0, 0, 0, 0)] := And.intro dX9_moves_45 (And.intro ⟨_, dX9_moves_47, rfl⟩ (And.intro ⟨dX9_moves_48, fl_X9_38⟩ (And.intro ⟨_, dX9_moves_51, by decide⟩ (And.intro ⟨_, dX9_moves_53, rfl⟩ (And.intro dX9_moves_54 (And.intro dX9_moves_55 (And.intro dX9_moves_57 trivial)))))))
theorem bX9_moves_59_65 : okB cX9_moves RX9 59 [(8, 7, 0, 0, 0), (4, 6, 0, 0, 0), (1, 0, 0, 0, 9)] := And.intro dX9_moves_59 (And.intro dX9_moves_61 (And.intro ⟨_, dX9_moves_63, by decide⟩ trivial))
theorem bX9_moves_159_162 : okB cX9_moves RX9 159 [(11, 5, 0, 0, 1)] := And.intro ⟨_, dX9_moves_159, by decide⟩ trivial
theorem bX9_moves_68_72 : okB cX9_moves RX9 68 [(4, 7, 0, 0, 0), (1, 0, 0, 0, 9)] := And.intro dX9_moves_68 (And.intro ⟨_, dX9_moves_70, by decide⟩ trivial)
theorem bX9_moves_75_81 : okB cX9_moves RX9 75 [(5, 0, 0, 0, 0), (23, 17, 9, 5, 0), (4, 6, 0, 0, 0)] := And.intro ⟨_, dX9_moves_75, rfl⟩ (And.intro ⟨dX9_moves_76, fl_X9_17⟩ (And.intro dX9_moves_79 trivial))
theorem bX9_moves_82_83 : okB cX9_moves RX9 82 [(0, 0, 0, 0, (-1))] := And.intro ⟨_, dX9_moves_82, by decide⟩ trivial
theorem bX9_moves_86_92 : okB cX9_moves RX9 86 [(5, 0, 0, 0, 0), (23, 17, 9, 5, 0), (4, 6, 0, 0, 0)] := And.intro ⟨_, dX9_moves_86, rfl⟩ (And.intro ⟨dX9_moves_87, fl_X9_17⟩ (And.intro dX9_moves_90 trivial))
theorem bX9_moves_93_99 : okB cX9_moves RX9 93 [(5, 0, 0, 0, 0), (23, 17, 9, 5, 0), (4, 7, 0, 0, 0)] := And.intro ⟨_, dX9_moves_93, rfl⟩ (And.intro ⟨dX9_moves_94, fl_X9_17⟩ (And.intro dX9_moves_97 trivial))
theorem bX9_moves_106_111 : okB cX9_moves RX9 106 [(5, 0, 0, 0, 0), (3, 1, 0, 0, 0), (3, 2, 0, 0, 0), (4, 4, 0, 0, 0)] := And.intro ⟨_, dX9_moves_106, rfl⟩ (And.intro ⟨_, dX9_moves_107, rfl⟩ (And.intro ⟨_, dX9_moves_108, rfl⟩ (And.intro dX9_moves_109 trivial)))
theorem bX9_moves_114_119 : okB cX9_moves RX9 114 [(5, 0, 0, 0, 0), (3, 1, 0, 0, 0), (3, 2, 0, 0, 0), (4, 5, 0, 0, 0)] := And.intro ⟨_, dX9_moves_114, rfl⟩ (And.intro ⟨_, dX9_moves_115, rfl⟩ (And.intro ⟨_, dX9_moves_116, rfl⟩ (And.intro dX9_moves_117 trivial)))
theorem bX9_moves_129_136 : okB cX9_moves RX9 129 [(0, 0, 0, 0, 0), (5, 0, 0, 0, 0), (23, 20, 9, 6, 0), (4, 6, 0, 0, 0)] := And.intro ⟨_, dX9_moves_129, by decide⟩ (And.intro ⟨_, dX9_moves_130, rfl⟩ (And.intro ⟨dX9_moves_131, fl_X9_20⟩ (And.intro dX9_moves_134 trivial)))
theorem bX9_moves_137_143 : okB cX9_moves RX9 137 [(5, 0, 0, 0, 0), (23, 20, 9, 6, 0), (4, 7, 0, 0, 0)] := And.intro ⟨_, dX9_moves_137, rfl⟩ (And.intro ⟨dX9_moves_138, fl_X9_20⟩ (And.intro dX9_moves_141 trivial))
theorem bX9_moves_151_152 : okB cX9_moves RX9 151 [(0, 0, 0, 0, 0)] := And.intro ⟨_, dX9_moves_151, by decide⟩ trivial
theorem bX9_moves_147_148 : okB cX9_moves RX9 147 [(0, 0, 0, 0, 1)] := And.intro ⟨_, dX9_moves_147, by decide⟩ trivial
theorem bX9_moves_155_162 : okB cX9_moves RX9 155 [(3, 3, 0, 0, 0), (0, 0, 0, 0, 1), (12, 0, 0, 0, 0), (7, 3, 0, 0, 0), (11, 5, 0, 0, 1)] := And.intro ⟨_, dX9_moves_155, rfl⟩ (And.intro ⟨_, dX9_moves_156, by decide⟩ (And.intro dX9_moves_157 (And.intro ⟨_, dX9_moves_158, rfl⟩ (And.intro ⟨_, dX9_moves_159, by decide⟩ trivial))))
theorem bX9_moves_125_126 : okB cX9_moves RX9 125 [(0, 0, 0, 0, 1)] := And.intro ⟨_, dX9_moves_125, by decide⟩ trivial
theorem bX9_moves_130_136 : okB cX9_moves RX9 130 [(5, 0, 0, 0, 0), (23, 20, 9, 6, 0), (4, 6, 0, 0, 0)] := And.intro ⟨_, dX9_moves_130, rfl⟩ (And.intro ⟨dX9_moves_131, fl_X9_20⟩ (And.intro dX9_moves_134 trivial))
set_option maxHeartbeats 4000000 in
set_option maxRecDepth 100000 in
theorem k_X9_moves (l : Launch) (D : va_G) (ads : AD) (I A : HI) (a1 : Int32) (a2 : Int32) (po : Option AV → HI → HI → Prop) (Iv5 : Int32 → Int32 → Prop) (mu5 : Int32 → Int32 → Nat) (Iv22 : Int32 → Int32 → Int32 → Int32 → Prop) (mu22 : Int32 → Int32 → Int32 → Int32 → Nat)
    (hv : (Iv5 0 0 ∧ ∀ (x3_5 : Int32) (x4_5 : Int32), Iv5 x3_5 x4_5 → (vp_in a1 10 ∧ (((A 104 a1.toNatClampNeg) ≤ x4_5 → po (some (.inl x3_5)) I A) ∧ (¬ (A 104 a1.toNatClampNeg) ≤ x4_5 → (Iv22 x3_5 x4_5 x3_5 (x4_5 + 1) ∧ ∀ (x3_22 : Int32) (x5_22 : Int32), Iv22 x3_5 x4_5 x3_22 x5_22 → (vp_in a1 10 ∧ (((A 104 a1.toNatClampNeg) ≤ x5_22 → (Iv5 x3_22 (x4_5 + 1) ∧ mu5 x3_22 (x4_5 + 1) < mu5 x3_5 x4_5)) ∧ (¬ (A 104 a1.toNatClampNeg) ≤ x5_22 → (vp_in ((30 * a1) + x4_5) 300 ∧ (vp_in ((30 * a1) + x5_22) 300 ∧ ((9 < (A 105 ((30 * a1) + x4_5).toNatClampNeg) → (Iv22 x3_5 x4_5 x3_22 (x5_22 + 1) ∧ mu22 x3_5 x4_5 x3_22 (x5_22 + 1) < mu22 x3_5 x4_5 x3_22 x5_22)) ∧ (¬ 9 < (A 105 ((30 * a1) + x4_5).toNatClampNeg) → ((9 < (A 105 ((30 * a1) + x5_22).toNatClampNeg) → (Iv22 x3_5 x4_5 x3_22 (x5_22 + 1) ∧ mu22 x3_5 x4_5 x3_22 (x5_22 + 1) < mu22 x3_5 x4_5 x3_22 x5_22)) ∧ (¬ 9 < (A 105 ((30 * a1) + x5_22).toNatClampNeg) → (vp_in (A 105 ((30 * a1) + x4_5).toNatClampNeg) 10 ∧ (((A 98 (A 105 ((30 * a1) + x4_5).toNatClampNeg).toNatClampNeg) = ((-1)) → (Iv22 x3_5 x4_5 x3_22 (x5_22 + 1) ∧ mu22 x3_5 x4_5 x3_22 (x5_22 + 1) < mu22 x3_5 x4_5 x3_22 x5_22)) ∧ (¬ (A 98 (A 105 ((30 * a1) + x4_5).toNatClampNeg).toNatClampNeg) = ((-1)) → (vp_in (A 105 ((30 * a1) + x4_5).toNatClampNeg) 10 ∧ (vp_in (A 105 ((30 * a1) + x5_22).toNatClampNeg) 10 ∧ (((A 98 (A 105 ((30 * a1) + x4_5).toNatClampNeg).toNatClampNeg) = (A 98 (A 105 ((30 * a1) + x5_22).toNatClampNeg).toNatClampNeg) → ((stO0 (A 104) a1 a2 x4_5) ∧ ((stO0 (A 104) a1 a2 x5_22) ∧ (((stO (A 104) (A 110) a1 a2 x5_22) ≤ (stO (A 104) (A 110) a1 a2 x4_5) → (vp_in (A 105 ((30 * a1) + x4_5).toNatClampNeg) 10 ∧ (vp_in (A 105 ((30 * a1) + x5_22).toNatClampNeg) 10 ∧ (((A 99 (A 105 ((30 * a1) + x5_22).toNatClampNeg).toNatClampNeg) ≤ (A 99 (A 105 ((30 * a1) + x4_5).toNatClampNeg).toNatClampNeg) → (Iv22 x3_5 x4_5 x3_22 (x5_22 + 1) ∧ mu22 x3_5 x4_5 x3_22 (x5_22 + 1) < mu22 x3_5 x4_5 x3_22 x5_22)) ∧ (¬ (A 99 (A 105 ((30 * a1) + x5_22).toNatClampNeg).toNatClampNeg) ≤ (A 99 (A 105 ((30 * a1) + x4_5).toNatClampNeg).toNatClampNeg) → (Iv22 x3_5 x4_5 (x3_22 + 1) (x5_22 + 1) ∧ mu22 x3_5 x4_5 (x3_22 + 1) (x5_22 + 1) < mu22 x3_5 x4_5 x3_22 x5_22)))))) ∧ (¬ (stO (A 104) (A 110) a1 a2 x5_22) ≤ (stO (A 104) (A 110) a1 a2 x4_5) → (vp_in (A 105 ((30 * a1) + x4_5).toNatClampNeg) 10 ∧ (vp_in (A 105 ((30 * a1) + x5_22).toNatClampNeg) 10 ∧ (((A 99 (A 105 ((30 * a1) + x5_22).toNatClampNeg).toNatClampNeg) ≤ (A 99 (A 105 ((30 * a1) + x4_5).toNatClampNeg).toNatClampNeg) → (Iv22 x3_5 x4_5 (x3_22 + 1) (x5_22 + 1) ∧ mu22 x3_5 x4_5 (x3_22 + 1) (x5_22 + 1) < mu22 x3_5 x4_5 x3_22 x5_22)) ∧ (¬ (A 99 (A 105 ((30 * a1) + x5_22).toNatClampNeg).toNatClampNeg) ≤ (A 99 (A 105 ((30 * a1) + x4_5).toNatClampNeg).toNatClampNeg) → (Iv22 x3_5 x4_5 x3_22 (x5_22 + 1) ∧ mu22 x3_5 x4_5 x3_22 (x5_22 + 1) < mu22 x3_5 x4_5 x3_22 x5_22)))))))))) ∧ (¬ (A 98 (A 105 ((30 * a1) + x4_5).toNatClampNeg).toNatClampNeg) = (A 98 (A 105 ((30 * a1) + x5_22).toNatClampNeg).toNatClampNeg) → (Iv22 x3_5 x4_5 x3_22 (x5_22 + 1) ∧ mu22 x3_5 x4_5 x3_22 (x5_22 + 1) < mu22 x3_5 x4_5 x3_22 x5_22))))))))))))))))))))))) : Ct l yX9_moves cX9_moves 8 (some .int) 1 23 D ads shp [.inr (some 96), .inl a1, .inl a2] I A po := by
  refine Ct_of (by decide) (Nat.le_of_ble_eq_true rfl) ?_
  intro p e s m args below meth c hC hr
  replace hC : CX p s m args meth c cX9_moves 8 RX9 (AdS ads s.heap.size) := hC
  show Gm p l e s m args below meth c D ads 1 23 8 po I A 0 [some (.inr (some 96)), some (.inl a1), some (.inl a2), none, none, none, none, none] []
  refine g_blk hC _ bX9_moves_0_5 (pc' := 5) (ls' := [some (.inr (some 96)), some (.inl a1), some (.inl a2), some (.inl 0), some (.inl 0), none, none, none]) (st' := []) (I' := I) rfl rfl ?_
  obtain ⟨hi5, hb5⟩ := hv
  have L5 : ∀ (n : Nat) (x3_5 : Int32) (x4_5 : Int32), Iv5 x3_5 x4_5 → mu5 x3_5 x4_5 < n → Gm p l e s m args below meth c D ads 1 23 8 po I A 5 [some (.inr (some 96)), some (.inl a1), some (.inl a2), some (.inl x3_5), some (.inl x4_5), none, none, none] [] := by
    intro n
    induction n with
    | zero => intro x3_5 x4_5 _ hn; exact absurd hn (Nat.not_lt_zero _)
    | succ n ih5 =>
      intro x3_5 x4_5 hv hn5
      replace hv := hb5 x3_5 x4_5 hv
      skip
      refine g_blk hC _ bX9_moves_5_12 (pc' := 12) (ls' := [some (.inr (some 96)), some (.inl a1), some (.inl a2), some (.inl x3_5), some (.inl x4_5), none, none, none]) (st' := [.inl a1, .inr (some 104), .inl x4_5]) (I' := I) rfl rfl ?_
      obtain ⟨hi, hv⟩ := hv
      refine g_iald hC dX9_moves_12 (rfl) hi ?_
      clear hi
      obtain ⟨hv1, hv2⟩ := hv
      refine g_cge hC dX9_moves_13 (tgt := 171) (by decide) (fun hc => ?_) (fun hc => ?_)
      · have hv := hv1 hc
        clear hv1 hv2 hc
        refine g_blk hC _ bX9_moves_171_172 (pc' := 172) (ls' := [some (.inr (some 96)), some (.inl a1), some (.inl a2), some (.inl x3_5), some (.inl x4_5), none, none, none]) (st' := [.inl x3_5]) (I' := I) rfl rfl ?_
        exact g_reti hC hr rfl dX9_moves_172 hv
      · have hv := hv2 hc
        clear hv1 hv2 hc
        refine g_blk hC _ bX9_moves_16_22 (pc' := 22) (ls' := [some (.inr (some 96)), some (.inl a1), some (.inl a2), some (.inl x3_5), some (.inl x4_5), some (.inl (x4_5 + 1)), none, none]) (st' := []) (I' := I) rfl rfl ?_
        obtain ⟨hi22, hb22⟩ := hv
        have L22 : ∀ (n : Nat) (x3_22 : Int32) (x5_22 : Int32), Iv22 x3_5 x4_5 x3_22 x5_22 → mu22 x3_5 x4_5 x3_22 x5_22 < n → Gm p l e s m args below meth c D ads 1 23 8 po I A 22 [some (.inr (some 96)), some (.inl a1), some (.inl a2), some (.inl x3_22), some (.inl x4_5), some (.inl x5_22), none, none] [] := by
          intro n
          induction n with
          | zero => intro x3_22 x5_22 _ hn; exact absurd hn (Nat.not_lt_zero _)
          | succ n ih22 =>
            intro x3_22 x5_22 hv hn22
            replace hv := hb22 x3_22 x5_22 hv
            skip
            refine g_blk hC _ bX9_moves_22_29 (pc' := 29) (ls' := [some (.inr (some 96)), some (.inl a1), some (.inl a2), some (.inl x3_22), some (.inl x4_5), some (.inl x5_22), none, none]) (st' := [.inl a1, .inr (some 104), .inl x5_22]) (I' := I) rfl rfl ?_
            obtain ⟨hi, hv⟩ := hv
            refine g_iald hC dX9_moves_29 (rfl) hi ?_
            clear hi
            obtain ⟨hv1, hv2⟩ := hv
            refine g_cge hC dX9_moves_30 (tgt := 165) (by decide) (fun hc => ?_) (fun hc => ?_)
            · have hv := hv1 hc
              clear hv1 hv2 hc
              refine g_blk hC _ bX9_moves_165_168 (pc' := 168) (ls' := [some (.inr (some 96)), some (.inl a1), some (.inl a2), some (.inl x3_22), some (.inl (x4_5 + 1)), some (.inl x5_22), none, none]) (st' := []) (I' := I) rfl rfl ?_
              refine g_goto hC dX9_moves_168 (tgt := 5) (by decide) ?_
              exact g_weak (ls1 := [some (.inr (some 96)), some (.inl a1), some (.inl a2), some (.inl x3_22), some (.inl (x4_5 + 1)), none, none, none]) rfl (And.intro rfl (And.intro rfl (And.intro rfl (And.intro rfl (And.intro rfl trivial))))) (ih5 x3_22 (x4_5 + 1) hv.1 (Nat.lt_of_lt_of_le hv.2 (Nat.le_of_lt_succ hn5)))
            · have hv := hv2 hc
              clear hv1 hv2 hc
              refine g_blk hC _ bX9_moves_33_44 (pc' := 44) (ls' := [some (.inr (some 96)), some (.inl a1), some (.inl a2), some (.inl x3_22), some (.inl x4_5), some (.inl x5_22), none, none]) (st' := [.inl ((30 * a1) + x4_5), .inr (some 105)]) (I' := I) rfl rfl ?_
              obtain ⟨hi, hv⟩ := hv
              refine g_iald hC dX9_moves_44 (rfl) hi ?_
              clear hi
              refine g_blk hC _ bX9_moves_45_58 (pc' := 58) (ls' := [some (.inr (some 96)), some (.inl a1), some (.inl a2), some (.inl x3_22), some (.inl x4_5), some (.inl x5_22), some (.inl (A 105 ((30 * a1) + x4_5).toNatClampNeg)), none]) (st' := [.inl ((30 * a1) + x5_22), .inr (some 105)]) (I' := I) rfl rfl ?_
              obtain ⟨hi, hv⟩ := hv
              refine g_iald hC dX9_moves_58 (rfl) hi ?_
              clear hi
              refine g_blk hC _ bX9_moves_59_65 (pc' := 65) (ls' := [some (.inr (some 96)), some (.inl a1), some (.inl a2), some (.inl x3_22), some (.inl x4_5), some (.inl x5_22), some (.inl (A 105 ((30 * a1) + x4_5).toNatClampNeg)), some (.inl (A 105 ((30 * a1) + x5_22).toNatClampNeg))]) (st' := [.inl 9, .inl (A 105 ((30 * a1) + x4_5).toNatClampNeg)]) (I' := I) rfl rfl ?_
              obtain ⟨hv1, hv2⟩ := hv
              refine g_cgt hC dX9_moves_65 (tgt := 159) (by decide) (fun hc => ?_) (fun hc => ?_)
              · have hv := hv1 hc
                clear hv1 hv2 hc
                refine g_blk hC _ bX9_moves_159_162 (pc' := 162) (ls' := [some (.inr (some 96)), some (.inl a1), some (.inl a2), some (.inl x3_22), some (.inl x4_5), some (.inl (x5_22 + 1)), some (.inl (A 105 ((30 * a1) + x4_5).toNatClampNeg)), some (.inl (A 105 ((30 * a1) + x5_22).toNatClampNeg))]) (st' := []) (I' := I) rfl rfl ?_
                refine g_goto hC dX9_moves_162 (tgt := 22) (by decide) ?_
                exact g_weak (ls1 := [some (.inr (some 96)), some (.inl a1), some (.inl a2), some (.inl x3_22), some (.inl x4_5), some (.inl (x5_22 + 1)), none, none]) rfl (And.intro rfl (And.intro rfl (And.intro rfl (And.intro rfl (And.intro rfl (And.intro rfl trivial)))))) (ih22 x3_22 (x5_22 + 1) hv.1 (Nat.lt_of_lt_of_le hv.2 (Nat.le_of_lt_succ hn22)))
              · have hv := hv2 hc
                clear hv1 hv2 hc
                refine g_blk hC _ bX9_moves_68_72 (pc' := 72) (ls' := [some (.inr (some 96)), some (.inl a1), some (.inl a2), some (.inl x3_22), some (.inl x4_5), some (.inl x5_22), some (.inl (A 105 ((30 * a1) + x4_5).toNatClampNeg)), some (.inl (A 105 ((30 * a1) + x5_22).toNatClampNeg))]) (st' := [.inl 9, .inl (A 105 ((30 * a1) + x5_22).toNatClampNeg)]) (I' := I) rfl rfl ?_
                obtain ⟨hv1, hv2⟩ := hv
                refine g_cgt hC dX9_moves_72 (tgt := 159) (by decide) (fun hc => ?_) (fun hc => ?_)
                · have hv := hv1 hc
                  clear hv1 hv2 hc
                  refine g_blk hC _ bX9_moves_159_162 (pc' := 162) (ls' := [some (.inr (some 96)), some (.inl a1), some (.inl a2), some (.inl x3_22), some (.inl x4_5), some (.inl (x5_22 + 1)), some (.inl (A 105 ((30 * a1) + x4_5).toNatClampNeg)), some (.inl (A 105 ((30 * a1) + x5_22).toNatClampNeg))]) (st' := []) (I' := I) rfl rfl ?_
                  refine g_goto hC dX9_moves_162 (tgt := 22) (by decide) ?_
                  exact g_weak (ls1 := [some (.inr (some 96)), some (.inl a1), some (.inl a2), some (.inl x3_22), some (.inl x4_5), some (.inl (x5_22 + 1)), none, none]) rfl (And.intro rfl (And.intro rfl (And.intro rfl (And.intro rfl (And.intro rfl (And.intro rfl trivial)))))) (ih22 x3_22 (x5_22 + 1) hv.1 (Nat.lt_of_lt_of_le hv.2 (Nat.le_of_lt_succ hn22)))
                · have hv := hv2 hc
                  clear hv1 hv2 hc
                  refine g_blk hC _ bX9_moves_75_81 (pc' := 81) (ls' := [some (.inr (some 96)), some (.inl a1), some (.inl a2), some (.inl x3_22), some (.inl x4_5), some (.inl x5_22), some (.inl (A 105 ((30 * a1) + x4_5).toNatClampNeg)), some (.inl (A 105 ((30 * a1) + x5_22).toNatClampNeg))]) (st' := [.inl (A 105 ((30 * a1) + x4_5).toNatClampNeg), .inr (some 98)]) (I' := I) rfl rfl ?_
                  obtain ⟨hi, hv⟩ := hv
                  refine g_iald hC dX9_moves_81 (rfl) hi ?_
                  clear hi
                  refine g_blk hC _ bX9_moves_82_83 (pc' := 83) (ls' := [some (.inr (some 96)), some (.inl a1), some (.inl a2), some (.inl x3_22), some (.inl x4_5), some (.inl x5_22), some (.inl (A 105 ((30 * a1) + x4_5).toNatClampNeg)), some (.inl (A 105 ((30 * a1) + x5_22).toNatClampNeg))]) (st' := [.inl ((-1)), .inl (A 98 (A 105 ((30 * a1) + x4_5).toNatClampNeg).toNatClampNeg)]) (I' := I) rfl rfl ?_
                  obtain ⟨hv1, hv2⟩ := hv
                  refine g_ceq hC dX9_moves_83 (tgt := 159) (by decide) (fun hc => ?_) (fun hc => ?_)
                  · have hv := hv1 hc
                    clear hv1 hv2 hc
                    refine g_blk hC _ bX9_moves_159_162 (pc' := 162) (ls' := [some (.inr (some 96)), some (.inl a1), some (.inl a2), some (.inl x3_22), some (.inl x4_5), some (.inl (x5_22 + 1)), some (.inl (A 105 ((30 * a1) + x4_5).toNatClampNeg)), some (.inl (A 105 ((30 * a1) + x5_22).toNatClampNeg))]) (st' := []) (I' := I) rfl rfl ?_
                    refine g_goto hC dX9_moves_162 (tgt := 22) (by decide) ?_
                    exact g_weak (ls1 := [some (.inr (some 96)), some (.inl a1), some (.inl a2), some (.inl x3_22), some (.inl x4_5), some (.inl (x5_22 + 1)), none, none]) rfl (And.intro rfl (And.intro rfl (And.intro rfl (And.intro rfl (And.intro rfl (And.intro rfl trivial)))))) (ih22 x3_22 (x5_22 + 1) hv.1 (Nat.lt_of_lt_of_le hv.2 (Nat.le_of_lt_succ hn22)))
                  · have hv := hv2 hc
                    clear hv1 hv2 hc
                    refine g_blk hC _ bX9_moves_86_92 (pc' := 92) (ls' := [some (.inr (some 96)), some (.inl a1), some (.inl a2), some (.inl x3_22), some (.inl x4_5), some (.inl x5_22), some (.inl (A 105 ((30 * a1) + x4_5).toNatClampNeg)), some (.inl (A 105 ((30 * a1) + x5_22).toNatClampNeg))]) (st' := [.inl (A 105 ((30 * a1) + x4_5).toNatClampNeg), .inr (some 98)]) (I' := I) rfl rfl ?_
                    obtain ⟨hi, hv⟩ := hv
                    refine g_iald hC dX9_moves_92 (rfl) hi ?_
                    clear hi
                    refine g_blk hC _ bX9_moves_93_99 (pc' := 99) (ls' := [some (.inr (some 96)), some (.inl a1), some (.inl a2), some (.inl x3_22), some (.inl x4_5), some (.inl x5_22), some (.inl (A 105 ((30 * a1) + x4_5).toNatClampNeg)), some (.inl (A 105 ((30 * a1) + x5_22).toNatClampNeg))]) (st' := [.inl (A 105 ((30 * a1) + x5_22).toNatClampNeg), .inr (some 98), .inl (A 98 (A 105 ((30 * a1) + x4_5).toNatClampNeg).toNatClampNeg)]) (I' := I) rfl rfl ?_
                    obtain ⟨hi, hv⟩ := hv
                    refine g_iald hC dX9_moves_99 (rfl) hi ?_
                    clear hi
                    obtain ⟨hv1, hv2⟩ := hv
                    refine g_ceq hC dX9_moves_100 (tgt := 106) (by decide) (fun hc => ?_) (fun hc => ?_)
                    · have hv := hv1 hc
                      clear hv1 hv2 hc
                      refine g_blk hC _ bX9_moves_106_111 (pc' := 111) (ls' := [some (.inr (some 96)), some (.inl a1), some (.inl a2), some (.inl x3_22), some (.inl x4_5), some (.inl x5_22), some (.inl (A 105 ((30 * a1) + x4_5).toNatClampNeg)), some (.inl (A 105 ((30 * a1) + x5_22).toNatClampNeg))]) (st' := [.inl x4_5, .inl a2, .inl a1, .inr (some 96)]) (I' := I) rfl rfl ?_
                      obtain ⟨hp1, hv⟩ := hv
                      refine g_callV hC (c_X9_standOf l D ads I A a1 a2 x4_5 hp1) dX9_moves_111 nm_X9_standOf rfl rfl wl_X9_131 wi_X9_standOf ws_X9_standOf wn_X9 wc_X9_standOf ⟨by decide, by decide⟩ (as := [.inl a1, .inl a2, .inl x4_5]) (rest := []) rfl (Nat.le_of_ble_eq_true rfl) ⟨Nat.le_refl _, Nat.le_refl _⟩ (k_qI ?_)
                      refine g_blk hC _ bX9_moves_114_119 (pc' := 119) (ls' := [some (.inr (some 96)), some (.inl a1), some (.inl a2), some (.inl x3_22), some (.inl x4_5), some (.inl x5_22), some (.inl (A 105 ((30 * a1) + x4_5).toNatClampNeg)), some (.inl (A 105 ((30 * a1) + x5_22).toNatClampNeg))]) (st' := [.inl x5_22, .inl a2, .inl a1, .inr (some 96), .inl (stO (A 104) (A 110) a1 a2 x4_5)]) (I' := I) rfl rfl ?_
                      obtain ⟨hp2, hv⟩ := hv
                      refine g_callV hC (c_X9_standOf l D ads I A a1 a2 x5_22 hp2) dX9_moves_119 nm_X9_standOf rfl rfl wl_X9_131 wi_X9_standOf ws_X9_standOf wn_X9 wc_X9_standOf ⟨by decide, by decide⟩ (as := [.inl a1, .inl a2, .inl x5_22]) (rest := [.inl (stO (A 104) (A 110) a1 a2 x4_5)]) rfl (Nat.le_of_ble_eq_true rfl) ⟨Nat.le_refl _, Nat.le_refl _⟩ (k_qI ?_)
                      obtain ⟨hv1, hv2⟩ := hv
                      refine g_cge hC dX9_moves_122 (tgt := 129) (by decide) (fun hc => ?_) (fun hc => ?_)
                      · have hv := hv1 hc
                        clear hv1 hv2 hc
                        refine g_blk hC _ bX9_moves_129_136 (pc' := 136) (ls' := [some (.inr (some 96)), some (.inl a1), some (.inl a2), some (.inl x3_22), some (.inl x4_5), some (.inl x5_22), some (.inl (A 105 ((30 * a1) + x4_5).toNatClampNeg)), some (.inl (A 105 ((30 * a1) + x5_22).toNatClampNeg))]) (st' := [.inl (A 105 ((30 * a1) + x4_5).toNatClampNeg), .inr (some 99), .inl 0]) (I' := I) rfl rfl ?_
                        obtain ⟨hi, hv⟩ := hv
                        refine g_iald hC dX9_moves_136 (rfl) hi ?_
                        clear hi
                        refine g_blk hC _ bX9_moves_137_143 (pc' := 143) (ls' := [some (.inr (some 96)), some (.inl a1), some (.inl a2), some (.inl x3_22), some (.inl x4_5), some (.inl x5_22), some (.inl (A 105 ((30 * a1) + x4_5).toNatClampNeg)), some (.inl (A 105 ((30 * a1) + x5_22).toNatClampNeg))]) (st' := [.inl (A 105 ((30 * a1) + x5_22).toNatClampNeg), .inr (some 99), .inl (A 99 (A 105 ((30 * a1) + x4_5).toNatClampNeg).toNatClampNeg), .inl 0]) (I' := I) rfl rfl ?_
                        obtain ⟨hi, hv⟩ := hv
                        refine g_iald hC dX9_moves_143 (rfl) hi ?_
                        clear hi
                        obtain ⟨hv1, hv2⟩ := hv
                        refine g_cge hC dX9_moves_144 (tgt := 151) (by decide) (fun hc => ?_) (fun hc => ?_)
                        · have hv := hv1 hc
                          clear hv1 hv2 hc
                          refine g_blk hC _ bX9_moves_151_152 (pc' := 152) (ls' := [some (.inr (some 96)), some (.inl a1), some (.inl a2), some (.inl x3_22), some (.inl x4_5), some (.inl x5_22), some (.inl (A 105 ((30 * a1) + x4_5).toNatClampNeg)), some (.inl (A 105 ((30 * a1) + x5_22).toNatClampNeg))]) (st' := [.inl 0, .inl 0]) (I' := I) rfl rfl ?_
                          refine g_ceq hC dX9_moves_152 (tgt := 159) (by decide) (fun hc => ?_) (fun hc => absurd (by decide) hc)
                          refine g_blk hC _ bX9_moves_159_162 (pc' := 162) (ls' := [some (.inr (some 96)), some (.inl a1), some (.inl a2), some (.inl x3_22), some (.inl x4_5), some (.inl (x5_22 + 1)), some (.inl (A 105 ((30 * a1) + x4_5).toNatClampNeg)), some (.inl (A 105 ((30 * a1) + x5_22).toNatClampNeg))]) (st' := []) (I' := I) rfl rfl ?_
                          refine g_goto hC dX9_moves_162 (tgt := 22) (by decide) ?_
                          exact g_weak (ls1 := [some (.inr (some 96)), some (.inl a1), some (.inl a2), some (.inl x3_22), some (.inl x4_5), some (.inl (x5_22 + 1)), none, none]) rfl (And.intro rfl (And.intro rfl (And.intro rfl (And.intro rfl (And.intro rfl (And.intro rfl trivial)))))) (ih22 x3_22 (x5_22 + 1) hv.1 (Nat.lt_of_lt_of_le hv.2 (Nat.le_of_lt_succ hn22)))
                        · have hv := hv2 hc
                          clear hv1 hv2 hc
                          refine g_blk hC _ bX9_moves_147_148 (pc' := 148) (ls' := [some (.inr (some 96)), some (.inl a1), some (.inl a2), some (.inl x3_22), some (.inl x4_5), some (.inl x5_22), some (.inl (A 105 ((30 * a1) + x4_5).toNatClampNeg)), some (.inl (A 105 ((30 * a1) + x5_22).toNatClampNeg))]) (st' := [.inl 1, .inl 0]) (I' := I) rfl rfl ?_
                          refine g_goto hC dX9_moves_148 (tgt := 152) (by decide) ?_
                          refine g_ceq hC dX9_moves_152 (tgt := 159) (by decide) (fun hc => absurd hc (by decide)) (fun hc => ?_)
                          refine g_blk hC _ bX9_moves_155_162 (pc' := 162) (ls' := [some (.inr (some 96)), some (.inl a1), some (.inl a2), some (.inl (x3_22 + 1)), some (.inl x4_5), some (.inl (x5_22 + 1)), some (.inl (A 105 ((30 * a1) + x4_5).toNatClampNeg)), some (.inl (A 105 ((30 * a1) + x5_22).toNatClampNeg))]) (st' := []) (I' := I) rfl rfl ?_
                          refine g_goto hC dX9_moves_162 (tgt := 22) (by decide) ?_
                          exact g_weak (ls1 := [some (.inr (some 96)), some (.inl a1), some (.inl a2), some (.inl (x3_22 + 1)), some (.inl x4_5), some (.inl (x5_22 + 1)), none, none]) rfl (And.intro rfl (And.intro rfl (And.intro rfl (And.intro rfl (And.intro rfl (And.intro rfl trivial)))))) (ih22 (x3_22 + 1) (x5_22 + 1) hv.1 (Nat.lt_of_lt_of_le hv.2 (Nat.le_of_lt_succ hn22)))
                      · have hv := hv2 hc
                        clear hv1 hv2 hc
                        refine g_blk hC _ bX9_moves_125_126 (pc' := 126) (ls' := [some (.inr (some 96)), some (.inl a1), some (.inl a2), some (.inl x3_22), some (.inl x4_5), some (.inl x5_22), some (.inl (A 105 ((30 * a1) + x4_5).toNatClampNeg)), some (.inl (A 105 ((30 * a1) + x5_22).toNatClampNeg))]) (st' := [.inl 1]) (I' := I) rfl rfl ?_
                        refine g_goto hC dX9_moves_126 (tgt := 130) (by decide) ?_
                        refine g_blk hC _ bX9_moves_130_136 (pc' := 136) (ls' := [some (.inr (some 96)), some (.inl a1), some (.inl a2), some (.inl x3_22), some (.inl x4_5), some (.inl x5_22), some (.inl (A 105 ((30 * a1) + x4_5).toNatClampNeg)), some (.inl (A 105 ((30 * a1) + x5_22).toNatClampNeg))]) (st' := [.inl (A 105 ((30 * a1) + x4_5).toNatClampNeg), .inr (some 99), .inl 1]) (I' := I) rfl rfl ?_
                        obtain ⟨hi, hv⟩ := hv
                        refine g_iald hC dX9_moves_136 (rfl) hi ?_
                        clear hi
                        refine g_blk hC _ bX9_moves_137_143 (pc' := 143) (ls' := [some (.inr (some 96)), some (.inl a1), some (.inl a2), some (.inl x3_22), some (.inl x4_5), some (.inl x5_22), some (.inl (A 105 ((30 * a1) + x4_5).toNatClampNeg)), some (.inl (A 105 ((30 * a1) + x5_22).toNatClampNeg))]) (st' := [.inl (A 105 ((30 * a1) + x5_22).toNatClampNeg), .inr (some 99), .inl (A 99 (A 105 ((30 * a1) + x4_5).toNatClampNeg).toNatClampNeg), .inl 1]) (I' := I) rfl rfl ?_
                        obtain ⟨hi, hv⟩ := hv
                        refine g_iald hC dX9_moves_143 (rfl) hi ?_
                        clear hi
                        obtain ⟨hv1, hv2⟩ := hv
                        refine g_cge hC dX9_moves_144 (tgt := 151) (by decide) (fun hc => ?_) (fun hc => ?_)
                        · have hv := hv1 hc
                          clear hv1 hv2 hc
                          refine g_blk hC _ bX9_moves_151_152 (pc' := 152) (ls' := [some (.inr (some 96)), some (.inl a1), some (.inl a2), some (.inl x3_22), some (.inl x4_5), some (.inl x5_22), some (.inl (A 105 ((30 * a1) + x4_5).toNatClampNeg)), some (.inl (A 105 ((30 * a1) + x5_22).toNatClampNeg))]) (st' := [.inl 0, .inl 1]) (I' := I) rfl rfl ?_
                          refine g_ceq hC dX9_moves_152 (tgt := 159) (by decide) (fun hc => absurd hc (by decide)) (fun hc => ?_)
                          refine g_blk hC _ bX9_moves_155_162 (pc' := 162) (ls' := [some (.inr (some 96)), some (.inl a1), some (.inl a2), some (.inl (x3_22 + 1)), some (.inl x4_5), some (.inl (x5_22 + 1)), some (.inl (A 105 ((30 * a1) + x4_5).toNatClampNeg)), some (.inl (A 105 ((30 * a1) + x5_22).toNatClampNeg))]) (st' := []) (I' := I) rfl rfl ?_
                          refine g_goto hC dX9_moves_162 (tgt := 22) (by decide) ?_
                          exact g_weak (ls1 := [some (.inr (some 96)), some (.inl a1), some (.inl a2), some (.inl (x3_22 + 1)), some (.inl x4_5), some (.inl (x5_22 + 1)), none, none]) rfl (And.intro rfl (And.intro rfl (And.intro rfl (And.intro rfl (And.intro rfl (And.intro rfl trivial)))))) (ih22 (x3_22 + 1) (x5_22 + 1) hv.1 (Nat.lt_of_lt_of_le hv.2 (Nat.le_of_lt_succ hn22)))
                        · have hv := hv2 hc
                          clear hv1 hv2 hc
                          refine g_blk hC _ bX9_moves_147_148 (pc' := 148) (ls' := [some (.inr (some 96)), some (.inl a1), some (.inl a2), some (.inl x3_22), some (.inl x4_5), some (.inl x5_22), some (.inl (A 105 ((30 * a1) + x4_5).toNatClampNeg)), some (.inl (A 105 ((30 * a1) + x5_22).toNatClampNeg))]) (st' := [.inl 1, .inl 1]) (I' := I) rfl rfl ?_
                          refine g_goto hC dX9_moves_148 (tgt := 152) (by decide) ?_
                          refine g_ceq hC dX9_moves_152 (tgt := 159) (by decide) (fun hc => ?_) (fun hc => absurd (by decide) hc)
                          refine g_blk hC _ bX9_moves_159_162 (pc' := 162) (ls' := [some (.inr (some 96)), some (.inl a1), some (.inl a2), some (.inl x3_22), some (.inl x4_5), some (.inl (x5_22 + 1)), some (.inl (A 105 ((30 * a1) + x4_5).toNatClampNeg)), some (.inl (A 105 ((30 * a1) + x5_22).toNatClampNeg))]) (st' := []) (I' := I) rfl rfl ?_
                          refine g_goto hC dX9_moves_162 (tgt := 22) (by decide) ?_
                          exact g_weak (ls1 := [some (.inr (some 96)), some (.inl a1), some (.inl a2), some (.inl x3_22), some (.inl x4_5), some (.inl (x5_22 + 1)), none, none]) rfl (And.intro rfl (And.intro rfl (And.intro rfl (And.intro rfl (And.intro rfl (And.intro rfl trivial)))))) (ih22 x3_22 (x5_22 + 1) hv.1 (Nat.lt_of_lt_of_le hv.2 (Nat.le_of_lt_succ hn22)))
                    · have hv := hv2 hc
                      clear hv1 hv2 hc
                      refine g_goto hC dX9_moves_103 (tgt := 159) (by decide) ?_
                      refine g_blk hC _ bX9_moves_159_162 (pc' := 162) (ls' := [some (.inr (some 96)), some (.inl a1), some (.inl a2), some (.inl x3_22), some (.inl x4_5), some (.inl (x5_22 + 1)), some (.inl (A 105 ((30 * a1) + x4_5).toNatClampNeg)), some (.inl (A 105 ((30 * a1) + x5_22).toNatClampNeg))]) (st' := []) (I' := I) rfl rfl ?_
                      refine g_goto hC dX9_moves_162 (tgt := 22) (by decide) ?_
                      exact g_weak (ls1 := [some (.inr (some 96)), some (.inl a1), some (.inl a2), some (.inl x3_22), some (.inl x4_5), some (.inl (x5_22 + 1)), none, none]) rfl (And.intro rfl (And.intro rfl (And.intro rfl (And.intro rfl (And.intro rfl (And.intro rfl trivial)))))) (ih22 x3_22 (x5_22 + 1) hv.1 (Nat.lt_of_lt_of_le hv.2 (Nat.le_of_lt_succ hn22)))
        exact g_weak (ls1 := [some (.inr (some 96)), some (.inl a1), some (.inl a2), some (.inl x3_5), some (.inl x4_5), some (.inl (x4_5 + 1)), none, none]) rfl (And.intro rfl (And.intro rfl (And.intro rfl (And.intro rfl (And.intro rfl (And.intro rfl trivial)))))) (L22 _ x3_5 (x4_5 + 1) hi22 (Nat.lt_succ_self _))
  exact g_weak (ls1 := [some (.inr (some 96)), some (.inl a1), some (.inl a2), some (.inl 0), some (.inl 0), none, none, none]) rfl (And.intro rfl (And.intro rfl (And.intro rfl (And.intro rfl (And.intro rfl trivial))))) (L5 _ 0 0 hi5 (Nat.lt_succ_self _))
