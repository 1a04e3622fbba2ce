/-! the constructors -/
theorem bX8_init_0_1 : okB cX8_init RX8 0 [(5, 0, 0, 0, 0)] := And.intro ⟨_, dX8_init_0, rfl⟩ trivial
theorem bX8_init_4_5 : okB cX8_init RX8 4 [(5, 0, 0, 0, 0)] := And.intro ⟨_, dX8_init_4, rfl⟩ trivial
theorem bX8_init_8_9 : okB cX8_init RX8 8 [(20, 0, 0, 0, 0)] := And.intro dX8_init_8 trivial
theorem bX2_init_0_1 : okB cX2_init RX2 0 [(5, 0, 0, 0, 0)] := And.intro ⟨_, dX2_init_0, rfl⟩ trivial
theorem bX2_init_4_7 : okB cX2_init RX2 4 [(5, 0, 0, 0, 0), (1, 0, 0, 0, 100)] := And.intro ⟨_, dX2_init_4, rfl⟩ (And.intro ⟨_, dX2_init_5, by decide⟩ trivial)
theorem bX2_init_12_17 : okB cX2_init RX2 12 [(5, 0, 0, 0, 0), (0, 0, 0, 0, 0), (24, 15, 2, 1, 0)] := And.intro ⟨_, dX2_init_12, rfl⟩ (And.intro ⟨_, dX2_init_13, by decide⟩ (And.intro ⟨dX2_init_14, fl_X2_15, rfl, rfl⟩ trivial))
set_option maxHeartbeats 8000000 in
set_option maxRecDepth 100000 in
theorem kG_X2_init (l : Launch) (D : va_G) (ads : AD) (I A : HI) (hZ : ZA 2 I A) (po : HI → HI → Prop) (hv : po (up2 I 1 1 0) A) : CtG l yX2_init cX2_init 1 1 20 1 100 D ads z2 [.inr (some 1)] I A z4 po := by
  refine CtG_of (by decide) rfl (Nat.le_of_ble_eq_true rfl) ?_
  intro p e s m args below meth c hC hE hin hr
  replace hC : CX p s m args meth c cX2_init 1 RX2 (AdS ads s.heap.size) := hC
  have key : ∀ nw : AD, G p l e { frames := 1, cells := 1, slots := 100, locals := 20 } s m args below meth c (MQ below (CPostG D ads z4 s.heap.size po) args s 1 100 (AdS ads s.heap.size)) D (AdS ads s.heap.size) 1 0 0 (ads ++ nw) z2 I A 0 [some (.inr (some 1))] [] := by
    intro nw
    refine g_blk hC _ bX2_init_0_1 (pc' := 1) (ls' := [some (.inr (some 1))]) (st' := [.inr (some 1)]) (I' := I) rfl rfl ?_
    refine g_obj hC wo_X2_3 wo_i wo_c dX2_init_1 (by decide) (Nat.le_of_ble_eq_true rfl) ?_
    refine g_blk hC _ bX2_init_4_7 (pc' := 7) (ls' := [some (.inr (some 1))]) (st' := [.inl 100, .inr (some 1)]) (I' := I) rfl rfl ?_
    refine h_newa hC (N := 100) wa_int (by decide) (by decide) (by decide) (n := 2) (by decide +kernel) (by exact hZ.2 2 (by decide)) (by decide +kernel) rfl (by decide) (by decide) dX2_init_7 (sh' := z3) rfl (fun nw => ?_)
    refine h_putR hC hin (fs := [some none, none]) (by decide +kernel) (by decide) (by decide) fl_X2_9 rfl rfl ⟨_, by decide +kernel, ty_arr⟩ dX2_init_9 (sh' := z4) rfl ?_
    refine g_blk hC _ bX2_init_12_17 (pc' := 17) (ls' := [some (.inr (some 1))]) (st' := []) (I' := up2 I 1 1 0) rfl rfl ?_
    exact g_retG hC hr dX2_init_17 hv
  have k0 := key []
  rw [List.append_nil] at k0
  exact k0
theorem cG_X2_init (l : Launch) (D : va_G) (ads : AD) (I A : HI) (hZ : ZA 2 I A) : CtG l yX2_init cX2_init 1 1 20 1 100 D ads z2 [.inr (some 1)] I A z4 (fun I9 A9 => I9 = up2 I 1 1 0 ∧ A9 = A) := kG_X2_init l D ads I A hZ _ ⟨rfl, rfl⟩
theorem bX8_init_15_16 : okB cX8_init RX8 15 [(5, 0, 0, 0, 0)] := And.intro ⟨_, dX8_init_15, rfl⟩ trivial
theorem bX8_init_19_24 : okB cX8_init RX8 19 [(20, 0, 0, 0, 0), (5, 0, 0, 0, 0), (23, 12, 8, 0, 0)] := And.intro dX8_init_19 (And.intro ⟨_, dX8_init_20, rfl⟩ (And.intro ⟨dX8_init_21, fl_X8_12⟩ trivial))
theorem bX5_init_0_1 : okB cX5_init RX5 0 [(5, 0, 0, 0, 0)] := And.intro ⟨_, dX5_init_0, rfl⟩ trivial
theorem bX5_init_4_7 : okB cX5_init RX5 4 [(5, 0, 0, 0, 0), (1, 0, 0, 0, 10)] := And.intro ⟨_, dX5_init_4, rfl⟩ (And.intro ⟨_, dX5_init_5, by decide⟩ trivial)
theorem bX5_init_12_20 : okB cX5_init RX5 12 [(5, 0, 0, 0, 0), (0, 0, 0, 0, 0), (24, 15, 5, 2, 0), (5, 0, 0, 0, 0), (1, 0, 0, 0, 11)] := And.intro ⟨_, dX5_init_12, rfl⟩ (And.intro ⟨_, dX5_init_13, by decide⟩ (And.intro ⟨dX5_init_14, fl_X5_15, rfl, rfl⟩ (And.intro ⟨_, dX5_init_17, rfl⟩ (And.intro ⟨_, dX5_init_18, by decide⟩ trivial))))
theorem bX5_init_25_28 : okB cX5_init RX5 25 [(5, 0, 0, 0, 0), (1, 0, 0, 0, 16)] := And.intro ⟨_, dX5_init_25, rfl⟩ (And.intro ⟨_, dX5_init_26, by decide⟩ trivial)
theorem bX5_init_33_36 : okB cX5_init RX5 33 [(5, 0, 0, 0, 0), (1, 0, 0, 0, 16)] := And.intro ⟨_, dX5_init_33, rfl⟩ (And.intro ⟨_, dX5_init_34, by decide⟩ trivial)
theorem bX5_init_41_45 : okB cX5_init RX5 41 [(5, 0, 0, 0, 0), (2, 0, 0, 0, 1024)] := And.intro ⟨_, dX5_init_41, rfl⟩ (And.intro ⟨_, dX5_init_42, by decide⟩ trivial)
theorem bX5_init_50_53 : okB cX5_init RX5 50 [(5, 0, 0, 0, 0), (1, 0, 0, 0, 10)] := And.intro ⟨_, dX5_init_50, rfl⟩ (And.intro ⟨_, dX5_init_51, by decide⟩ trivial)
theorem bX5_init_58_61 : okB cX5_init RX5 58 [(5, 0, 0, 0, 0), (1, 0, 0, 0, 10)] := And.intro ⟨_, dX5_init_58, rfl⟩ (And.intro ⟨_, dX5_init_59, by decide⟩ trivial)
theorem bX5_init_66_69 : okB cX5_init RX5 66 [(5, 0, 0, 0, 0), (1, 0, 0, 0, 10)] := And.intro ⟨_, dX5_init_66, rfl⟩ (And.intro ⟨_, dX5_init_67, by decide⟩ trivial)
theorem bX5_init_74_77 : okB cX5_init RX5 74 [(5, 0, 0, 0, 0), (1, 0, 0, 0, 100)] := And.intro ⟨_, dX5_init_74, rfl⟩ (And.intro ⟨_, dX5_init_75, by decide⟩ trivial)
theorem bX5_init_82_99 : okB cX5_init RX5 82 [(5, 0, 0, 0, 0), (0, 0, 0, 0, 0), (24, 43, 5, 11, 0), (5, 0, 0, 0, 0), (0, 0, 0, 0, 0), (24, 46, 5, 12, 0), (5, 0, 0, 0, 0), (0, 0, 0, 0, 0), (24, 49, 5, 13, 0), (5, 0, 0, 0, 0), (5, 1, 0, 0, 0)] := And.intro ⟨_, dX5_init_82, rfl⟩ (And.intro ⟨_, dX5_init_83, by decide⟩ (And.intro ⟨dX5_init_84, fl_X5_43, rfl, rfl⟩ (And.intro ⟨_, dX5_init_87, rfl⟩ (And.intro ⟨_, dX5_init_88, by decide⟩ (And.intro ⟨dX5_init_89, fl_X5_46, rfl, rfl⟩ (And.intro ⟨_, dX5_init_92, rfl⟩ (And.intro ⟨_, dX5_init_93, by decide⟩ (And.intro ⟨dX5_init_94, fl_X5_49, rfl, rfl⟩ (And.intro ⟨_, dX5_init_97, rfl⟩ (And.intro ⟨_, dX5_init_98, rfl⟩ trivial))))))))))
set_option maxHeartbeats 8000000 in
set_option maxRecDepth 100000 in
theorem kG_X5_init (l : Launch) (D : va_G) (ads : AD) (I A : HI) (hZ : ZA 4 I A) (po : HI → HI → Prop) (hv : po (up2 (up2 (up2 (up2 I 3 2 0) 3 11 0) 3 12 0) 3 13 0) A) : CtG l yX5_init cX5_init 2 1 20 9 1207 D ads z6 [.inr (some 3), .inr (some 1)] I A z25 po := by
  refine CtG_of (by decide) rfl (Nat.le_of_ble_eq_true rfl) ?_
  intro p e s m args below meth c hC hE hin hr
  replace hC : CX p s m args meth c cX5_init 2 RX5 (AdS ads s.heap.size) := hC
  have key : ∀ nw : AD, G p l e { frames := 1, cells := 9, slots := 1207, locals := 20 } s m args below meth c (MQ below (CPostG D ads z25 s.heap.size po) args s 9 1207 (AdS ads s.heap.size)) D (AdS ads s.heap.size) 2 0 0 (ads ++ nw) z6 I A 0 [some (.inr (some 3)), some (.inr (some 1))] [] := by
    intro nw
    refine g_blk hC _ bX5_init_0_1 (pc' := 1) (ls' := [some (.inr (some 3)), some (.inr (some 1))]) (st' := [.inr (some 3)]) (I' := I) rfl rfl ?_
    refine g_obj hC wo_X5_3 wo_i wo_c dX5_init_1 (by decide) (Nat.le_of_ble_eq_true rfl) ?_
    refine g_blk hC _ bX5_init_4_7 (pc' := 7) (ls' := [some (.inr (some 3)), some (.inr (some 1))]) (st' := [.inl 10, .inr (some 3)]) (I' := I) rfl rfl ?_
    refine h_newa hC (N := 10) wa_int (by decide) (by decide) (by decide) (n := 4) (by decide +kernel) (by exact hZ.2 4 (by decide)) (by decide +kernel) rfl (by decide) (by decide) dX5_init_7 (sh' := z7) rfl (fun nw => ?_)
    refine h_putR hC hin (fs := [some none, some none, none, some none, some none, some none, some none, some none, some none, some none, some none, none, none, none]) (by decide +kernel) (by decide) (by decide) fl_X5_9 rfl rfl ⟨_, by decide +kernel, ty_arr⟩ dX5_init_9 (sh' := z8) rfl ?_
    refine g_blk hC _ bX5_init_12_20 (pc' := 20) (ls' := [some (.inr (some 3)), some (.inr (some 1))]) (st' := [.inl 11, .inr (some 3)]) (I' := up2 I 3 2 0) rfl rfl ?_
    refine h_newa hC (N := 11) wa_int (by decide) (by decide) (by decide) (n := 5) (by decide +kernel) (by exact hZ.2 5 (by decide)) (by decide +kernel) rfl (by decide) (by decide) dX5_init_20 (sh' := z9) rfl (fun nw => ?_)
    refine h_putR hC hin (fs := [some none, some (some 4), none, some none, some none, some none, some none, some none, some none, some none, some none, none, none, none]) (by decide +kernel) (by decide) (by decide) fl_X5_19 rfl rfl ⟨_, by decide +kernel, ty_arr⟩ dX5_init_22 (sh' := z10) rfl ?_
    refine g_blk hC _ bX5_init_25_28 (pc' := 28) (ls' := [some (.inr (some 3)), some (.inr (some 1))]) (st' := [.inl 16, .inr (some 3)]) (I' := up2 I 3 2 0) rfl rfl ?_
    refine h_newa hC (N := 16) wa_int (by decide) (by decide) (by decide) (n := 6) (by decide +kernel) (by exact hZ.2 6 (by decide)) (by decide +kernel) rfl (by decide) (by decide) dX5_init_28 (sh' := z11) rfl (fun nw => ?_)
    refine h_putR hC hin (fs := [some none, some (some 4), none, some (some 5), some none, some none, some none, some none, some none, some none, some none, none, none, none]) (by decide +kernel) (by decide) (by decide) fl_X5_22 rfl rfl ⟨_, by decide +kernel, ty_arr⟩ dX5_init_30 (sh' := z12) rfl ?_
    refine g_blk hC _ bX5_init_33_36 (pc' := 36) (ls' := [some (.inr (some 3)), some (.inr (some 1))]) (st' := [.inl 16, .inr (some 3)]) (I' := up2 I 3 2 0) rfl rfl ?_
    refine h_newa hC (N := 16) wa_int (by decide) (by decide) (by decide) (n := 7) (by decide +kernel) (by exact hZ.2 7 (by decide)) (by decide +kernel) rfl (by decide) (by decide) dX5_init_36 (sh' := z13) rfl (fun nw => ?_)
    refine h_putR hC hin (fs := [some none, some (some 4), none, some (some 5), some (some 6), some none, some none, some none, some none, some none, some none, none, none, none]) (by decide +kernel) (by decide) (by decide) fl_X5_25 rfl rfl ⟨_, by decide +kernel, ty_arr⟩ dX5_init_38 (sh' := z14) rfl ?_
    refine g_blk hC _ bX5_init_41_45 (pc' := 45) (ls' := [some (.inr (some 3)), some (.inr (some 1))]) (st' := [.inl 1024, .inr (some 3)]) (I' := up2 I 3 2 0) rfl rfl ?_
    refine h_newa hC (N := 1024) wa_int (by decide) (by decide) (by decide) (n := 8) (by decide +kernel) (by exact hZ.2 8 (by decide)) (by decide +kernel) rfl (by decide) (by decide) dX5_init_45 (sh' := z15) rfl (fun nw => ?_)
    refine h_putR hC hin (fs := [some none, some (some 4), none, some (some 5), some (some 6), some (some 7), some none, some none, some none, some none, some none, none, none, none]) (by decide +kernel) (by decide) (by decide) fl_X5_28 rfl rfl ⟨_, by decide +kernel, ty_arr⟩ dX5_init_47 (sh' := z16) rfl ?_
    refine g_blk hC _ bX5_init_50_53 (pc' := 53) (ls' := [some (.inr (some 3)), some (.inr (some 1))]) (st' := [.inl 10, .inr (some 3)]) (I' := up2 I 3 2 0) rfl rfl ?_
    refine h_newa hC (N := 10) wa_int (by decide) (by decide) (by decide) (n := 9) (by decide +kernel) (by exact hZ.2 9 (by decide)) (by decide +kernel) rfl (by decide) (by decide) dX5_init_53 (sh' := z17) rfl (fun nw => ?_)
    refine h_putR hC hin (fs := [some none, some (some 4), none, some (some 5), some (some 6), some (some 7), some (some 8), some none, some none, some none, some none, none, none, none]) (by decide +kernel) (by decide) (by decide) fl_X5_31 rfl rfl ⟨_, by decide +kernel, ty_arr⟩ dX5_init_55 (sh' := z18) rfl ?_
    refine g_blk hC _ bX5_init_58_61 (pc' := 61) (ls' := [some (.inr (some 3)), some (.inr (some 1))]) (st' := [.inl 10, .inr (some 3)]) (I' := up2 I 3 2 0) rfl rfl ?_
    refine h_newa hC (N := 10) wa_int (by decide) (by decide) (by decide) (n := 10) (by decide +kernel) (by exact hZ.2 10 (by decide)) (by decide +kernel) rfl (by decide) (by decide) dX5_init_61 (sh' := z19) rfl (fun nw => ?_)
    refine h_putR hC hin (fs := [some none, some (some 4), none, some (some 5), some (some 6), some (some 7), some (some 8), some (some 9), some none, some none, some none, none, none, none]) (by decide +kernel) (by decide) (by decide) fl_X5_34 rfl rfl ⟨_, by decide +kernel, ty_arr⟩ dX5_init_63 (sh' := z20) rfl ?_
    refine g_blk hC _ bX5_init_66_69 (pc' := 69) (ls' := [some (.inr (some 3)), some (.inr (some 1))]) (st' := [.inl 10, .inr (some 3)]) (I' := up2 I 3 2 0) rfl rfl ?_
    refine h_newa hC (N := 10) wa_int (by decide) (by decide) (by decide) (n := 11) (by decide +kernel) (by exact hZ.2 11 (by decide)) (by decide +kernel) rfl (by decide) (by decide) dX5_init_69 (sh' := z21) rfl (fun nw => ?_)
    refine h_putR hC hin (fs := [some none, some (some 4), none, some (some 5), some (some 6), some (some 7), some (some 8), some (some 9), some (some 10), some none, some none, none, none, none]) (by decide +kernel) (by decide) (by decide) fl_X5_37 rfl rfl ⟨_, by decide +kernel, ty_arr⟩ dX5_init_71 (sh' := z22) rfl ?_
    refine g_blk hC _ bX5_init_74_77 (pc' := 77) (ls' := [some (.inr (some 3)), some (.inr (some 1))]) (st' := [.inl 100, .inr (some 3)]) (I' := up2 I 3 2 0) rfl rfl ?_
    refine h_newa hC (N := 100) wa_int (by decide) (by decide) (by decide) (n := 12) (by decide +kernel) (by exact hZ.2 12 (by decide)) (by decide +kernel) rfl (by decide) (by decide) dX5_init_77 (sh' := z23) rfl (fun nw => ?_)
    refine h_putR hC hin (fs := [some none, some (some 4), none, some (some 5), some (some 6), some (some 7), some (some 8), some (some 9), some (some 10), some (some 11), some none, none, none, none]) (by decide +kernel) (by decide) (by decide) fl_X5_40 rfl rfl ⟨_, by decide +kernel, ty_arr⟩ dX5_init_79 (sh' := z24) rfl ?_
    refine g_blk hC _ bX5_init_82_99 (pc' := 99) (ls' := [some (.inr (some 3)), some (.inr (some 1))]) (st' := [.inr (some 1), .inr (some 3)]) (I' := up2 (up2 (up2 (up2 I 3 2 0) 3 11 0) 3 12 0) 3 13 0) rfl rfl ?_
    refine h_putR hC hin (fs := [some none, some (some 4), none, some (some 5), some (some 6), some (some 7), some (some 8), some (some 9), some (some 10), some (some 11), some (some 12), none, none, none]) (by decide +kernel) (by decide) (by decide) fl_X5_52 rfl rfl ⟨_, by decide +kernel, ty_obj (C := "RibbonSetter$Flows")⟩ dX5_init_99 (sh' := z25) rfl ?_
    exact g_retG hC hr dX5_init_102 hv
  have k0 := key []
  rw [List.append_nil] at k0
  exact k0
theorem cG_X5_init (l : Launch) (D : va_G) (ads : AD) (I A : HI) (hZ : ZA 4 I A) : CtG l yX5_init cX5_init 2 1 20 9 1207 D ads z6 [.inr (some 3), .inr (some 1)] I A z25 (fun I9 A9 => I9 = up2 (up2 (up2 (up2 I 3 2 0) 3 11 0) 3 12 0) 3 13 0 ∧ A9 = A) := kG_X5_init l D ads I A hZ _ ⟨rfl, rfl⟩
theorem bX8_init_30_31 : okB cX8_init RX8 30 [(5, 0, 0, 0, 0)] := And.intro ⟨_, dX8_init_30, rfl⟩ trivial
theorem bX8_init_34_39 : okB cX8_init RX8 34 [(20, 0, 0, 0, 0), (5, 0, 0, 0, 0), (23, 21, 8, 1, 0)] := And.intro dX8_init_34 (And.intro ⟨_, dX8_init_35, rfl⟩ (And.intro ⟨dX8_init_36, fl_X8_21⟩ trivial))
theorem bX7_init_0_1 : okB cX7_init RX7 0 [(5, 0, 0, 0, 0)] := And.intro ⟨_, dX7_init_0, rfl⟩ trivial
theorem bX7_init_4_9 : okB cX7_init RX7 4 [(5, 0, 0, 0, 0), (1, 0, 0, 0, 10), (1, 0, 0, 0, 26)] := And.intro ⟨_, dX7_init_4, rfl⟩ (And.intro ⟨_, dX7_init_5, by decide⟩ (And.intro ⟨_, dX7_init_7, by decide⟩ trivial))
theorem bX7_init_16_19 : okB cX7_init RX7 16 [(5, 0, 0, 0, 0), (1, 0, 0, 0, 11)] := And.intro ⟨_, dX7_init_16, rfl⟩ (And.intro ⟨_, dX7_init_17, by decide⟩ trivial)
theorem bX7_init_24_26 : okB cX7_init RX7 24 [(5, 0, 0, 0, 0), (5, 1, 0, 0, 0)] := And.intro ⟨_, dX7_init_24, rfl⟩ (And.intro ⟨_, dX7_init_25, rfl⟩ trivial)
set_option maxHeartbeats 8000000 in
set_option maxRecDepth 100000 in
theorem kG_X7_init (l : Launch) (D : va_G) (ads : AD) (I A : HI) (hZ : ZA 14 I A) (po : HI → HI → Prop) (hv : po I A) : CtG l yX7_init cX7_init 2 1 20 12 281 D ads z27 [.inr (some 13), .inr (some 3)] I A z32 po := by
  refine CtG_of (by decide) rfl (Nat.le_of_ble_eq_true rfl) ?_
  intro p e s m args below meth c hC hE hin hr
  replace hC : CX p s m args meth c cX7_init 2 RX7 (AdS ads s.heap.size) := hC
  have key : ∀ nw : AD, G p l e { frames := 1, cells := 12, slots := 281, locals := 20 } s m args below meth c (MQ below (CPostG D ads z32 s.heap.size po) args s 12 281 (AdS ads s.heap.size)) D (AdS ads s.heap.size) 2 0 0 (ads ++ nw) z27 I A 0 [some (.inr (some 13)), some (.inr (some 3))] [] := by
    intro nw
    refine g_blk hC _ bX7_init_0_1 (pc' := 1) (ls' := [some (.inr (some 13)), some (.inr (some 3))]) (st' := [.inr (some 13)]) (I' := I) rfl rfl ?_
    refine g_obj hC wo_X7_3 wo_i wo_c dX7_init_1 (by decide) (Nat.le_of_ble_eq_true rfl) ?_
    refine g_blk hC _ bX7_init_4_9 (pc' := 9) (ls' := [some (.inr (some 13)), some (.inr (some 3))]) (st' := [.inl 26, .inl 10, .inr (some 13)]) (I' := I) rfl rfl ?_
    refine h_mna hC hE (N := 10) (K := 26) wk2_X7_9 wa_int (by decide) (by decide) (by decide) (by decide) (by decide) (by decide) (n := 14) (by decide +kernel) (fun i => by exact hZ.2 _ (by omega)) (by decide +kernel) rfl (by decide) (by decide) dX7_init_9 (sh' := z28) (by decide +kernel) (fun nw => ?_)
    refine h_putR hC hin (fs := [some none, some none, some none]) (by decide +kernel) (by decide) (by decide) fl_X7_11 rfl rfl ⟨_, by decide +kernel, ty_arr2⟩ dX7_init_13 (sh' := z29) rfl ?_
    refine g_blk hC _ bX7_init_16_19 (pc' := 19) (ls' := [some (.inr (some 13)), some (.inr (some 3))]) (st' := [.inl 11, .inr (some 13)]) (I' := I) rfl rfl ?_
    refine h_newa hC (N := 11) wa_int (by decide) (by decide) (by decide) (n := 25) (by decide +kernel) (by exact hZ.2 25 (by decide)) (by decide +kernel) rfl (by decide) (by decide) dX7_init_19 (sh' := z30) rfl (fun nw => ?_)
    refine h_putR hC hin (fs := [some none, some (some 14), some none]) (by decide +kernel) (by decide) (by decide) fl_X7_16 rfl rfl ⟨_, by decide +kernel, ty_arr⟩ dX7_init_21 (sh' := z31) rfl ?_
    refine g_blk hC _ bX7_init_24_26 (pc' := 26) (ls' := [some (.inr (some 13)), some (.inr (some 3))]) (st' := [.inr (some 3), .inr (some 13)]) (I' := I) rfl rfl ?_
    refine h_putR hC hin (fs := [some none, some (some 14), some (some 25)]) (by decide +kernel) (by decide) (by decide) fl_X7_20 rfl rfl ⟨_, by decide +kernel, ty_obj (C := "RibbonSetter$Ranking")⟩ dX7_init_26 (sh' := z32) rfl ?_
    exact g_retG hC hr dX7_init_29 hv
  have k0 := key []
  rw [List.append_nil] at k0
  exact k0
theorem cG_X7_init (l : Launch) (D : va_G) (ads : AD) (I A : HI) (hZ : ZA 14 I A) : CtG l yX7_init cX7_init 2 1 20 12 281 D ads z27 [.inr (some 13), .inr (some 3)] I A z32 (fun I9 A9 => I9 = I ∧ A9 = A) := kG_X7_init l D ads I A hZ _ ⟨rfl, rfl⟩
theorem bX8_init_45_46 : okB cX8_init RX8 45 [(5, 0, 0, 0, 0)] := And.intro ⟨_, dX8_init_45, rfl⟩ trivial
theorem bX8_init_49_50 : okB cX8_init RX8 49 [(20, 0, 0, 0, 0)] := And.intro dX8_init_49 trivial
theorem bX4_init_0_1 : okB cX4_init RX4 0 [(5, 0, 0, 0, 0)] := And.intro ⟨_, dX4_init_0, rfl⟩ trivial
theorem bX4_init_4_7 : okB cX4_init RX4 4 [(5, 0, 0, 0, 0), (1, 0, 0, 0, 10)] := And.intro ⟨_, dX4_init_4, rfl⟩ (And.intro ⟨_, dX4_init_5, by decide⟩ trivial)
theorem bX4_init_12_15 : okB cX4_init RX4 12 [(5, 0, 0, 0, 0), (1, 0, 0, 0, 10)] := And.intro ⟨_, dX4_init_12, rfl⟩ (And.intro ⟨_, dX4_init_13, by decide⟩ trivial)
theorem bX4_init_20_30 : okB cX4_init RX4 20 [(5, 0, 0, 0, 0), (0, 0, 0, 0, 0), (25, 18, 4, 2, 0), (5, 0, 0, 0, 0), (23, 9, 4, 0, 0), (0, 0, 0, 0, (-1))] := And.intro ⟨_, dX4_init_20, rfl⟩ (And.intro ⟨_, dX4_init_21, by decide⟩ (And.intro ⟨dX4_init_22, fl_X4_18, rfl, rfl⟩ (And.intro ⟨_, dX4_init_25, rfl⟩ (And.intro ⟨dX4_init_26, fl_X4_9⟩ (And.intro ⟨_, dX4_init_29, by decide⟩ trivial)))))
set_option maxHeartbeats 8000000 in
set_option maxRecDepth 100000 in
theorem kG_X4_init (l : Launch) (D : va_G) (ads : AD) (I A : HI) (hZ : ZA 27 I A) (po : HI → HI → Prop) (hv : po (up2 I 26 2 0) (filA A 27 10 ((-1)))) : CtG l yX4_init cX4_init 1 1 23 2 20 D ads z34 [.inr (some 26)] I A z38 po := by
  refine CtG_of (by decide) rfl (Nat.le_of_ble_eq_true rfl) ?_
  intro p e s m args below meth c hC hE hin hr
  replace hC : CX p s m args meth c cX4_init 1 RX4 (AdS ads s.heap.size) := hC
  have key : ∀ nw : AD, G p l e { frames := 1, cells := 2, slots := 20, locals := 23 } s m args below meth c (MQ below (CPostG D ads z38 s.heap.size po) args s 2 20 (AdS ads s.heap.size)) D (AdS ads s.heap.size) 1 0 0 (ads ++ nw) z34 I A 0 [some (.inr (some 26))] [] := by
    intro nw
    refine g_blk hC _ bX4_init_0_1 (pc' := 1) (ls' := [some (.inr (some 26))]) (st' := [.inr (some 26)]) (I' := I) rfl rfl ?_
    refine g_obj hC wo_X4_3 wo_i wo_c dX4_init_1 (by decide) (Nat.le_of_ble_eq_true rfl) ?_
    refine g_blk hC _ bX4_init_4_7 (pc' := 7) (ls' := [some (.inr (some 26))]) (st' := [.inl 10, .inr (some 26)]) (I' := I) rfl rfl ?_
    refine h_newa hC (N := 10) wa_int (by decide) (by decide) (by decide) (n := 27) (by decide +kernel) (by exact hZ.2 27 (by decide)) (by decide +kernel) rfl (by decide) (by decide) dX4_init_7 (sh' := z35) (by decide +kernel) (fun nw => ?_)
    refine h_putR hC hin (fs := [some none, some none, none]) (by decide +kernel) (by decide) (by decide) fl_X4_9 rfl rfl ⟨_, by decide +kernel, ty_arr⟩ dX4_init_9 (sh' := z36) (by decide +kernel) ?_
    refine g_blk hC _ bX4_init_12_15 (pc' := 15) (ls' := [some (.inr (some 26))]) (st' := [.inl 10, .inr (some 26)]) (I' := I) rfl rfl ?_
    refine h_newa hC (N := 10) wa_int (by decide) (by decide) (by decide) (n := 28) (by decide +kernel) (by exact hZ.2 28 (by decide)) (by decide +kernel) rfl (by decide) (by decide) dX4_init_15 (sh' := z37) (by decide +kernel) (fun nw => ?_)
    refine h_putR hC hin (fs := [some (some 27), some none, none]) (by decide +kernel) (by decide) (by decide) fl_X4_15 rfl rfl ⟨_, by decide +kernel, ty_arr⟩ dX4_init_17 (sh' := z38) (by decide +kernel) ?_
    refine g_blk hC _ bX4_init_20_30 (pc' := 30) (ls' := [some (.inr (some 26))]) (st' := [.inl ((-1)), .inr (some 27)]) (I' := up2 I 26 2 0) rfl rfl ?_
    refine g_callS hC (cg_fill l D (ads ++ nw) (up2 I 26 2 0) A 27 ((-1)) 10 (by decide +kernel) (by decide)) dX4_init_30 nm_J7_fill_53178 wl_X4_22 wt_J7_fill_53178 wn_J7 wc_J7_fill_53178 ⟨by decide, by decide⟩ (as := [.inr (some 27), .inl ((-1))]) (rest := []) rfl (Nat.le_of_ble_eq_true rfl) ⟨by decide, by decide⟩ (k_qN ?_)
    exact g_retG hC hr dX4_init_33 hv
  have k0 := key []
  rw [List.append_nil] at k0
  exact k0
theorem cG_X4_init (l : Launch) (D : va_G) (ads : AD) (I A : HI) (hZ : ZA 27 I A) : CtG l yX4_init cX4_init 1 1 23 2 20 D ads z34 [.inr (some 26)] I A z38 (fun I9 A9 => I9 = up2 I 26 2 0 ∧ A9 = filA A 27 10 ((-1))) := kG_X4_init l D ads I A hZ _ ⟨rfl, rfl⟩
theorem bX8_init_56_57 : okB cX8_init RX8 56 [(5, 0, 0, 0, 0)] := And.intro ⟨_, dX8_init_56, rfl⟩ trivial
theorem bX8_init_60_73 : okB cX8_init RX8 60 [(20, 0, 0, 0, 0), (5, 0, 0, 0, 0), (23, 21, 8, 1, 0), (5, 0, 0, 0, 0), (23, 30, 8, 2, 0), (5, 0, 0, 0, 0), (23, 37, 8, 3, 0)] := And.intro dX8_init_60 (And.intro ⟨_, dX8_init_61, rfl⟩ (And.intro ⟨dX8_init_62, fl_X8_21⟩ (And.intro ⟨_, dX8_init_65, rfl⟩ (And.intro ⟨dX8_init_66, fl_X8_30⟩ (And.intro ⟨_, dX8_init_69, rfl⟩ (And.intro ⟨dX8_init_70, fl_X8_37⟩ trivial))))))
theorem bX6_init_0_1 : okB cX6_init RX6 0 [(5, 0, 0, 0, 0)] := And.intro ⟨_, dX6_init_0, rfl⟩ trivial
theorem bX6_init_4_7 : okB cX6_init RX6 4 [(5, 0, 0, 0, 0), (1, 0, 0, 0, 6)] := And.intro ⟨_, dX6_init_4, rfl⟩ (And.intro ⟨_, dX6_init_5, by decide⟩ trivial)
theorem bX6_init_13_18 : okB cX6_init RX6 13 [(5, 0, 0, 0, 0), (1, 0, 0, 0, 11), (1, 0, 0, 0, 120)] := And.intro ⟨_, dX6_init_13, rfl⟩ (And.intro ⟨_, dX6_init_14, by decide⟩ (And.intro ⟨_, dX6_init_16, by decide⟩ trivial))
theorem bX6_init_25_30 : okB cX6_init RX6 25 [(5, 0, 0, 0, 0), (1, 0, 0, 0, 11), (1, 0, 0, 0, 120)] := And.intro ⟨_, dX6_init_25, rfl⟩ (And.intro ⟨_, dX6_init_26, by decide⟩ (And.intro ⟨_, dX6_init_28, by decide⟩ trivial))
theorem bX6_init_37_42 : okB cX6_init RX6 37 [(5, 0, 0, 0, 0), (1, 0, 0, 0, 11), (1, 0, 0, 0, 120)] := And.intro ⟨_, dX6_init_37, rfl⟩ (And.intro ⟨_, dX6_init_38, by decide⟩ (And.intro ⟨_, dX6_init_40, by decide⟩ trivial))
theorem bX6_init_49_52 : okB cX6_init RX6 49 [(5, 0, 0, 0, 0), (1, 0, 0, 0, 11)] := And.intro ⟨_, dX6_init_49, rfl⟩ (And.intro ⟨_, dX6_init_50, by decide⟩ trivial)
theorem bX6_init_57_84 : okB cX6_init RX6 57 [(5, 0, 0, 0, 0), (0, 0, 0, 0, 0), (24, 32, 6, 9, 0), (5, 0, 0, 0, 0), (0, 0, 0, 0, 0), (24, 36, 6, 10, 0), (5, 0, 0, 0, 0), (0, 0, 0, 0, 0), (24, 39, 6, 11, 0), (5, 0, 0, 0, 0), (0, 0, 0, 0, 0), (24, 42, 6, 12, 0), (5, 0, 0, 0, 0), (0, 0, 0, 0, 0), (24, 45, 6, 13, 0), (5, 0, 0, 0, 0), (5, 1, 0, 0, 0)] := And.intro ⟨_, dX6_init_57, rfl⟩ (And.intro ⟨_, dX6_init_58, by decide⟩ (And.intro ⟨dX6_init_59, fl_X6_32, rfl, rfl⟩ (And.intro ⟨_, dX6_init_62, rfl⟩ (And.intro ⟨_, dX6_init_63, by decide⟩ (And.intro ⟨dX6_init_64, fl_X6_36, rfl, rfl⟩ (And.intro ⟨_, dX6_init_67, rfl⟩ (And.intro ⟨_, dX6_init_68, by decide⟩ (And.intro ⟨dX6_init_69, fl_X6_39, rfl, rfl⟩ (And.intro ⟨_, dX6_init_72, rfl⟩ (And.intro ⟨_, dX6_init_73, by decide⟩ (And.intro ⟨dX6_init_74, fl_X6_42, rfl, rfl⟩ (And.intro ⟨_, dX6_init_77, rfl⟩ (And.intro ⟨_, dX6_init_78, by decide⟩ (And.intro ⟨dX6_init_79, fl_X6_45, rfl, rfl⟩ (And.intro ⟨_, dX6_init_82, rfl⟩ (And.intro ⟨_, dX6_init_83, rfl⟩ trivial))))))))))))))))
theorem bX6_init_87_89 : okB cX6_init RX6 87 [(5, 0, 0, 0, 0), (5, 2, 0, 0, 0)] := And.intro ⟨_, dX6_init_87, rfl⟩ (And.intro ⟨_, dX6_init_88, rfl⟩ trivial)
theorem bX6_init_92_94 : okB cX6_init RX6 92 [(5, 0, 0, 0, 0), (5, 3, 0, 0, 0)] := And.intro ⟨_, dX6_init_92, rfl⟩ (And.intro ⟨_, dX6_init_93, rfl⟩ trivial)
theorem bX6_init_97_98 : okB cX6_init RX6 97 [(5, 0, 0, 0, 0)] := And.intro ⟨_, dX6_init_97, rfl⟩ trivial
theorem bX6_init_101_105 : okB cX6_init RX6 101 [(20, 0, 0, 0, 0), (5, 1, 0, 0, 0), (5, 2, 0, 0, 0), (5, 3, 0, 0, 0)] := And.intro dX6_init_101 (And.intro ⟨_, dX6_init_102, rfl⟩ (And.intro ⟨_, dX6_init_103, rfl⟩ (And.intro ⟨_, dX6_init_104, rfl⟩ trivial)))
theorem bX3_init_0_1 : okB cX3_init RX3 0 [(5, 0, 0, 0, 0)] := And.intro ⟨_, dX3_init_0, rfl⟩ trivial
theorem bX3_init_4_7 : okB cX3_init RX3 4 [(5, 0, 0, 0, 0), (1, 0, 0, 0, 25)] := And.intro ⟨_, dX3_init_4, rfl⟩ (And.intro ⟨_, dX3_init_5, by decide⟩ trivial)
theorem bX3_init_12_15 : okB cX3_init RX3 12 [(5, 0, 0, 0, 0), (1, 0, 0, 0, 25)] := And.intro ⟨_, dX3_init_12, rfl⟩ (And.intro ⟨_, dX3_init_13, by decide⟩ trivial)
theorem bX3_init_20_27 : okB cX3_init RX3 20 [(5, 0, 0, 0, 0), (0, 0, 0, 0, 0), (24, 18, 3, 5, 0), (5, 0, 0, 0, 0), (5, 1, 0, 0, 0)] := And.intro ⟨_, dX3_init_20, rfl⟩ (And.intro ⟨_, dX3_init_21, by decide⟩ (And.intro ⟨dX3_init_22, fl_X3_18, rfl, rfl⟩ (And.intro ⟨_, dX3_init_25, rfl⟩ (And.intro ⟨_, dX3_init_26, rfl⟩ trivial))))
theorem bX3_init_30_32 : okB cX3_init RX3 30 [(5, 0, 0, 0, 0), (5, 2, 0, 0, 0)] := And.intro ⟨_, dX3_init_30, rfl⟩ (And.intro ⟨_, dX3_init_31, rfl⟩ trivial)
theorem bX3_init_35_37 : okB cX3_init RX3 35 [(5, 0, 0, 0, 0), (5, 3, 0, 0, 0)] := And.intro ⟨_, dX3_init_35, rfl⟩ (And.intro ⟨_, dX3_init_36, rfl⟩ trivial)
set_option maxHeartbeats 8000000 in
set_option maxRecDepth 100000 in
theorem kG_X3_init (l : Launch) (D : va_G) (ads : AD) (I A : HI) (hZ : ZA 69 I A) (po : HI → HI → Prop) (hv : po (up2 I 68 5 0) A) : CtG l yX3_init cX3_init 4 1 20 2 50 D ads z54 [.inr (some 68), .inr (some 3), .inr (some 13), .inr (some 26)] I A z61 po := by
  refine CtG_of (by decide) rfl (Nat.le_of_ble_eq_true rfl) ?_
  intro p e s m args below meth c hC hE hin hr
  replace hC : CX p s m args meth c cX3_init 4 RX3 (AdS ads s.heap.size) := hC
  have key : ∀ nw : AD, G p l e { frames := 1, cells := 2, slots := 50, locals := 20 } s m args below meth c (MQ below (CPostG D ads z61 s.heap.size po) args s 2 50 (AdS ads s.heap.size)) D (AdS ads s.heap.size) 4 0 0 (ads ++ nw) z54 I A 0 [some (.inr (some 68)), some (.inr (some 3)), some (.inr (some 13)), some (.inr (some 26))] [] := by
    intro nw
    refine g_blk hC _ bX3_init_0_1 (pc' := 1) (ls' := [some (.inr (some 68)), some (.inr (some 3)), some (.inr (some 13)), some (.inr (some 26))]) (st' := [.inr (some 68)]) (I' := I) rfl rfl ?_
    refine g_obj hC wo_X3_3 wo_i wo_c dX3_init_1 (by decide) (Nat.le_of_ble_eq_true rfl) ?_
    refine g_blk hC _ bX3_init_4_7 (pc' := 7) (ls' := [some (.inr (some 68)), some (.inr (some 3)), some (.inr (some 13)), some (.inr (some 26))]) (st' := [.inl 25, .inr (some 68)]) (I' := I) rfl rfl ?_
    refine h_newa hC (N := 25) wa_int (by decide) (by decide) (by decide) (n := 69) (by decide +kernel) (by exact hZ.2 69 (by decide)) (by decide +kernel) rfl (by decide) (by decide) dX3_init_7 (sh' := z55) rfl (fun nw => ?_)
    refine h_putR hC hin (fs := [some none, some none, some none, some none, some none, none]) (by decide +kernel) (by decide) (by decide) fl_X3_9 rfl rfl ⟨_, by decide +kernel, ty_arr⟩ dX3_init_9 (sh' := z56) rfl ?_
    refine g_blk hC _ bX3_init_12_15 (pc' := 15) (ls' := [some (.inr (some 68)), some (.inr (some 3)), some (.inr (some 13)), some (.inr (some 26))]) (st' := [.inl 25, .inr (some 68)]) (I' := I) rfl rfl ?_
    refine h_newa hC (N := 25) wa_int (by decide) (by decide) (by decide) (n := 70) (by decide +kernel) (by exact hZ.2 70 (by decide)) (by decide +kernel) rfl (by decide) (by decide) dX3_init_15 (sh' := z57) rfl (fun nw => ?_)
    refine h_putR hC hin (fs := [some none, some none, some none, some (some 69), some none, none]) (by decide +kernel) (by decide) (by decide) fl_X3_15 rfl rfl ⟨_, by decide +kernel, ty_arr⟩ dX3_init_17 (sh' := z58) rfl ?_
    refine g_blk hC _ bX3_init_20_27 (pc' := 27) (ls' := [some (.inr (some 68)), some (.inr (some 3)), some (.inr (some 13)), some (.inr (some 26))]) (st' := [.inr (some 3), .inr (some 68)]) (I' := up2 I 68 5 0) rfl rfl ?_
    refine h_putR hC hin (fs := [some none, some none, some none, some (some 69), some (some 70), none]) (by decide +kernel) (by decide) (by decide) fl_X3_22 rfl rfl ⟨_, by decide +kernel, ty_obj (C := "RibbonSetter$Ranking")⟩ dX3_init_27 (sh' := z59) rfl ?_
    refine g_blk hC _ bX3_init_30_32 (pc' := 32) (ls' := [some (.inr (some 68)), some (.inr (some 3)), some (.inr (some 13)), some (.inr (some 26))]) (st' := [.inr (some 13), .inr (some 68)]) (I' := up2 I 68 5 0) rfl rfl ?_
    refine h_putR hC hin (fs := [some (some 3), some none, some none, some (some 69), some (some 70), none]) (by decide +kernel) (by decide) (by decide) fl_X3_26 rfl rfl ⟨_, by decide +kernel, ty_obj (C := "RibbonSetter$Sheet")⟩ dX3_init_32 (sh' := z60) rfl ?_
    refine g_blk hC _ bX3_init_35_37 (pc' := 37) (ls' := [some (.inr (some 68)), some (.inr (some 3)), some (.inr (some 13)), some (.inr (some 26))]) (st' := [.inr (some 26), .inr (some 68)]) (I' := up2 I 68 5 0) rfl rfl ?_
    refine h_putR hC hin (fs := [some (some 3), some (some 13), some none, some (some 69), some (some 70), none]) (by decide +kernel) (by decide) (by decide) fl_X3_30 rfl rfl ⟨_, by decide +kernel, ty_obj (C := "RibbonSetter$Kept")⟩ dX3_init_37 (sh' := z61) rfl ?_
    exact g_retG hC hr dX3_init_40 hv
  have k0 := key []
  rw [List.append_nil] at k0
  exact k0
theorem cG_X3_init (l : Launch) (D : va_G) (ads : AD) (I A : HI) (hZ : ZA 69 I A) : CtG l yX3_init cX3_init 4 1 20 2 50 D ads z54 [.inr (some 68), .inr (some 3), .inr (some 13), .inr (some 26)] I A z61 (fun I9 A9 => I9 = up2 I 68 5 0 ∧ A9 = A) := kG_X3_init l D ads I A hZ _ ⟨rfl, rfl⟩
theorem bX6_init_111_116 : okB cX6_init RX6 111 [(5, 0, 0, 0, 0), (23, 11, 6, 4, 0), (0, 0, 0, 0, 0)] := And.intro ⟨_, dX6_init_111, rfl⟩ (And.intro ⟨dX6_init_112, fl_X6_11⟩ (And.intro ⟨_, dX6_init_115, by decide⟩ trivial))
theorem bX6_init_119_120 : okB cX6_init RX6 119 [(20, 0, 0, 0, 0)] := And.intro dX6_init_119 trivial
theorem bX0_init_0_1 : okB cX0_init RX0 0 [(5, 0, 0, 0, 0)] := And.intro ⟨_, dX0_init_0, rfl⟩ trivial
theorem bX0_init_4_6 : okB cX0_init RX0 4 [(5, 0, 0, 0, 0), (0, 0, 0, 0, 0)] := And.intro ⟨_, dX0_init_4, rfl⟩ (And.intro ⟨_, dX0_init_5, by decide⟩ trivial)
theorem bX0_init_9_11 : okB cX0_init RX0 9 [(5, 0, 0, 0, 0), (0, 0, 0, 0, 1)] := And.intro ⟨_, dX0_init_9, rfl⟩ (And.intro ⟨_, dX0_init_10, by decide⟩ trivial)
theorem bX0_init_14_16 : okB cX0_init RX0 14 [(5, 0, 0, 0, 0), (0, 0, 0, 0, 0)] := And.intro ⟨_, dX0_init_14, rfl⟩ (And.intro ⟨_, dX0_init_15, by decide⟩ trivial)
theorem bX0_init_21_23 : okB cX0_init RX0 21 [(5, 0, 0, 0, 0), (0, 0, 0, 0, 1)] := And.intro ⟨_, dX0_init_21, rfl⟩ (And.intro ⟨_, dX0_init_22, by decide⟩ trivial)
theorem bX0_init_28_30 : okB cX0_init RX0 28 [(5, 0, 0, 0, 0), (0, 0, 0, 0, 1)] := And.intro ⟨_, dX0_init_28, rfl⟩ (And.intro ⟨_, dX0_init_29, by decide⟩ trivial)
set_option maxHeartbeats 8000000 in
set_option maxRecDepth 100000 in
theorem kG_X0_init (l : Launch) (D : va_G) (ads : AD) (I A : HI) (hZ : ZA 72 I A) (po : HI → HI → Prop) (hv : po (up2 (up2 I 71 0 0) 71 1 1) A) : CtG l yX0_init cX0_init 1 1 20 3 2 D ads z63 [.inr (some 71)] I A z69 po := by
  refine CtG_of (by decide) rfl (Nat.le_of_ble_eq_true rfl) ?_
  intro p e s m args below meth c hC hE hin hr
  replace hC : CX p s m args meth c cX0_init 1 RX0 (AdS ads s.heap.size) := hC
  have key : ∀ nw : AD, G p l e { frames := 1, cells := 3, slots := 2, locals := 20 } s m args below meth c (MQ below (CPostG D ads z69 s.heap.size po) args s 3 2 (AdS ads s.heap.size)) D (AdS ads s.heap.size) 1 0 0 (ads ++ nw) z63 I A 0 [some (.inr (some 71))] [] := by
    intro nw
    refine g_blk hC _ bX0_init_0_1 (pc' := 1) (ls' := [some (.inr (some 71))]) (st' := [.inr (some 71)]) (I' := I) rfl rfl ?_
    refine g_obj hC wo_X0_3 wo_i wo_c dX0_init_1 (by decide) (Nat.le_of_ble_eq_true rfl) ?_
    refine g_blk hC _ bX0_init_4_6 (pc' := 6) (ls' := [some (.inr (some 71))]) (st' := [.inl 0, .inr (some 71)]) (I' := I) rfl rfl ?_
    refine g_putI hC hin (fs := [none, none, some none, some none, some none]) (by decide +kernel) (by decide) (by decide) fl_X0_9 rfl rfl (by decide +kernel) dX0_init_6 ?_
    refine g_blk hC _ bX0_init_9_11 (pc' := 11) (ls' := [some (.inr (some 71))]) (st' := [.inl 1, .inr (some 71)]) (I' := up2 I 71 0 0) rfl rfl ?_
    refine g_putI hC hin (fs := [none, none, some none, some none, some none]) (by decide +kernel) (by decide) (by decide) fl_X0_15 rfl rfl (by decide +kernel) dX0_init_11 ?_
    refine g_blk hC _ bX0_init_14_16 (pc' := 16) (ls' := [some (.inr (some 71))]) (st' := [.inl 0, .inr (some 71)]) (I' := up2 (up2 I 71 0 0) 71 1 1) rfl rfl ?_
    refine h_newa hC (N := 0) wa_int (by decide) (by decide) (by decide) (n := 72) (by decide +kernel) (by exact hZ.2 72 (by decide)) (by decide +kernel) rfl (by decide) (by decide) dX0_init_16 (sh' := z64) rfl (fun nw => ?_)
    refine h_putR hC hin (fs := [none, none, some none, some none, some none]) (by decide +kernel) (by decide) (by decide) fl_X0_18 rfl rfl ⟨_, by decide +kernel, ty_arr⟩ dX0_init_18 (sh' := z65) rfl ?_
    refine g_blk hC _ bX0_init_21_23 (pc' := 23) (ls' := [some (.inr (some 71))]) (st' := [.inl 1, .inr (some 71)]) (I' := up2 (up2 I 71 0 0) 71 1 1) rfl rfl ?_
    refine h_newa hC (N := 1) wa_int (by decide) (by decide) (by decide) (n := 73) (by decide +kernel) (by exact hZ.2 73 (by decide)) (by decide +kernel) rfl (by decide) (by decide) dX0_init_23 (sh' := z66) rfl (fun nw => ?_)
    refine h_putR hC hin (fs := [none, none, some (some 72), some none, some none]) (by decide +kernel) (by decide) (by decide) fl_X0_22 rfl rfl ⟨_, by decide +kernel, ty_arr⟩ dX0_init_25 (sh' := z67) rfl ?_
    refine g_blk hC _ bX0_init_28_30 (pc' := 30) (ls' := [some (.inr (some 71))]) (st' := [.inl 1, .inr (some 71)]) (I' := up2 (up2 I 71 0 0) 71 1 1) rfl rfl ?_
    refine h_newa hC (N := 1) wa_int (by decide) (by decide) (by decide) (n := 74) (by decide +kernel) (by exact hZ.2 74 (by decide)) (by decide +kernel) rfl (by decide) (by decide) dX0_init_30 (sh' := z68) rfl (fun nw => ?_)
    refine h_putR hC hin (fs := [none, none, some (some 72), some (some 73), some none]) (by decide +kernel) (by decide) (by decide) fl_X0_25 rfl rfl ⟨_, by decide +kernel, ty_arr⟩ dX0_init_32 (sh' := z69) rfl ?_
    exact g_retG hC hr dX0_init_35 hv
  have k0 := key []
  rw [List.append_nil] at k0
  exact k0
theorem cG_X0_init (l : Launch) (D : va_G) (ads : AD) (I A : HI) (hZ : ZA 72 I A) : CtG l yX0_init cX0_init 1 1 20 3 2 D ads z63 [.inr (some 71)] I A z69 (fun I9 A9 => I9 = up2 (up2 I 71 0 0) 71 1 1 ∧ A9 = A) := kG_X0_init l D ads I A hZ _ ⟨rfl, rfl⟩
theorem bX6_init_124_130 : okB cX6_init RX6 124 [(0, 0, 0, 0, 1), (8, 4, 0, 0, 0), (4, 4, 0, 0, 0), (0, 0, 0, 0, 5)] := And.intro ⟨_, dX6_init_124, by decide⟩ (And.intro dX6_init_125 (And.intro dX6_init_127 (And.intro ⟨_, dX6_init_129, by decide⟩ trivial)))
theorem bX6_init_133_139 : okB cX6_init RX6 133 [(5, 0, 0, 0, 0), (23, 11, 6, 4, 0), (4, 4, 0, 0, 0)] := And.intro ⟨_, dX6_init_133, rfl⟩ (And.intro ⟨dX6_init_134, fl_X6_11⟩ (And.intro dX6_init_137 trivial))
theorem bX6_init_142_151 : okB cX6_init RX6 142 [(20, 0, 0, 0, 0), (5, 0, 0, 0, 0), (23, 11, 6, 4, 0), (4, 4, 0, 0, 0), (0, 0, 0, 0, 1), (13, 0, 0, 0, 0)] := And.intro dX6_init_142 (And.intro ⟨_, dX6_init_143, rfl⟩ (And.intro ⟨dX6_init_144, fl_X6_11⟩ (And.intro dX6_init_147 (And.intro ⟨_, dX6_init_149, by decide⟩ (And.intro dX6_init_150 trivial)))))
theorem bX6_init_156_159 : okB cX6_init RX6 156 [(11, 4, 0, 0, 1)] := And.intro ⟨_, dX6_init_156, by decide⟩ trivial
theorem bX6_init_127_130 : okB cX6_init RX6 127 [(4, 4, 0, 0, 0), (0, 0, 0, 0, 5)] := And.intro dX6_init_127 (And.intro ⟨_, dX6_init_129, by decide⟩ trivial)
set_option maxHeartbeats 8000000 in
set_option maxRecDepth 100000 in
theorem kG_X6_init (l : Launch) (D : va_G) (ads : AD) (I A : HI) (hZ : ZA 30 I A) (po : HI → HI → Prop) (hv : ((chL0 0 (up2 (up2 (up2 (up2 (up2 (up2 (up2 (up2 I 29 9 0) 29 10 0) 29 11 0) 29 12 0) 29 13 0) 68 5 0) 71 0 0) 71 1 1) A) ∧ (∀ (I_79 A_79 : HI), chLq 0 (up2 (up2 (up2 (up2 (up2 (up2 (up2 (up2 I 29 9 0) 29 10 0) 29 11 0) 29 12 0) 29 13 0) 68 5 0) 71 0 0) 71 1 1) A I_79 A_79 → ((chL0 1 I_79 A_79) ∧ (∀ (I_83 A_83 : HI), chLq 1 I_79 A_79 I_83 A_83 → ((chL0 2 I_83 A_83) ∧ (∀ (I_87 A_87 : HI), chLq 2 I_83 A_83 I_87 A_87 → ((chL0 3 I_87 A_87) ∧ (∀ (I_91 A_91 : HI), chLq 3 I_87 A_87 I_91 A_91 → ((chL0 4 I_91 A_91) ∧ (∀ (I_95 A_95 : HI), chLq 4 I_91 A_91 I_95 A_95 → po I_95 A_95))))))))))) : CtG l yX6_init cX6_init 5 3 72 65 5123 D ads z40 [.inr (some 29), .inr (some 3), .inr (some 13), .inr (some 26)] I A z85 po := by
  refine CtG_of (by decide) rfl (Nat.le_of_ble_eq_true rfl) ?_
  intro p e s m args below meth c hC hE hin hr
  replace hC : CX p s m args meth c cX6_init 5 RX6 (AdS ads s.heap.size) := hC
  have key : ∀ nw : AD, G p l e { frames := 3, cells := 65, slots := 5123, locals := 72 } s m args below meth c (MQ below (CPostG D ads z85 s.heap.size po) args s 65 5123 (AdS ads s.heap.size)) D (AdS ads s.heap.size) 5 0 0 (ads ++ nw) z40 I A 0 [some (.inr (some 29)), some (.inr (some 3)), some (.inr (some 13)), some (.inr (some 26)), none] [] := by
    intro nw
    refine g_blk hC _ bX6_init_0_1 (pc' := 1) (ls' := [some (.inr (some 29)), some (.inr (some 3)), some (.inr (some 13)), some (.inr (some 26)), none]) (st' := [.inr (some 29)]) (I' := I) rfl rfl ?_
    refine g_obj hC wo_X6_3 wo_i wo_c dX6_init_1 (by decide) (Nat.le_of_ble_eq_true rfl) ?_
    refine g_blk hC _ bX6_init_4_7 (pc' := 7) (ls' := [some (.inr (some 29)), some (.inr (some 3)), some (.inr (some 13)), some (.inr (some 26)), none]) (st' := [.inl 6, .inr (some 29)]) (I' := I) rfl rfl ?_
    refine h_anew hC hE (N := 6) wk2_X6_9 (by decide) (by decide) (by decide) (n := 30) (by decide +kernel) (by decide +kernel) rfl (by decide) (by decide) dX6_init_7 (sh' := z41) (by decide +kernel) (fun nw => ?_)
    refine h_putR hC hin (fs := [some none, some none, some none, some none, some none, some none, some none, some none, some none, none, none, none, none, none]) (by decide +kernel) (by decide) (by decide) fl_X6_11 rfl rfl ⟨_, by decide +kernel, ty_aobj (C := "RibbonSetter$Changes")⟩ dX6_init_10 (sh' := z42) (by decide +kernel) ?_
    refine g_blk hC _ bX6_init_13_18 (pc' := 18) (ls' := [some (.inr (some 29)), some (.inr (some 3)), some (.inr (some 13)), some (.inr (some 26)), none]) (st' := [.inl 120, .inl 11, .inr (some 29)]) (I' := I) rfl rfl ?_
    refine h_mna hC hE (N := 11) (K := 120) wk2_X6_17 wa_int (by decide) (by decide) (by decide) (by decide) (by decide) (by decide) (n := 31) (by decide +kernel) (fun i => by exact hZ.2 _ (by omega)) (by decide +kernel) rfl (by decide) (by decide) dX6_init_18 (sh' := z43) (by decide +kernel) (fun nw => ?_)
    refine h_putR hC hin (fs := [some none, some none, some none, some none, some (some 30), some none, some none, some none, some none, none, none, none, none, none]) (by decide +kernel) (by decide) (by decide) fl_X6_19 rfl rfl ⟨_, by decide +kernel, ty_arr2⟩ dX6_init_22 (sh' := z44) (by decide +kernel) ?_
    refine g_blk hC _ bX6_init_25_30 (pc' := 30) (ls' := [some (.inr (some 29)), some (.inr (some 3)), some (.inr (some 13)), some (.inr (some 26)), none]) (st' := [.inl 120, .inl 11, .inr (some 29)]) (I' := I) rfl rfl ?_
    refine h_mna hC hE (N := 11) (K := 120) wk2_X6_17 wa_int (by decide) (by decide) (by decide) (by decide) (by decide) (by decide) (n := 43) (by decide +kernel) (fun i => by exact hZ.2 _ (by omega)) (by decide +kernel) rfl (by decide) (by decide) dX6_init_30 (sh' := z45) (by decide +kernel) (fun nw => ?_)
    refine h_putR hC hin (fs := [some none, some none, some none, some none, some (some 30), some (some 31), some none, some none, some none, none, none, none, none, none]) (by decide +kernel) (by decide) (by decide) fl_X6_22 rfl rfl ⟨_, by decide +kernel, ty_arr2⟩ dX6_init_34 (sh' := z46) (by decide +kernel) ?_
    refine g_blk hC _ bX6_init_37_42 (pc' := 42) (ls' := [some (.inr (some 29)), some (.inr (some 3)), some (.inr (some 13)), some (.inr (some 26)), none]) (st' := [.inl 120, .inl 11, .inr (some 29)]) (I' := I) rfl rfl ?_
    refine h_mna hC hE (N := 11) (K := 120) wk2_X6_17 wa_int (by decide) (by decide) (by decide) (by decide) (by decide) (by decide) (n := 55) (by decide +kernel) (fun i => by exact hZ.2 _ (by omega)) (by decide +kernel) rfl (by decide) (by decide) dX6_init_42 (sh' := z47) (by decide +kernel) (fun nw => ?_)
    refine h_putR hC hin (fs := [some none, some none, some none, some none, some (some 30), some (some 31), some (some 43), some none, some none, none, none, none, none, none]) (by decide +kernel) (by decide) (by decide) fl_X6_25 rfl rfl ⟨_, by decide +kernel, ty_arr2⟩ dX6_init_46 (sh' := z48) (by decide +kernel) ?_
    refine g_blk hC _ bX6_init_49_52 (pc' := 52) (ls' := [some (.inr (some 29)), some (.inr (some 3)), some (.inr (some 13)), some (.inr (some 26)), none]) (st' := [.inl 11, .inr (some 29)]) (I' := I) rfl rfl ?_
    refine h_newa hC (N := 11) wa_int (by decide) (by decide) (by decide) (n := 67) (by decide +kernel) (by exact hZ.2 67 (by decide)) (by decide +kernel) rfl (by decide) (by decide) dX6_init_52 (sh' := z49) (by decide +kernel) (fun nw => ?_)
    refine h_putR hC hin (fs := [some none, some none, some none, some none, some (some 30), some (some 31), some (some 43), some (some 55), some none, none, none, none, none, none]) (by decide +kernel) (by decide) (by decide) fl_X6_28 rfl rfl ⟨_, by decide +kernel, ty_arr⟩ dX6_init_54 (sh' := z50) (by decide +kernel) ?_
    refine g_blk hC _ bX6_init_57_84 (pc' := 84) (ls' := [some (.inr (some 29)), some (.inr (some 3)), some (.inr (some 13)), some (.inr (some 26)), none]) (st' := [.inr (some 3), .inr (some 29)]) (I' := up2 (up2 (up2 (up2 (up2 I 29 9 0) 29 10 0) 29 11 0) 29 12 0) 29 13 0) rfl rfl ?_
    refine h_putR hC hin (fs := [some none, some none, some none, some none, some (some 30), some (some 31), some (some 43), some (some 55), some (some 67), none, none, none, none, none]) (by decide +kernel) (by decide) (by decide) fl_X6_48 rfl rfl ⟨_, by decide +kernel, ty_obj (C := "RibbonSetter$Ranking")⟩ dX6_init_84 (sh' := z51) (by decide +kernel) ?_
    refine g_blk hC _ bX6_init_87_89 (pc' := 89) (ls' := [some (.inr (some 29)), some (.inr (some 3)), some (.inr (some 13)), some (.inr (some 26)), none]) (st' := [.inr (some 13), .inr (some 29)]) (I' := up2 (up2 (up2 (up2 (up2 I 29 9 0) 29 10 0) 29 11 0) 29 12 0) 29 13 0) rfl rfl ?_
    refine h_putR hC hin (fs := [some (some 3), some none, some none, some none, some (some 30), some (some 31), some (some 43), some (some 55), some (some 67), none, none, none, none, none]) (by decide +kernel) (by decide) (by decide) fl_X6_52 rfl rfl ⟨_, by decide +kernel, ty_obj (C := "RibbonSetter$Sheet")⟩ dX6_init_89 (sh' := z52) (by decide +kernel) ?_
    refine g_blk hC _ bX6_init_92_94 (pc' := 94) (ls' := [some (.inr (some 29)), some (.inr (some 3)), some (.inr (some 13)), some (.inr (some 26)), none]) (st' := [.inr (some 26), .inr (some 29)]) (I' := up2 (up2 (up2 (up2 (up2 I 29 9 0) 29 10 0) 29 11 0) 29 12 0) 29 13 0) rfl rfl ?_
    refine h_putR hC hin (fs := [some (some 3), some (some 13), some none, some none, some (some 30), some (some 31), some (some 43), some (some 55), some (some 67), none, none, none, none, none]) (by decide +kernel) (by decide) (by decide) fl_X6_56 rfl rfl ⟨_, by decide +kernel, ty_obj (C := "RibbonSetter$Kept")⟩ dX6_init_94 (sh' := z53) (by decide +kernel) ?_
    refine g_blk hC _ bX6_init_97_98 (pc' := 98) (ls' := [some (.inr (some 29)), some (.inr (some 3)), some (.inr (some 13)), some (.inr (some 26)), none]) (st' := [.inr (some 29)]) (I' := up2 (up2 (up2 (up2 (up2 I 29 9 0) 29 10 0) 29 11 0) 29 12 0) 29 13 0) rfl rfl ?_
    refine h_new hC (ci := 3) (q := clsN 3) (fs := [some none, some none, some none, some none, some none, none]) rfl wk2_X6_60 wm_X3 wn_X3 (by decide) rfl (n := 68) (by decide +kernel) (fun j => by rw [up2_k (by decide)]; rw [up2_k (by decide)]; rw [up2_k (by decide)]; rw [up2_k (by decide)]; rw [up2_k (by decide)]; exact hZ.1 68 (by decide) j) (by decide +kernel) rfl (by decide) (by decide) dX6_init_98 (sh' := z54) (by decide +kernel) (fun nw => ?_)
    refine g_blk hC _ bX6_init_101_105 (pc' := 105) (ls' := [some (.inr (some 29)), some (.inr (some 3)), some (.inr (some 13)), some (.inr (some 26)), none]) (st' := [.inr (some 26), .inr (some 13), .inr (some 3), .inr (some 68), .inr (some 68), .inr (some 29)]) (I' := up2 (up2 (up2 (up2 (up2 I 29 9 0) 29 10 0) 29 11 0) 29 12 0) 29 13 0) rfl rfl ?_
    refine h_callI hC hE (cG_X3_init l D (ads ++ nw) (up2 (up2 (up2 (up2 (up2 I 29 9 0) 29 10 0) 29 11 0) 29 12 0) 29 13 0) A ⟨fun k hk j => by rw [up2_k (by omega)]; rw [up2_k (by omega)]; rw [up2_k (by omega)]; rw [up2_k (by omega)]; rw [up2_k (by omega)]; exact hZ.1 k (by omega) j, fun k hk => by exact hZ.2 k (by omega)⟩) dX6_init_105 nm_X3_init rfl wl_X6_62 wi_X3_init wn_X3 wc_X3_init ⟨by decide, by decide⟩ (as := [.inr (some 3), .inr (some 13), .inr (some 26)]) (rest := [.inr (some 68), .inr (some 29)]) rfl (Nat.le_of_ble_eq_true rfl) ⟨by decide, by decide⟩ (n := 69) (by decide +kernel) rfl (fun nw I9 A9 hq => ?_)
    obtain ⟨hq1, hq2⟩ := hq
    rw [hq1, hq2]
    clear hq1 hq2
    refine h_putR hC hin (fs := [some (some 3), some (some 13), some (some 26), some none, some (some 30), some (some 31), some (some 43), some (some 55), some (some 67), none, none, none, none, none]) (by decide +kernel) (by decide) (by decide) fl_X6_65 rfl rfl ⟨_, by decide +kernel, ty_obj (C := "RibbonSetter$Joint")⟩ dX6_init_108 (sh' := z62) (by decide +kernel) ?_
    refine g_blk hC _ bX6_init_111_116 (pc' := 116) (ls' := [some (.inr (some 29)), some (.inr (some 3)), some (.inr (some 13)), some (.inr (some 26)), none]) (st' := [.inl 0, .inr (some 30)]) (I' := up2 (up2 (up2 (up2 (up2 (up2 I 29 9 0) 29 10 0) 29 11 0) 29 12 0) 29 13 0) 68 5 0) rfl rfl ?_
    refine h_new hC (ci := 0) (q := clsN 0) (fs := [none, none, some none, some none, some none]) rfl wk2_X6_9 wm_X0 wn_X0 (by decide) rfl (n := 71) (by decide +kernel) (fun j => by rw [up2_k (by decide)]; rw [up2_k (by decide)]; rw [up2_k (by decide)]; rw [up2_k (by decide)]; rw [up2_k (by decide)]; rw [up2_k (by decide)]; exact hZ.1 71 (by decide) j) (by decide +kernel) rfl (by decide) (by decide) dX6_init_116 (sh' := z63) (by decide +kernel) (fun nw => ?_)
    refine g_blk hC _ bX6_init_119_120 (pc' := 120) (ls' := [some (.inr (some 29)), some (.inr (some 3)), some (.inr (some 13)), some (.inr (some 26)), none]) (st' := [.inr (some 71), .inr (some 71), .inl 0, .inr (some 30)]) (I' := up2 (up2 (up2 (up2 (up2 (up2 I 29 9 0) 29 10 0) 29 11 0) 29 12 0) 29 13 0) 68 5 0) rfl rfl ?_
    refine h_callI hC hE (cG_X0_init l D (ads ++ nw) (up2 (up2 (up2 (up2 (up2 (up2 I 29 9 0) 29 10 0) 29 11 0) 29 12 0) 29 13 0) 68 5 0) A ⟨fun k hk j => by rw [up2_k (by omega)]; rw [up2_k (by omega)]; rw [up2_k (by omega)]; rw [up2_k (by omega)]; rw [up2_k (by omega)]; rw [up2_k (by omega)]; exact hZ.1 k (by omega) j, fun k hk => by exact hZ.2 k (by omega)⟩) dX6_init_120 nm_X0_init rfl wl_X6_69 wi_X0_init wn_X0 wc_X0_init ⟨by decide, by decide⟩ (as := []) (rest := [.inr (some 71), .inl 0, .inr (some 30)]) rfl (Nat.le_of_ble_eq_true rfl) ⟨by decide, by decide⟩ (n := 72) (by decide +kernel) rfl (fun nw I9 A9 hq => ?_)
    obtain ⟨hq1, hq2⟩ := hq
    rw [hq1, hq2]
    clear hq1 hq2
    refine h_aast hC (L := [none, none, none, none, none, none]) (fs := [none, none, some (some 72), some (some 73), some (some 74)]) (by decide +kernel) (by decide +kernel) (by unfold vp_in; decide) dX6_init_123 (sh' := z70) (by decide +kernel) ?_
    refine g_blk hC _ bX6_init_124_130 (pc' := 130) (ls' := [some (.inr (some 29)), some (.inr (some 3)), some (.inr (some 13)), some (.inr (some 26)), some (.inl 1)]) (st' := [.inl 5, .inl 1]) (I' := up2 (up2 (up2 (up2 (up2 (up2 (up2 (up2 I 29 9 0) 29 10 0) 29 11 0) 29 12 0) 29 13 0) 68 5 0) 71 0 0) 71 1 1) rfl rfl ?_
    refine g_cgt hC dX6_init_130 (tgt := 162) (by decide) (fun hc => absurd hc (by decide)) (fun hc => ?_)
    refine g_blk hC _ bX6_init_133_139 (pc' := 139) (ls' := [some (.inr (some 29)), some (.inr (some 3)), some (.inr (some 13)), some (.inr (some 26)), some (.inl 1)]) (st' := [.inl 1, .inr (some 30)]) (I' := up2 (up2 (up2 (up2 (up2 (up2 (up2 (up2 I 29 9 0) 29 10 0) 29 11 0) 29 12 0) 29 13 0) 68 5 0) 71 0 0) 71 1 1) rfl rfl ?_
    refine h_new hC (ci := 0) (q := clsN 0) (fs := [none, none, some none, some none, some none]) rfl wk2_X6_9 wm_X0 wn_X0 (by decide) rfl (n := 75) (by decide +kernel) (fun j => by rw [up2_k (by decide)]; rw [up2_k (by decide)]; rw [up2_k (by decide)]; rw [up2_k (by decide)]; rw [up2_k (by decide)]; rw [up2_k (by decide)]; rw [up2_k (by decide)]; rw [up2_k (by decide)]; exact hZ.1 75 (by decide) j) (by decide +kernel) rfl (by decide) (by decide) dX6_init_139 (sh' := z71) (by decide +kernel) (fun nw => ?_)
    refine g_blk hC _ bX6_init_142_151 (pc' := 151) (ls' := [some (.inr (some 29)), some (.inr (some 3)), some (.inr (some 13)), some (.inr (some 26)), some (.inl 1)]) (st' := [.inl 0, .inr (some 30), .inr (some 75), .inr (some 75), .inl 1, .inr (some 30)]) (I' := up2 (up2 (up2 (up2 (up2 (up2 (up2 (up2 I 29 9 0) 29 10 0) 29 11 0) 29 12 0) 29 13 0) 68 5 0) 71 0 0) 71 1 1) rfl rfl ?_
    refine g_aald hC dX6_init_151 (f := (0, [some 71, none, none, none, none, none])) (r := 71) (by decide +kernel) (by unfold vp_in; decide) (by decide) ?_
    obtain ⟨hp79, hv⟩ := hv
    refine h_callI hC hE (cG_X0_init_ 0 (by decide) l D (ads ++ nw) (up2 (up2 (up2 (up2 (up2 (up2 (up2 (up2 I 29 9 0) 29 10 0) 29 11 0) 29 12 0) 29 13 0) 68 5 0) 71 0 0) 71 1 1) A (z := z71) (z' := z72) (by decide +kernel) hp79) dX6_init_152 nm_X0_init_ rfl wl_X6_70 wi_X0_init_ wn_X0 wc_X0_init_ ⟨by decide, by decide⟩ (as := [.inr (some 71)]) (rest := [.inr (some 75), .inl 1, .inr (some 30)]) rfl (Nat.le_of_ble_eq_true rfl) ⟨by decide, by decide⟩ (n := 76) (by decide +kernel) rfl (fun nw I_79 A_79 hq => ?_)
    replace hv := hv I_79 A_79 hq
    obtain ⟨hZ79, -⟩ := hq
    refine h_aast hC (L := [some 71, none, none, none, none, none]) (fs := [none, none, some (some 76), some (some 77), some (some 78)]) (by decide +kernel) (by decide +kernel) (by unfold vp_in; decide) dX6_init_155 (sh' := z73) (by decide +kernel) ?_
    refine g_blk hC _ bX6_init_156_159 (pc' := 159) (ls' := [some (.inr (some 29)), some (.inr (some 3)), some (.inr (some 13)), some (.inr (some 26)), some (.inl 2)]) (st' := []) (I' := I_79) rfl rfl ?_
    refine g_goto hC dX6_init_159 (tgt := 127) (by decide) ?_
    refine g_blk hC _ bX6_init_127_130 (pc' := 130) (ls' := [some (.inr (some 29)), some (.inr (some 3)), some (.inr (some 13)), some (.inr (some 26)), some (.inl 2)]) (st' := [.inl 5, .inl 2]) (I' := I_79) rfl rfl ?_
    refine g_cgt hC dX6_init_130 (tgt := 162) (by decide) (fun hc => absurd hc (by decide)) (fun hc => ?_)
    refine g_blk hC _ bX6_init_133_139 (pc' := 139) (ls' := [some (.inr (some 29)), some (.inr (some 3)), some (.inr (some 13)), some (.inr (some 26)), some (.inl 2)]) (st' := [.inl 2, .inr (some 30)]) (I' := I_79) rfl rfl ?_
    refine h_new hC (ci := 0) (q := clsN 0) (fs := [none, none, some none, some none, some none]) rfl wk2_X6_9 wm_X0 wn_X0 (by decide) rfl (n := 79) (by decide +kernel) (fun j => by exact hZ79.1 79 (by decide) j) (by decide +kernel) rfl (by decide) (by decide) dX6_init_139 (sh' := z74) (by decide +kernel) (fun nw => ?_)
    refine g_blk hC _ bX6_init_142_151 (pc' := 151) (ls' := [some (.inr (some 29)), some (.inr (some 3)), some (.inr (some 13)), some (.inr (some 26)), some (.inl 2)]) (st' := [.inl 1, .inr (some 30), .inr (some 79), .inr (some 79), .inl 2, .inr (some 30)]) (I' := I_79) rfl rfl ?_
    refine g_aald hC dX6_init_151 (f := (0, [some 71, some 75, none, none, none, none])) (r := 75) (by decide +kernel) (by unfold vp_in; decide) (by decide) ?_
    obtain ⟨hp83, hv⟩ := hv
    refine h_callI hC hE (cG_X0_init_ 1 (by decide) l D (ads ++ nw) I_79 A_79 (z := z74) (z' := z75) (by decide +kernel) hp83) dX6_init_152 nm_X0_init_ rfl wl_X6_70 wi_X0_init_ wn_X0 wc_X0_init_ ⟨by decide, by decide⟩ (as := [.inr (some 75)]) (rest := [.inr (some 79), .inl 2, .inr (some 30)]) rfl (Nat.le_of_ble_eq_true rfl) ⟨by decide, by decide⟩ (n := 80) (by decide +kernel) rfl (fun nw I_83 A_83 hq => ?_)
    replace hv := hv I_83 A_83 hq
    obtain ⟨hZ83, -⟩ := hq
    refine h_aast hC (L := [some 71, some 75, none, none, none, none]) (fs := [none, none, some (some 80), some (some 81), some (some 82)]) (by decide +kernel) (by decide +kernel) (by unfold vp_in; decide) dX6_init_155 (sh' := z76) (by decide +kernel) ?_
    refine g_blk hC _ bX6_init_156_159 (pc' := 159) (ls' := [some (.inr (some 29)), some (.inr (some 3)), some (.inr (some 13)), some (.inr (some 26)), some (.inl 3)]) (st' := []) (I' := I_83) rfl rfl ?_
    refine g_goto hC dX6_init_159 (tgt := 127) (by decide) ?_
    refine g_blk hC _ bX6_init_127_130 (pc' := 130) (ls' := [some (.inr (some 29)), some (.inr (some 3)), some (.inr (some 13)), some (.inr (some 26)), some (.inl 3)]) (st' := [.inl 5, .inl 3]) (I' := I_83) rfl rfl ?_
    refine g_cgt hC dX6_init_130 (tgt := 162) (by decide) (fun hc => absurd hc (by decide)) (fun hc => ?_)
    refine g_blk hC _ bX6_init_133_139 (pc' := 139) (ls' := [some (.inr (some 29)), some (.inr (some 3)), some (.inr (some 13)), some (.inr (some 26)), some (.inl 3)]) (st' := [.inl 3, .inr (some 30)]) (I' := I_83) rfl rfl ?_
    refine h_new hC (ci := 0) (q := clsN 0) (fs := [none, none, some none, some none, some none]) rfl wk2_X6_9 wm_X0 wn_X0 (by decide) rfl (n := 83) (by decide +kernel) (fun j => by exact hZ83.1 83 (by decide) j) (by decide +kernel) rfl (by decide) (by decide) dX6_init_139 (sh' := z77) (by decide +kernel) (fun nw => ?_)
    refine g_blk hC _ bX6_init_142_151 (pc' := 151) (ls' := [some (.inr (some 29)), some (.inr (some 3)), some (.inr (some 13)), some (.inr (some 26)), some (.inl 3)]) (st' := [.inl 2, .inr (some 30), .inr (some 83), .inr (some 83), .inl 3, .inr (some 30)]) (I' := I_83) rfl rfl ?_
    refine g_aald hC dX6_init_151 (f := (0, [some 71, some 75, some 79, none, none, none])) (r := 79) (by decide +kernel) (by unfold vp_in; decide) (by decide) ?_
    obtain ⟨hp87, hv⟩ := hv
    refine h_callI hC hE (cG_X0_init_ 2 (by decide) l D (ads ++ nw) I_83 A_83 (z := z77) (z' := z78) (by decide +kernel) hp87) dX6_init_152 nm_X0_init_ rfl wl_X6_70 wi_X0_init_ wn_X0 wc_X0_init_ ⟨by decide, by decide⟩ (as := [.inr (some 79)]) (rest := [.inr (some 83), .inl 3, .inr (some 30)]) rfl (Nat.le_of_ble_eq_true rfl) ⟨by decide, by decide⟩ (n := 84) (by decide +kernel) rfl (fun nw I_87 A_87 hq => ?_)
    replace hv := hv I_87 A_87 hq
    obtain ⟨hZ87, -⟩ := hq
    refine h_aast hC (L := [some 71, some 75, some 79, none, none, none]) (fs := [none, none, some (some 84), some (some 85), some (some 86)]) (by decide +kernel) (by decide +kernel) (by unfold vp_in; decide) dX6_init_155 (sh' := z79) (by decide +kernel) ?_
    refine g_blk hC _ bX6_init_156_159 (pc' := 159) (ls' := [some (.inr (some 29)), some (.inr (some 3)), some (.inr (some 13)), some (.inr (some 26)), some (.inl 4)]) (st' := []) (I' := I_87) rfl rfl ?_
    refine g_goto hC dX6_init_159 (tgt := 127) (by decide) ?_
    refine g_blk hC _ bX6_init_127_130 (pc' := 130) (ls' := [some (.inr (some 29)), some (.inr (some 3)), some (.inr (some 13)), some (.inr (some 26)), some (.inl 4)]) (st' := [.inl 5, .inl 4]) (I' := I_87) rfl rfl ?_
    refine g_cgt hC dX6_init_130 (tgt := 162) (by decide) (fun hc => absurd hc (by decide)) (fun hc => ?_)
    refine g_blk hC _ bX6_init_133_139 (pc' := 139) (ls' := [some (.inr (some 29)), some (.inr (some 3)), some (.inr (some 13)), some (.inr (some 26)), some (.inl 4)]) (st' := [.inl 4, .inr (some 30)]) (I' := I_87) rfl rfl ?_
    refine h_new hC (ci := 0) (q := clsN 0) (fs := [none, none, some none, some none, some none]) rfl wk2_X6_9 wm_X0 wn_X0 (by decide) rfl (n := 87) (by decide +kernel) (fun j => by exact hZ87.1 87 (by decide) j) (by decide +kernel) rfl (by decide) (by decide) dX6_init_139 (sh' := z80) (by decide +kernel) (fun nw => ?_)
    refine g_blk hC _ bX6_init_142_151 (pc' := 151) (ls' := [some (.inr (some 29)), some (.inr (some 3)), some (.inr (some 13)), some (.inr (some 26)), some (.inl 4)]) (st' := [.inl 3, .inr (some 30), .inr (some 87), .inr (some 87), .inl 4, .inr (some 30)]) (I' := I_87) rfl rfl ?_
    refine g_aald hC dX6_init_151 (f := (0, [some 71, some 75, some 79, some 83, none, none])) (r := 83) (by decide +kernel) (by unfold vp_in; decide) (by decide) ?_
    obtain ⟨hp91, hv⟩ := hv
    refine h_callI hC hE (cG_X0_init_ 3 (by decide) l D (ads ++ nw) I_87 A_87 (z := z80) (z' := z81) (by decide +kernel) hp91) dX6_init_152 nm_X0_init_ rfl wl_X6_70 wi_X0_init_ wn_X0 wc_X0_init_ ⟨by decide, by decide⟩ (as := [.inr (some 83)]) (rest := [.inr (some 87), .inl 4, .inr (some 30)]) rfl (Nat.le_of_ble_eq_true rfl) ⟨by decide, by decide⟩ (n := 88) (by decide +kernel) rfl (fun nw I_91 A_91 hq => ?_)
    replace hv := hv I_91 A_91 hq
    obtain ⟨hZ91, -⟩ := hq
    refine h_aast hC (L := [some 71, some 75, some 79, some 83, none, none]) (fs := [none, none, some (some 88), some (some 89), some (some 90)]) (by decide +kernel) (by decide +kernel) (by unfold vp_in; decide) dX6_init_155 (sh' := z82) (by decide +kernel) ?_
    refine g_blk hC _ bX6_init_156_159 (pc' := 159) (ls' := [some (.inr (some 29)), some (.inr (some 3)), some (.inr (some 13)), some (.inr (some 26)), some (.inl 5)]) (st' := []) (I' := I_91) rfl rfl ?_
    refine g_goto hC dX6_init_159 (tgt := 127) (by decide) ?_
    refine g_blk hC _ bX6_init_127_130 (pc' := 130) (ls' := [some (.inr (some 29)), some (.inr (some 3)), some (.inr (some 13)), some (.inr (some 26)), some (.inl 5)]) (st' := [.inl 5, .inl 5]) (I' := I_91) rfl rfl ?_
    refine g_cgt hC dX6_init_130 (tgt := 162) (by decide) (fun hc => absurd hc (by decide)) (fun hc => ?_)
    refine g_blk hC _ bX6_init_133_139 (pc' := 139) (ls' := [some (.inr (some 29)), some (.inr (some 3)), some (.inr (some 13)), some (.inr (some 26)), some (.inl 5)]) (st' := [.inl 5, .inr (some 30)]) (I' := I_91) rfl rfl ?_
    refine h_new hC (ci := 0) (q := clsN 0) (fs := [none, none, some none, some none, some none]) rfl wk2_X6_9 wm_X0 wn_X0 (by decide) rfl (n := 91) (by decide +kernel) (fun j => by exact hZ91.1 91 (by decide) j) (by decide +kernel) rfl (by decide) (by decide) dX6_init_139 (sh' := z83) (by decide +kernel) (fun nw => ?_)
    refine g_blk hC _ bX6_init_142_151 (pc' := 151) (ls' := [some (.inr (some 29)), some (.inr (some 3)), some (.inr (some 13)), some (.inr (some 26)), some (.inl 5)]) (st' := [.inl 4, .inr (some 30), .inr (some 91), .inr (some 91), .inl 5, .inr (some 30)]) (I' := I_91) rfl rfl ?_
    refine g_aald hC dX6_init_151 (f := (0, [some 71, some 75, some 79, some 83, some 87, none])) (r := 87) (by decide +kernel) (by unfold vp_in; decide) (by decide) ?_
    obtain ⟨hp95, hv⟩ := hv
    refine h_callI hC hE (cG_X0_init_ 4 (by decide) l D (ads ++ nw) I_91 A_91 (z := z83) (z' := z84) (by decide +kernel) hp95) dX6_init_152 nm_X0_init_ rfl wl_X6_70 wi_X0_init_ wn_X0 wc_X0_init_ ⟨by decide, by decide⟩ (as := [.inr (some 87)]) (rest := [.inr (some 91), .inl 5, .inr (some 30)]) rfl (Nat.le_of_ble_eq_true rfl) ⟨by decide, by decide⟩ (n := 92) (by decide +kernel) rfl (fun nw I_95 A_95 hq => ?_)
    replace hv := hv I_95 A_95 hq
    obtain ⟨hZ95, -⟩ := hq
    refine h_aast hC (L := [some 71, some 75, some 79, some 83, some 87, none]) (fs := [none, none, some (some 92), some (some 93), some (some 94)]) (by decide +kernel) (by decide +kernel) (by unfold vp_in; decide) dX6_init_155 (sh' := z85) (by decide +kernel) ?_
    refine g_blk hC _ bX6_init_156_159 (pc' := 159) (ls' := [some (.inr (some 29)), some (.inr (some 3)), some (.inr (some 13)), some (.inr (some 26)), some (.inl 6)]) (st' := []) (I' := I_95) rfl rfl ?_
    refine g_goto hC dX6_init_159 (tgt := 127) (by decide) ?_
    refine g_blk hC _ bX6_init_127_130 (pc' := 130) (ls' := [some (.inr (some 29)), some (.inr (some 3)), some (.inr (some 13)), some (.inr (some 26)), some (.inl 6)]) (st' := [.inl 5, .inl 6]) (I' := I_95) rfl rfl ?_
    refine g_cgt hC dX6_init_130 (tgt := 162) (by decide) (fun hc => ?_) (fun hc => absurd (by decide) hc)
    exact g_retG hC hr dX6_init_162 hv
  have k0 := key []
  rw [List.append_nil] at k0
  exact k0
def srq (I A I' A' : HI) : Prop := ZA 95 I' A' ∧ ChOK I' A' ∧ ∀ k, k < 29 → I' k = I k ∧ A' k = A k
theorem chq_next {n : Nat} {I A I' A' : HI} (h : chLq n I A I' A') : chL0 (n + 1) I' A' := ⟨⟨fun k hk => h.1.1 k (by omega), fun k hk => h.1.2 k (by omega)⟩, h.2.1⟩
theorem chq_keep {n k : Nat} {I A I' A' : HI} (h : chLq n I A I' A') (hk : k ≤ n) (hC : ChN k I A) : ChN k I' A' := hC.same (fun j _ h2 => h.2.2 j (by omega))
theorem chl_0 {I A : HI} (hZ : ZA 30 I A) : chL0 0 (up2 (up2 (up2 (up2 (up2 (up2 (up2 (up2 I 29 9 0) 29 10 0) 29 11 0) 29 12 0) 29 13 0) 68 5 0) 71 0 0) 71 1 1) A := by
  refine ⟨⟨fun k hk j => ?_, fun k hk => hZ.2 k (by omega)⟩, ?_, ?_, fun t ht => ⟨fun i hi => absurd hi (Nat.not_lt_zero _), ?_, fun h0 => ?_⟩⟩
  · rw [up2_k (by omega), up2_k (by omega), up2_k (by omega), up2_k (by omega), up2_k (by omega), up2_k (by omega), up2_k (by omega), up2_k (by omega)]
    exact hZ.1 k (by omega) j
  · rw [up2_j (by decide)]
    exact up2_s
  · exact up2_s
  · have : t = 0 := by
      have : facN 0 = 1 := rfl
      omega
    subst this
    rw [hZ.2 _ (by decide)]
    decide
  · have : facN 0 = 1 := rfl
    omega
set_option maxRecDepth 100000 in
theorem cG_X6_init (l : Launch) (D : va_G) (ads : AD) (I A : HI) (hZ : ZA 30 I A) : CtG l yX6_init cX6_init 5 3 72 65 5123 D ads z40 [.inr (some 29), .inr (some 3), .inr (some 13), .inr (some 26)] I A z85 (srq I A) := by
  refine kG_X6_init l D ads I A hZ _ ⟨chl_0 hZ, fun I1 A1 h1 => ⟨chq_next h1, fun I2 A2 h2 => ⟨chq_next h2, fun I3 A3 h3 => ⟨chq_next h3, fun I4 A4 h4 => ⟨chq_next h4, fun I5 A5 h5 => ⟨⟨h5.1.1, h5.1.2⟩, ?_, fun k hk => ?_⟩⟩⟩⟩⟩⟩
  · have c0 := (chl_0 hZ).2
    have c1 := chq_keep h1 (Nat.le_refl _) c0
    have c2 := chq_keep h2 (by decide) c1
    have c3 := chq_keep h3 (by decide) c2
    have c4 := chq_keep h4 (by decide) c3
    have c5 := chq_keep h5 (by decide) c4
    have d2 := chq_keep h2 (Nat.le_refl _) h1.2.1
    have d3 := chq_keep h3 (by decide) d2
    have d4 := chq_keep h4 (by decide) d3
    have d5 := chq_keep h5 (by decide) d4
    have e3 := chq_keep h3 (Nat.le_refl _) h2.2.1
    have e4 := chq_keep h4 (by decide) e3
    have e5 := chq_keep h5 (by decide) e4
    have f4 := chq_keep h4 (Nat.le_refl _) h3.2.1
    have f5 := chq_keep h5 (by decide) f4
    have g5 := chq_keep h5 (Nat.le_refl _) h4.2.1
    intro n hn
    show ChN n I5 A5
    match n, hn with
    | 0, _ => exact c5
    | 1, _ => exact d5
    | 2, _ => exact e5
    | 3, _ => exact f5
    | 4, _ => exact g5
    | 5, _ => exact h5.2.1
  · obtain ⟨a5, b5⟩ := h5.2.2 k (by omega)
    obtain ⟨a4, b4⟩ := h4.2.2 k (by omega)
    obtain ⟨a3, b3⟩ := h3.2.2 k (by omega)
    obtain ⟨a2, b2⟩ := h2.2.2 k (by omega)
    obtain ⟨a1, b1⟩ := h1.2.2 k (by omega)
    refine ⟨?_, by rw [b5, b4, b3, b2, b1]⟩
    rw [a5, a4, a3, a2, a1, up2_off (by omega), up2_off (by omega), up2_off (by omega), up2_off (by omega), up2_off (by omega), up2_off (by omega), up2_off (by omega), up2_off (by omega)]
theorem bX8_init_79_80 : okB cX8_init RX8 79 [(5, 0, 0, 0, 0)] := And.intro ⟨_, dX8_init_79, rfl⟩ trivial
theorem bX8_init_83_92 : okB cX8_init RX8 83 [(20, 0, 0, 0, 0), (5, 0, 0, 0, 0), (23, 21, 8, 1, 0), (5, 0, 0, 0, 0), (23, 46, 8, 4, 0)] := And.intro dX8_init_83 (And.intro ⟨_, dX8_init_84, rfl⟩ (And.intro ⟨dX8_init_85, fl_X8_21⟩ (And.intro ⟨_, dX8_init_88, rfl⟩ (And.intro ⟨dX8_init_89, fl_X8_46⟩ trivial))))
theorem bX1_init_0_1 : okB cX1_init RX1 0 [(5, 0, 0, 0, 0)] := And.intro ⟨_, dX1_init_0, rfl⟩ trivial
theorem bX1_init_4_6 : okB cX1_init RX1 4 [(5, 0, 0, 0, 0), (5, 1, 0, 0, 0)] := And.intro ⟨_, dX1_init_4, rfl⟩ (And.intro ⟨_, dX1_init_5, rfl⟩ trivial)
theorem bX1_init_9_11 : okB cX1_init RX1 9 [(5, 0, 0, 0, 0), (5, 2, 0, 0, 0)] := And.intro ⟨_, dX1_init_9, rfl⟩ (And.intro ⟨_, dX1_init_10, rfl⟩ trivial)
set_option maxHeartbeats 8000000 in
set_option maxRecDepth 100000 in
theorem kG_X1_init (l : Launch) (D : va_G) (ads : AD) (I A : HI) (hZ : ZA 96 I A) (po : HI → HI → Prop) (hv : po I A) : CtG l yX1_init cX1_init 3 1 20 0 0 D ads z87 [.inr (some 95), .inr (some 3), .inr (some 29)] I A z89 po := by
  refine CtG_of (by decide) rfl (Nat.le_of_ble_eq_true rfl) ?_
  intro p e s m args below meth c hC hE hin hr
  replace hC : CX p s m args meth c cX1_init 3 RX1 (AdS ads s.heap.size) := hC
  have key : ∀ nw : AD, G p l e { frames := 1, cells := 0, slots := 0, locals := 20 } s m args below meth c (MQ below (CPostG D ads z89 s.heap.size po) args s 0 0 (AdS ads s.heap.size)) D (AdS ads s.heap.size) 3 0 0 (ads ++ nw) z87 I A 0 [some (.inr (some 95)), some (.inr (some 3)), some (.inr (some 29))] [] := by
    intro nw
    refine g_blk hC _ bX1_init_0_1 (pc' := 1) (ls' := [some (.inr (some 95)), some (.inr (some 3)), some (.inr (some 29))]) (st' := [.inr (some 95)]) (I' := I) rfl rfl ?_
    refine g_obj hC wo_X1_3 wo_i wo_c dX1_init_1 (by decide) (Nat.le_of_ble_eq_true rfl) ?_
    refine g_blk hC _ bX1_init_4_6 (pc' := 6) (ls' := [some (.inr (some 95)), some (.inr (some 3)), some (.inr (some 29))]) (st' := [.inr (some 3), .inr (some 95)]) (I' := I) rfl rfl ?_
    refine h_putR hC hin (fs := [some none, some none]) (by decide +kernel) (by decide) (by decide) fl_X1_9 rfl rfl ⟨_, by decide +kernel, ty_obj (C := "RibbonSetter$Ranking")⟩ dX1_init_6 (sh' := z88) rfl ?_
    refine g_blk hC _ bX1_init_9_11 (pc' := 11) (ls' := [some (.inr (some 95)), some (.inr (some 3)), some (.inr (some 29))]) (st' := [.inr (some 29), .inr (some 95)]) (I' := I) rfl rfl ?_
    refine h_putR hC hin (fs := [some (some 3), some none]) (by decide +kernel) (by decide) (by decide) fl_X1_15 rfl rfl ⟨_, by decide +kernel, ty_obj (C := "RibbonSetter$Search")⟩ dX1_init_11 (sh' := z89) rfl ?_
    exact g_retG hC hr dX1_init_14 hv
  have k0 := key []
  rw [List.append_nil] at k0
  exact k0
theorem cG_X1_init (l : Launch) (D : va_G) (ads : AD) (I A : HI) (hZ : ZA 96 I A) : CtG l yX1_init cX1_init 3 1 20 0 0 D ads z87 [.inr (some 95), .inr (some 3), .inr (some 29)] I A z89 (fun I9 A9 => I9 = I ∧ A9 = A) := kG_X1_init l D ads I A hZ _ ⟨rfl, rfl⟩
theorem bX8_init_98_118 : okB cX8_init RX8 98 [(5, 0, 0, 0, 0), (0, 0, 0, 0, 4), (24, 59, 8, 6, 0), (5, 0, 0, 0, 0), (0, 0, 0, 0, 0), (24, 63, 8, 7, 0), (5, 0, 0, 0, 0), (0, 0, 0, 0, 0), (25, 66, 8, 8, 0), (5, 0, 0, 0, 0), (0, 0, 0, 0, 0), (25, 70, 8, 9, 0)] := And.intro ⟨_, dX8_init_98, rfl⟩ (And.intro ⟨_, dX8_init_99, by decide⟩ (And.intro ⟨dX8_init_100, fl_X8_59, rfl, rfl⟩ (And.intro ⟨_, dX8_init_103, rfl⟩ (And.intro ⟨_, dX8_init_104, by decide⟩ (And.intro ⟨dX8_init_105, fl_X8_63, rfl, rfl⟩ (And.intro ⟨_, dX8_init_108, rfl⟩ (And.intro ⟨_, dX8_init_109, by decide⟩ (And.intro ⟨dX8_init_110, fl_X8_66, rfl, rfl⟩ (And.intro ⟨_, dX8_init_113, rfl⟩ (And.intro ⟨_, dX8_init_114, by decide⟩ (And.intro ⟨dX8_init_115, fl_X8_70, rfl, rfl⟩ trivial)))))))))))
set_option maxHeartbeats 8000000 in
set_option maxRecDepth 100000 in
theorem kG_X8_init (l : Launch) (D : va_G) (ads : AD) (I A : HI) (hZ : ZA 1 I A) (po : HI → HI → Prop) (hv : (∀ (I_95 A_95 : HI), srq (up2 ((up2 (up2 (up2 (up2 (up2 I 1 1 0) 3 2 0) 3 11 0) 3 12 0) 3 13 0)) 26 2 0) (filA A 27 10 ((-1))) I_95 A_95 → po (up2 (up2 (up2 (up2 I_95 0 6 4) 0 7 0) 0 8 0) 0 9 0) A_95)) : CtG l yX8_init cX8_init 1 4 96 95 6769 D ads z1 [.inr (some 0)] I A z90 po := by
  refine CtG_of (by decide) rfl (Nat.le_of_ble_eq_true rfl) ?_
  intro p e s m args below meth c hC hE hin hr
  replace hC : CX p s m args meth c cX8_init 1 RX8 (AdS ads s.heap.size) := hC
  have key : ∀ nw : AD, G p l e { frames := 4, cells := 95, slots := 6769, locals := 96 } s m args below meth c (MQ below (CPostG D ads z90 s.heap.size po) args s 95 6769 (AdS ads s.heap.size)) D (AdS ads s.heap.size) 1 0 0 (ads ++ nw) z1 I A 0 [some (.inr (some 0))] [] := by
    intro nw
    refine g_blk hC _ bX8_init_0_1 (pc' := 1) (ls' := [some (.inr (some 0))]) (st' := [.inr (some 0)]) (I' := I) rfl rfl ?_
    refine g_obj hC wo_X8_3 wo_i wo_c dX8_init_1 (by decide) (Nat.le_of_ble_eq_true rfl) ?_
    refine g_blk hC _ bX8_init_4_5 (pc' := 5) (ls' := [some (.inr (some 0))]) (st' := [.inr (some 0)]) (I' := I) rfl rfl ?_
    refine h_new hC (ci := 2) (q := clsN 2) (fs := [some none, none]) rfl wk2_X8_9 wm_X2 wn_X2 (by decide) rfl (n := 1) (by decide +kernel) (fun j => by exact hZ.1 1 (by decide) j) (by decide +kernel) rfl (by decide) (by decide) dX8_init_5 (sh' := z2) (by decide +kernel) (fun nw => ?_)
    refine g_blk hC _ bX8_init_8_9 (pc' := 9) (ls' := [some (.inr (some 0))]) (st' := [.inr (some 1), .inr (some 1), .inr (some 0)]) (I' := I) rfl rfl ?_
    refine h_callIN (host := RX8) hC hE (cG_X2_init l D (ads ++ nw) I A ⟨fun k hk j => by exact hZ.1 k (by omega) j, fun k hk => by exact hZ.2 k (by omega)⟩) dX8_init_9 nm_X2_init rfl (List.mem_of_getElem? (i := 0) rfl) wi_X2_init wn_X2 wc_X2_init ⟨by decide, by decide⟩ (as := []) (rest := [.inr (some 1), .inr (some 0)]) rfl (Nat.le_of_ble_eq_true rfl) ⟨by decide, by decide⟩ (n := 2) (by decide +kernel) rfl (fun nw I9 A9 hq => ?_)
    obtain ⟨hq1, hq2⟩ := hq
    rw [hq1, hq2]
    clear hq1 hq2
    refine h_putR hC hin (fs := [some none, some none, some none, some none, some none, some none, none, none, none, none]) (by decide +kernel) (by decide) (by decide) fl_X8_12 rfl rfl ⟨_, by decide +kernel, ty_obj (C := "RibbonSetter$Flows")⟩ dX8_init_12 (sh' := z5) (by decide +kernel) ?_
    refine g_blk hC _ bX8_init_15_16 (pc' := 16) (ls' := [some (.inr (some 0))]) (st' := [.inr (some 0)]) (I' := up2 I 1 1 0) rfl rfl ?_
    refine h_new hC (ci := 5) (q := clsN 5) (fs := [some none, some none, none, some none, some none, some none, some none, some none, some none, some none, some none, none, none, none]) rfl wk2_X8_16 wm_X5 wn_X5 (by decide) rfl (n := 3) (by decide +kernel) (fun j => by rw [up2_k (by decide)]; exact hZ.1 3 (by decide) j) (by decide +kernel) rfl (by decide) (by decide) dX8_init_16 (sh' := z6) (by decide +kernel) (fun nw => ?_)
    refine g_blk hC _ bX8_init_19_24 (pc' := 24) (ls' := [some (.inr (some 0))]) (st' := [.inr (some 1), .inr (some 3), .inr (some 3), .inr (some 0)]) (I' := up2 I 1 1 0) rfl rfl ?_
    refine h_callI hC hE (cG_X5_init l D (ads ++ nw) (up2 I 1 1 0) A ⟨fun k hk j => by rw [up2_k (by omega)]; exact hZ.1 k (by omega) j, fun k hk => by exact hZ.2 k (by omega)⟩) dX8_init_24 nm_X5_init rfl wl_X8_18 wi_X5_init wn_X5 wc_X5_init ⟨by decide, by decide⟩ (as := [.inr (some 1)]) (rest := [.inr (some 3), .inr (some 0)]) rfl (Nat.le_of_ble_eq_true rfl) ⟨by decide, by decide⟩ (n := 4) (by decide +kernel) rfl (fun nw I9 A9 hq => ?_)
    obtain ⟨hq1, hq2⟩ := hq
    rw [hq1, hq2]
    clear hq1 hq2
    refine h_putR hC hin (fs := [some (some 1), some none, some none, some none, some none, some none, none, none, none, none]) (by decide +kernel) (by decide) (by decide) fl_X8_21 rfl rfl ⟨_, by decide +kernel, ty_obj (C := "RibbonSetter$Ranking")⟩ dX8_init_27 (sh' := z26) (by decide +kernel) ?_
    refine g_blk hC _ bX8_init_30_31 (pc' := 31) (ls' := [some (.inr (some 0))]) (st' := [.inr (some 0)]) (I' := up2 (up2 (up2 (up2 (up2 I 1 1 0) 3 2 0) 3 11 0) 3 12 0) 3 13 0) rfl rfl ?_
    refine h_new hC (ci := 7) (q := clsN 7) (fs := [some none, some none, some none]) rfl wk2_X8_25 wm_X7 wn_X7 (by decide) rfl (n := 13) (by decide +kernel) (fun j => by rw [up2_k (by decide)]; rw [up2_k (by decide)]; rw [up2_k (by decide)]; rw [up2_k (by decide)]; rw [up2_k (by decide)]; exact hZ.1 13 (by decide) j) (by decide +kernel) rfl (by decide) (by decide) dX8_init_31 (sh' := z27) (by decide +kernel) (fun nw => ?_)
    refine g_blk hC _ bX8_init_34_39 (pc' := 39) (ls' := [some (.inr (some 0))]) (st' := [.inr (some 3), .inr (some 13), .inr (some 13), .inr (some 0)]) (I' := up2 (up2 (up2 (up2 (up2 I 1 1 0) 3 2 0) 3 11 0) 3 12 0) 3 13 0) rfl rfl ?_
    refine h_callI hC hE (cG_X7_init l D (ads ++ nw) (up2 (up2 (up2 (up2 (up2 I 1 1 0) 3 2 0) 3 11 0) 3 12 0) 3 13 0) A ⟨fun k hk j => by rw [up2_k (by omega)]; rw [up2_k (by omega)]; rw [up2_k (by omega)]; rw [up2_k (by omega)]; rw [up2_k (by omega)]; exact hZ.1 k (by omega) j, fun k hk => by exact hZ.2 k (by omega)⟩) dX8_init_39 nm_X7_init rfl wl_X8_27 wi_X7_init wn_X7 wc_X7_init ⟨by decide, by decide⟩ (as := [.inr (some 3)]) (rest := [.inr (some 13), .inr (some 0)]) rfl (Nat.le_of_ble_eq_true rfl) ⟨by decide, by decide⟩ (n := 14) (by decide +kernel) rfl (fun nw I9 A9 hq => ?_)
    obtain ⟨hq1, hq2⟩ := hq
    rw [hq1, hq2]
    clear hq1 hq2
    refine h_putR hC hin (fs := [some (some 1), some (some 3), some none, some none, some none, some none, none, none, none, none]) (by decide +kernel) (by decide) (by decide) fl_X8_30 rfl rfl ⟨_, by decide +kernel, ty_obj (C := "RibbonSetter$Sheet")⟩ dX8_init_42 (sh' := z33) (by decide +kernel) ?_
    refine g_blk hC _ bX8_init_45_46 (pc' := 46) (ls' := [some (.inr (some 0))]) (st' := [.inr (some 0)]) (I' := (up2 (up2 (up2 (up2 (up2 I 1 1 0) 3 2 0) 3 11 0) 3 12 0) 3 13 0)) rfl rfl ?_
    refine h_new hC (ci := 4) (q := clsN 4) (fs := [some none, some none, none]) rfl wk2_X8_34 wm_X4 wn_X4 (by decide) rfl (n := 26) (by decide +kernel) (fun j => by rw [up2_k (by decide)]; rw [up2_k (by decide)]; rw [up2_k (by decide)]; rw [up2_k (by decide)]; rw [up2_k (by decide)]; exact hZ.1 26 (by decide) j) (by decide +kernel) rfl (by decide) (by decide) dX8_init_46 (sh' := z34) (by decide +kernel) (fun nw => ?_)
    refine g_blk hC _ bX8_init_49_50 (pc' := 50) (ls' := [some (.inr (some 0))]) (st' := [.inr (some 26), .inr (some 26), .inr (some 0)]) (I' := (up2 (up2 (up2 (up2 (up2 I 1 1 0) 3 2 0) 3 11 0) 3 12 0) 3 13 0)) rfl rfl ?_
    refine h_callI hC hE (cG_X4_init l D (ads ++ nw) ((up2 (up2 (up2 (up2 (up2 I 1 1 0) 3 2 0) 3 11 0) 3 12 0) 3 13 0)) A ⟨fun k hk j => by rw [up2_k (by omega)]; rw [up2_k (by omega)]; rw [up2_k (by omega)]; rw [up2_k (by omega)]; rw [up2_k (by omega)]; exact hZ.1 k (by omega) j, fun k hk => by exact hZ.2 k (by omega)⟩) dX8_init_50 nm_X4_init rfl wl_X8_36 wi_X4_init wn_X4 wc_X4_init ⟨by decide, by decide⟩ (as := []) (rest := [.inr (some 26), .inr (some 0)]) rfl (Nat.le_of_ble_eq_true rfl) ⟨by decide, by decide⟩ (n := 27) (by decide +kernel) rfl (fun nw I9 A9 hq => ?_)
    obtain ⟨hq1, hq2⟩ := hq
    rw [hq1, hq2]
    clear hq1 hq2
    refine h_putR hC hin (fs := [some (some 1), some (some 3), some (some 13), some none, some none, some none, none, none, none, none]) (by decide +kernel) (by decide) (by decide) fl_X8_37 rfl rfl ⟨_, by decide +kernel, ty_obj (C := "RibbonSetter$Kept")⟩ dX8_init_53 (sh' := z39) (by decide +kernel) ?_
    refine g_blk hC _ bX8_init_56_57 (pc' := 57) (ls' := [some (.inr (some 0))]) (st' := [.inr (some 0)]) (I' := up2 ((up2 (up2 (up2 (up2 (up2 I 1 1 0) 3 2 0) 3 11 0) 3 12 0) 3 13 0)) 26 2 0) rfl rfl ?_
    refine h_new hC (ci := 6) (q := clsN 6) (fs := [some none, some none, some none, some none, some none, some none, some none, some none, some none, none, none, none, none, none]) rfl wk2_X8_41 wm_X6 wn_X6 (by decide) rfl (n := 29) (by decide +kernel) (fun j => by rw [up2_k (by decide)]; rw [up2_k (by decide)]; rw [up2_k (by decide)]; rw [up2_k (by decide)]; rw [up2_k (by decide)]; rw [up2_k (by decide)]; exact hZ.1 29 (by decide) j) (by decide +kernel) rfl (by decide) (by decide) dX8_init_57 (sh' := z40) (by decide +kernel) (fun nw => ?_)
    refine g_blk hC _ bX8_init_60_73 (pc' := 73) (ls' := [some (.inr (some 0))]) (st' := [.inr (some 26), .inr (some 13), .inr (some 3), .inr (some 29), .inr (some 29), .inr (some 0)]) (I' := up2 ((up2 (up2 (up2 (up2 (up2 I 1 1 0) 3 2 0) 3 11 0) 3 12 0) 3 13 0)) 26 2 0) rfl rfl ?_
    refine h_callI hC hE (cG_X6_init l D (ads ++ nw) (up2 ((up2 (up2 (up2 (up2 (up2 I 1 1 0) 3 2 0) 3 11 0) 3 12 0) 3 13 0)) 26 2 0) (filA A 27 10 ((-1))) ⟨fun k hk j => by rw [up2_k (by omega)]; rw [up2_k (by omega)]; rw [up2_k (by omega)]; rw [up2_k (by omega)]; rw [up2_k (by omega)]; rw [up2_k (by omega)]; exact hZ.1 k (by omega) j, fun k hk => by rw [fil_off (by omega)]; exact hZ.2 k (by omega)⟩) dX8_init_73 nm_X6_init rfl wl_X8_43 wi_X6_init wn_X6 wc_X6_init ⟨by decide, by decide⟩ (as := [.inr (some 3), .inr (some 13), .inr (some 26)]) (rest := [.inr (some 29), .inr (some 0)]) rfl (Nat.le_of_ble_eq_true rfl) ⟨by decide, by decide⟩ (n := 30) (by decide +kernel) rfl (fun nw I_95 A_95 hq => ?_)
    replace hv := hv I_95 A_95 hq
    obtain ⟨hZ95, -⟩ := hq
    refine h_putR hC hin (fs := [some (some 1), some (some 3), some (some 13), some (some 26), some none, some none, none, none, none, none]) (by decide +kernel) (by decide) (by decide) fl_X8_46 rfl rfl ⟨_, by decide +kernel, ty_obj (C := "RibbonSetter$Search")⟩ dX8_init_76 (sh' := z86) (by decide +kernel) ?_
    refine g_blk hC _ bX8_init_79_80 (pc' := 80) (ls' := [some (.inr (some 0))]) (st' := [.inr (some 0)]) (I' := I_95) rfl rfl ?_
    refine h_new hC (ci := 1) (q := clsN 1) (fs := [some none, some none]) rfl wk2_X8_50 wm_X1 wn_X1 (by decide) rfl (n := 95) (by decide +kernel) (fun j => by exact hZ95.1 95 (by decide) j) (by decide +kernel) rfl (by decide) (by decide) dX8_init_80 (sh' := z87) (by decide +kernel) (fun nw => ?_)
    refine g_blk hC _ bX8_init_83_92 (pc' := 92) (ls' := [some (.inr (some 0))]) (st' := [.inr (some 29), .inr (some 3), .inr (some 95), .inr (some 95), .inr (some 0)]) (I' := I_95) rfl rfl ?_
    refine h_callI hC hE (cG_X1_init l D (ads ++ nw) I_95 A_95 ⟨fun k hk j => by exact hZ95.1 k (by omega) j, fun k hk => by exact hZ95.2 k (by omega)⟩) dX8_init_92 nm_X1_init rfl wl_X8_52 wi_X1_init wn_X1 wc_X1_init ⟨by decide, by decide⟩ (as := [.inr (some 3), .inr (some 29)]) (rest := [.inr (some 95), .inr (some 0)]) rfl (Nat.le_of_ble_eq_true rfl) ⟨by decide, by decide⟩ (n := 96) (by decide +kernel) rfl (fun nw I9 A9 hq => ?_)
    obtain ⟨hq1, hq2⟩ := hq
    rw [hq1, hq2]
    clear hq1 hq2
    refine h_putR hC hin (fs := [some (some 1), some (some 3), some (some 13), some (some 26), some (some 29), some none, none, none, none, none]) (by decide +kernel) (by decide) (by decide) fl_X8_55 rfl rfl ⟨_, by decide +kernel, ty_obj (C := "RibbonSetter$Drawing")⟩ dX8_init_95 (sh' := z90) (by decide +kernel) ?_
    refine g_blk hC _ bX8_init_98_118 (pc' := 118) (ls' := [some (.inr (some 0))]) (st' := []) (I' := up2 (up2 (up2 (up2 I_95 0 6 4) 0 7 0) 0 8 0) 0 9 0) rfl rfl ?_
    exact g_retG hC hr dX8_init_118 hv
  have k0 := key []
  rw [List.append_nil] at k0
  exact k0
theorem bX9_init_0_1 : okB cX9_init RX9 0 [(5, 0, 0, 0, 0)] := And.intro ⟨_, dX9_init_0, rfl⟩ trivial
theorem bX9_init_4_7 : okB cX9_init RX9 4 [(5, 0, 0, 0, 0), (1, 0, 0, 0, 100)] := And.intro ⟨_, dX9_init_4, rfl⟩ (And.intro ⟨_, dX9_init_5, by decide⟩ trivial)
theorem bX9_init_12_20 : okB cX9_init RX9 12 [(5, 0, 0, 0, 0), (0, 0, 0, 0, 4), (24, 13, 9, 2, 0), (5, 0, 0, 0, 0), (1, 0, 0, 0, 10)] := And.intro ⟨_, dX9_init_12, rfl⟩ (And.intro ⟨_, dX9_init_13, by decide⟩ (And.intro ⟨dX9_init_14, fl_X9_13, rfl, rfl⟩ (And.intro ⟨_, dX9_init_17, rfl⟩ (And.intro ⟨_, dX9_init_18, by decide⟩ trivial))))
theorem bX9_init_22_25 : okB cX9_init RX9 22 [(20, 0, 0, 0, 0), (0, 0, 0, 0, 0), (0, 0, 0, 0, (-1))] := And.intro dX9_init_22 (And.intro ⟨_, dX9_init_23, by decide⟩ (And.intro ⟨_, dX9_init_24, by decide⟩ trivial))
theorem bX9_init_26_29 : okB cX9_init RX9 26 [(20, 0, 0, 0, 0), (0, 0, 0, 0, 1), (0, 0, 0, 0, (-1))] := And.intro dX9_init_26 (And.intro ⟨_, dX9_init_27, by decide⟩ (And.intro ⟨_, dX9_init_28, by decide⟩ trivial))
theorem bX9_init_30_33 : okB cX9_init RX9 30 [(20, 0, 0, 0, 0), (0, 0, 0, 0, 2), (0, 0, 0, 0, (-1))] := And.intro dX9_init_30 (And.intro ⟨_, dX9_init_31, by decide⟩ (And.intro ⟨_, dX9_init_32, by decide⟩ trivial))
theorem bX9_init_34_37 : okB cX9_init RX9 34 [(20, 0, 0, 0, 0), (0, 0, 0, 0, 3), (0, 0, 0, 0, (-1))] := And.intro dX9_init_34 (And.intro ⟨_, dX9_init_35, by decide⟩ (And.intro ⟨_, dX9_init_36, by decide⟩ trivial))
theorem bX9_init_38_41 : okB cX9_init RX9 38 [(20, 0, 0, 0, 0), (0, 0, 0, 0, 4), (0, 0, 0, 0, (-1))] := And.intro dX9_init_38 (And.intro ⟨_, dX9_init_39, by decide⟩ (And.intro ⟨_, dX9_init_40, by decide⟩ trivial))
theorem bX9_init_42_45 : okB cX9_init RX9 42 [(20, 0, 0, 0, 0), (0, 0, 0, 0, 5), (0, 0, 0, 0, (-1))] := And.intro dX9_init_42 (And.intro ⟨_, dX9_init_43, by decide⟩ (And.intro ⟨_, dX9_init_44, by decide⟩ trivial))
theorem bX9_init_46_50 : okB cX9_init RX9 46 [(20, 0, 0, 0, 0), (1, 0, 0, 0, 6), (0, 0, 0, 0, (-1))] := And.intro dX9_init_46 (And.intro ⟨_, dX9_init_47, by decide⟩ (And.intro ⟨_, dX9_init_49, by decide⟩ trivial))
theorem bX9_init_51_55 : okB cX9_init RX9 51 [(20, 0, 0, 0, 0), (1, 0, 0, 0, 7), (0, 0, 0, 0, (-1))] := And.intro dX9_init_51 (And.intro ⟨_, dX9_init_52, by decide⟩ (And.intro ⟨_, dX9_init_54, by decide⟩ trivial))
theorem bX9_init_56_60 : okB cX9_init RX9 56 [(20, 0, 0, 0, 0), (1, 0, 0, 0, 8), (0, 0, 0, 0, (-1))] := And.intro dX9_init_56 (And.intro ⟨_, dX9_init_57, by decide⟩ (And.intro ⟨_, dX9_init_59, by decide⟩ trivial))
theorem bX9_init_61_65 : okB cX9_init RX9 61 [(20, 0, 0, 0, 0), (1, 0, 0, 0, 9), (0, 0, 0, 0, (-1))] := And.intro dX9_init_61 (And.intro ⟨_, dX9_init_62, by decide⟩ (And.intro ⟨_, dX9_init_64, by decide⟩ trivial))
theorem bX9_init_69_72 : okB cX9_init RX9 69 [(5, 0, 0, 0, 0), (1, 0, 0, 0, 10)] := And.intro ⟨_, dX9_init_69, rfl⟩ (And.intro ⟨_, dX9_init_70, by decide⟩ trivial)
theorem bX9_init_77_80 : okB cX9_init RX9 77 [(5, 0, 0, 0, 0), (1, 0, 0, 0, 10)] := And.intro ⟨_, dX9_init_77, rfl⟩ (And.intro ⟨_, dX9_init_78, by decide⟩ trivial)
theorem bX9_init_85_88 : okB cX9_init RX9 85 [(5, 0, 0, 0, 0), (1, 0, 0, 0, 10)] := And.intro ⟨_, dX9_init_85, rfl⟩ (And.intro ⟨_, dX9_init_86, by decide⟩ trivial)
theorem bX9_init_93_96 : okB cX9_init RX9 93 [(5, 0, 0, 0, 0), (1, 0, 0, 0, 10)] := And.intro ⟨_, dX9_init_93, rfl⟩ (And.intro ⟨_, dX9_init_94, by decide⟩ trivial)
theorem bX9_init_101_105 : okB cX9_init RX9 101 [(5, 0, 0, 0, 0), (2, 0, 0, 0, 1024)] := And.intro ⟨_, dX9_init_101, rfl⟩ (And.intro ⟨_, dX9_init_102, by decide⟩ trivial)
theorem bX9_init_110_113 : okB cX9_init RX9 110 [(5, 0, 0, 0, 0), (1, 0, 0, 0, 10)] := And.intro ⟨_, dX9_init_110, rfl⟩ (And.intro ⟨_, dX9_init_111, by decide⟩ trivial)
theorem bX9_init_118_122 : okB cX9_init RX9 118 [(5, 0, 0, 0, 0), (2, 0, 0, 0, 300)] := And.intro ⟨_, dX9_init_118, rfl⟩ (And.intro ⟨_, dX9_init_119, by decide⟩ trivial)
theorem bX9_init_127_130 : okB cX9_init RX9 127 [(5, 0, 0, 0, 0), (1, 0, 0, 0, 10)] := And.intro ⟨_, dX9_init_127, rfl⟩ (And.intro ⟨_, dX9_init_128, by decide⟩ trivial)
theorem bX9_init_135_139 : okB cX9_init RX9 135 [(5, 0, 0, 0, 0), (2, 0, 0, 0, 160)] := And.intro ⟨_, dX9_init_135, rfl⟩ (And.intro ⟨_, dX9_init_136, by decide⟩ trivial)
theorem bX9_init_144_148 : okB cX9_init RX9 144 [(5, 0, 0, 0, 0), (2, 0, 0, 0, 160)] := And.intro ⟨_, dX9_init_144, rfl⟩ (And.intro ⟨_, dX9_init_145, by decide⟩ trivial)
theorem bX9_init_153_157 : okB cX9_init RX9 153 [(5, 0, 0, 0, 0), (2, 0, 0, 0, 160)] := And.intro ⟨_, dX9_init_153, rfl⟩ (And.intro ⟨_, dX9_init_154, by decide⟩ trivial)
theorem bX9_init_162_166 : okB cX9_init RX9 162 [(5, 0, 0, 0, 0), (2, 0, 0, 0, 3600)] := And.intro ⟨_, dX9_init_162, rfl⟩ (And.intro ⟨_, dX9_init_163, by decide⟩ trivial)
theorem bX9_init_171_175 : okB cX9_init RX9 171 [(5, 0, 0, 0, 0), (2, 0, 0, 0, 1200)] := And.intro ⟨_, dX9_init_171, rfl⟩ (And.intro ⟨_, dX9_init_172, by decide⟩ trivial)
theorem bX9_init_180_184 : okB cX9_init RX9 180 [(5, 0, 0, 0, 0), (2, 0, 0, 0, 1200)] := And.intro ⟨_, dX9_init_180, rfl⟩ (And.intro ⟨_, dX9_init_181, by decide⟩ trivial)
theorem bX9_init_189_192 : okB cX9_init RX9 189 [(5, 0, 0, 0, 0), (1, 0, 0, 0, 10)] := And.intro ⟨_, dX9_init_189, rfl⟩ (And.intro ⟨_, dX9_init_190, by decide⟩ trivial)
set_option maxHeartbeats 8000000 in
set_option maxRecDepth 100000 in
theorem kG_X9_init (l : Launch) (D : va_G) (ads : AD) (I A : HI) (hZ : ZA 97 I A) (po : HI → HI → Prop) (hv : po (up2 I 96 2 4) (up2 (up2 (up2 (up2 (up2 (up2 (up2 (up2 (up2 (up2 A 98 (0 : Int32).toNatClampNeg ((-1))) 98 (1 : Int32).toNatClampNeg ((-1))) 98 (2 : Int32).toNatClampNeg ((-1))) 98 (3 : Int32).toNatClampNeg ((-1))) 98 (4 : Int32).toNatClampNeg ((-1))) 98 (5 : Int32).toNatClampNeg ((-1))) 98 (6 : Int32).toNatClampNeg ((-1))) 98 (7 : Int32).toNatClampNeg ((-1))) 98 (8 : Int32).toNatClampNeg ((-1))) 98 (9 : Int32).toNatClampNeg ((-1)))) : CtG l yX9_init cX9_init 1 1 20 17 7984 D ads z91 [.inr (some 96)] I A z125 po := by
  refine CtG_of (by decide) rfl (Nat.le_of_ble_eq_true rfl) ?_
  intro p e s m args below meth c hC hE hin hr
  replace hC : CX p s m args meth c cX9_init 1 RX9 (AdS ads s.heap.size) := hC
  have key : ∀ nw : AD, G p l e { frames := 1, cells := 17, slots := 7984, locals := 20 } s m args below meth c (MQ below (CPostG D ads z125 s.heap.size po) args s 17 7984 (AdS ads s.heap.size)) D (AdS ads s.heap.size) 1 0 0 (ads ++ nw) z91 I A 0 [some (.inr (some 96))] [] := by
    intro nw
    refine g_blk hC _ bX9_init_0_1 (pc' := 1) (ls' := [some (.inr (some 96))]) (st' := [.inr (some 96)]) (I' := I) rfl rfl ?_
    refine g_obj hC wo_X9_1 wo_i wo_c dX9_init_1 (by decide) (Nat.le_of_ble_eq_true rfl) ?_
    refine g_blk hC _ bX9_init_4_7 (pc' := 7) (ls' := [some (.inr (some 96))]) (st' := [.inl 100, .inr (some 96)]) (I' := I) rfl rfl ?_
    refine h_newa hC (N := 100) wa_int (by decide) (by decide) (by decide) (n := 97) (by decide +kernel) (by exact hZ.2 97 (by decide)) (by decide +kernel) rfl (by decide) (by decide) dX9_init_7 (sh' := z92) rfl (fun nw => ?_)
    refine h_putR hC hin (fs := [none, some none, none, none, none, some none, some none, none, none, some none, some none, some none, none, some none, none, some none, some none, some none, some none, some none, some none, some none, none, none, some none, some none, some none, none, none]) (by decide +kernel) (by decide) (by decide) fl_X9_7 rfl rfl ⟨_, by decide +kernel, ty_arr⟩ dX9_init_9 (sh' := z93) rfl ?_
    refine g_blk hC _ bX9_init_12_20 (pc' := 20) (ls' := [some (.inr (some 96))]) (st' := [.inl 10, .inr (some 96)]) (I' := up2 I 96 2 4) rfl rfl ?_
    refine h_newa hC (N := 10) wa_int (by decide) (by decide) (by decide) (n := 98) (by decide +kernel) (by exact hZ.2 98 (by decide)) (by decide +kernel) rfl (by decide) (by decide) dX9_init_20 (sh' := z94) rfl (fun nw => ?_)
    refine g_blk hC _ bX9_init_22_25 (pc' := 25) (ls' := [some (.inr (some 96))]) (st' := [.inl ((-1)), .inl 0, .inr (some 98), .inr (some 98), .inr (some 96)]) (I' := up2 I 96 2 4) rfl rfl ?_
    refine g_iast hC dX9_init_25 (n := 10) (by decide +kernel) (by unfold vp_in; decide) ?_
    refine g_blk hC _ bX9_init_26_29 (pc' := 29) (ls' := [some (.inr (some 96))]) (st' := [.inl ((-1)), .inl 1, .inr (some 98), .inr (some 98), .inr (some 96)]) (I' := up2 I 96 2 4) rfl rfl ?_
    refine g_iast hC dX9_init_29 (n := 10) (by decide +kernel) (by unfold vp_in; decide) ?_
    refine g_blk hC _ bX9_init_30_33 (pc' := 33) (ls' := [some (.inr (some 96))]) (st' := [.inl ((-1)), .inl 2, .inr (some 98), .inr (some 98), .inr (some 96)]) (I' := up2 I 96 2 4) rfl rfl ?_
    refine g_iast hC dX9_init_33 (n := 10) (by decide +kernel) (by unfold vp_in; decide) ?_
    refine g_blk hC _ bX9_init_34_37 (pc' := 37) (ls' := [some (.inr (some 96))]) (st' := [.inl ((-1)), .inl 3, .inr (some 98), .inr (some 98), .inr (some 96)]) (I' := up2 I 96 2 4) rfl rfl ?_
    refine g_iast hC dX9_init_37 (n := 10) (by decide +kernel) (by unfold vp_in; decide) ?_
    refine g_blk hC _ bX9_init_38_41 (pc' := 41) (ls' := [some (.inr (some 96))]) (st' := [.inl ((-1)), .inl 4, .inr (some 98), .inr (some 98), .inr (some 96)]) (I' := up2 I 96 2 4) rfl rfl ?_
    refine g_iast hC dX9_init_41 (n := 10) (by decide +kernel) (by unfold vp_in; decide) ?_
    refine g_blk hC _ bX9_init_42_45 (pc' := 45) (ls' := [some (.inr (some 96))]) (st' := [.inl ((-1)), .inl 5, .inr (some 98), .inr (some 98), .inr (some 96)]) (I' := up2 I 96 2 4) rfl rfl ?_
    refine g_iast hC dX9_init_45 (n := 10) (by decide +kernel) (by unfold vp_in; decide) ?_
    refine g_blk hC _ bX9_init_46_50 (pc' := 50) (ls' := [some (.inr (some 96))]) (st' := [.inl ((-1)), .inl 6, .inr (some 98), .inr (some 98), .inr (some 96)]) (I' := up2 I 96 2 4) rfl rfl ?_
    refine g_iast hC dX9_init_50 (n := 10) (by decide +kernel) (by unfold vp_in; decide) ?_
    refine g_blk hC _ bX9_init_51_55 (pc' := 55) (ls' := [some (.inr (some 96))]) (st' := [.inl ((-1)), .inl 7, .inr (some 98), .inr (some 98), .inr (some 96)]) (I' := up2 I 96 2 4) rfl rfl ?_
    refine g_iast hC dX9_init_55 (n := 10) (by decide +kernel) (by unfold vp_in; decide) ?_
    refine g_blk hC _ bX9_init_56_60 (pc' := 60) (ls' := [some (.inr (some 96))]) (st' := [.inl ((-1)), .inl 8, .inr (some 98), .inr (some 98), .inr (some 96)]) (I' := up2 I 96 2 4) rfl rfl ?_
    refine g_iast hC dX9_init_60 (n := 10) (by decide +kernel) (by unfold vp_in; decide) ?_
    refine g_blk hC _ bX9_init_61_65 (pc' := 65) (ls' := [some (.inr (some 96))]) (st' := [.inl ((-1)), .inl 9, .inr (some 98), .inr (some 98), .inr (some 96)]) (I' := up2 I 96 2 4) rfl rfl ?_
    refine g_iast hC dX9_init_65 (n := 10) (by decide +kernel) (by unfold vp_in; decide) ?_
    refine h_putR hC hin (fs := [none, some (some 97), none, none, none, some none, some none, none, none, some none, some none, some none, none, some none, none, some none, some none, some none, some none, some none, some none, some none, none, none, some none, some none, some none, none, none]) (by decide +kernel) (by decide) (by decide) fl_X9_17 rfl rfl ⟨_, by decide +kernel, ty_arr⟩ dX9_init_66 (sh' := z95) rfl ?_
    refine g_blk hC _ bX9_init_69_72 (pc' := 72) (ls' := [some (.inr (some 96))]) (st' := [.inl 10, .inr (some 96)]) (I' := up2 I 96 2 4) rfl rfl ?_
    refine h_newa hC (N := 10) wa_int (by decide) (by decide) (by decide) (n := 99) (by decide +kernel) (by rw [up2_off (by decide)]; rw [up2_off (by decide)]; rw [up2_off (by decide)]; rw [up2_off (by decide)]; rw [up2_off (by decide)]; rw [up2_off (by decide)]; rw [up2_off (by decide)]; rw [up2_off (by decide)]; rw [up2_off (by decide)]; rw [up2_off (by decide)]; exact hZ.2 99 (by decide)) (by decide +kernel) rfl (by decide) (by decide) dX9_init_72 (sh' := z96) rfl (fun nw => ?_)
    refine h_putR hC hin (fs := [none, some (some 97), none, none, none, some (some 98), some none, none, none, some none, some none, some none, none, some none, none, some none, some none, some none, some none, some none, some none, some none, none, none, some none, some none, some none, none, none]) (by decide +kernel) (by decide) (by decide) fl_X9_20 rfl rfl ⟨_, by decide +kernel, ty_arr⟩ dX9_init_74 (sh' := z97) rfl ?_
    refine g_blk hC _ bX9_init_77_80 (pc' := 80) (ls' := [some (.inr (some 96))]) (st' := [.inl 10, .inr (some 96)]) (I' := up2 I 96 2 4) rfl rfl ?_
    refine h_newa hC (N := 10) wa_int (by decide) (by decide) (by decide) (n := 100) (by decide +kernel) (by rw [up2_off (by decide)]; rw [up2_off (by decide)]; rw [up2_off (by decide)]; rw [up2_off (by decide)]; rw [up2_off (by decide)]; rw [up2_off (by decide)]; rw [up2_off (by decide)]; rw [up2_off (by decide)]; rw [up2_off (by decide)]; rw [up2_off (by decide)]; exact hZ.2 100 (by decide)) (by decide +kernel) rfl (by decide) (by decide) dX9_init_80 (sh' := z98) rfl (fun nw => ?_)
    refine h_putR hC hin (fs := [none, some (some 97), none, none, none, some (some 98), some (some 99), none, none, some none, some none, some none, none, some none, none, some none, some none, some none, some none, some none, some none, some none, none, none, some none, some none, some none, none, none]) (by decide +kernel) (by decide) (by decide) fl_X9_23 rfl rfl ⟨_, by decide +kernel, ty_arr⟩ dX9_init_82 (sh' := z99) rfl ?_
    refine g_blk hC _ bX9_init_85_88 (pc' := 88) (ls' := [some (.inr (some 96))]) (st' := [.inl 10, .inr (some 96)]) (I' := up2 I 96 2 4) rfl rfl ?_
    refine h_newa hC (N := 10) wa_int (by decide) (by decide) (by decide) (n := 101) (by decide +kernel) (by rw [up2_off (by decide)]; rw [up2_off (by decide)]; rw [up2_off (by decide)]; rw [up2_off (by decide)]; rw [up2_off (by decide)]; rw [up2_off (by decide)]; rw [up2_off (by decide)]; rw [up2_off (by decide)]; rw [up2_off (by decide)]; rw [up2_off (by decide)]; exact hZ.2 101 (by decide)) (by decide +kernel) rfl (by decide) (by decide) dX9_init_88 (sh' := z100) rfl (fun nw => ?_)
    refine h_putR hC hin (fs := [none, some (some 97), none, none, none, some (some 98), some (some 99), none, none, some (some 100), some none, some none, none, some none, none, some none, some none, some none, some none, some none, some none, some none, none, none, some none, some none, some none, none, none]) (by decide +kernel) (by decide) (by decide) fl_X9_26 rfl rfl ⟨_, by decide +kernel, ty_arr⟩ dX9_init_90 (sh' := z101) rfl ?_
    refine g_blk hC _ bX9_init_93_96 (pc' := 96) (ls' := [some (.inr (some 96))]) (st' := [.inl 10, .inr (some 96)]) (I' := up2 I 96 2 4) rfl rfl ?_
    refine h_newa hC (N := 10) wa_int (by decide) (by decide) (by decide) (n := 102) (by decide +kernel) (by rw [up2_off (by decide)]; rw [up2_off (by decide)]; rw [up2_off (by decide)]; rw [up2_off (by decide)]; rw [up2_off (by decide)]; rw [up2_off (by decide)]; rw [up2_off (by decide)]; rw [up2_off (by decide)]; rw [up2_off (by decide)]; rw [up2_off (by decide)]; exact hZ.2 102 (by decide)) (by decide +kernel) rfl (by decide) (by decide) dX9_init_96 (sh' := z102) rfl (fun nw => ?_)
    refine h_putR hC hin (fs := [none, some (some 97), none, none, none, some (some 98), some (some 99), none, none, some (some 100), some (some 101), some none, none, some none, none, some none, some none, some none, some none, some none, some none, some none, none, none, some none, some none, some none, none, none]) (by decide +kernel) (by decide) (by decide) fl_X9_29 rfl rfl ⟨_, by decide +kernel, ty_arr⟩ dX9_init_98 (sh' := z103) rfl ?_
    refine g_blk hC _ bX9_init_101_105 (pc' := 105) (ls' := [some (.inr (some 96))]) (st' := [.inl 1024, .inr (some 96)]) (I' := up2 I 96 2 4) rfl rfl ?_
    refine h_newa hC (N := 1024) wa_int (by decide) (by decide) (by decide) (n := 103) (by decide +kernel) (by rw [up2_off (by decide)]; rw [up2_off (by decide)]; rw [up2_off (by decide)]; rw [up2_off (by decide)]; rw [up2_off (by decide)]; rw [up2_off (by decide)]; rw [up2_off (by decide)]; rw [up2_off (by decide)]; rw [up2_off (by decide)]; rw [up2_off (by decide)]; exact hZ.2 103 (by decide)) (by decide +kernel) rfl (by decide) (by decide) dX9_init_105 (sh' := z104) rfl (fun nw => ?_)
    refine h_putR hC hin (fs := [none, some (some 97), none, none, none, some (some 98), some (some 99), none, none, some (some 100), some (some 101), some (some 102), none, some none, none, some none, some none, some none, some none, some none, some none, some none, none, none, some none, some none, some none, none, none]) (by decide +kernel) (by decide) (by decide) fl_X9_32 rfl rfl ⟨_, by decide +kernel, ty_arr⟩ dX9_init_107 (sh' := z105) rfl ?_
    refine g_blk hC _ bX9_init_110_113 (pc' := 113) (ls' := [some (.inr (some 96))]) (st' := [.inl 10, .inr (some 96)]) (I' := up2 I 96 2 4) rfl rfl ?_
    refine h_newa hC (N := 10) wa_int (by decide) (by decide) (by decide) (n := 104) (by decide +kernel) (by rw [up2_off (by decide)]; rw [up2_off (by decide)]; rw [up2_off (by decide)]; rw [up2_off (by decide)]; rw [up2_off (by decide)]; rw [up2_off (by decide)]; rw [up2_off (by decide)]; rw [up2_off (by decide)]; rw [up2_off (by decide)]; rw [up2_off (by decide)]; exact hZ.2 104 (by decide)) (by decide +kernel) rfl (by decide) (by decide) dX9_init_113 (sh' := z106) rfl (fun nw => ?_)
    refine h_putR hC hin (fs := [none, some (some 97), none, none, none, some (some 98), some (some 99), none, none, some (some 100), some (some 101), some (some 102), none, some (some 103), none, some none, some none, some none, some none, some none, some none, some none, none, none, some none, some none, some none, none, none]) (by decide +kernel) (by decide) (by decide) fl_X9_35 rfl rfl ⟨_, by decide +kernel, ty_arr⟩ dX9_init_115 (sh' := z107) rfl ?_
    refine g_blk hC _ bX9_init_118_122 (pc' := 122) (ls' := [some (.inr (some 96))]) (st' := [.inl 300, .inr (some 96)]) (I' := up2 I 96 2 4) rfl rfl ?_
    refine h_newa hC (N := 300) wa_int (by decide) (by decide) (by decide) (n := 105) (by decide +kernel) (by rw [up2_off (by decide)]; rw [up2_off (by decide)]; rw [up2_off (by decide)]; rw [up2_off (by decide)]; rw [up2_off (by decide)]; rw [up2_off (by decide)]; rw [up2_off (by decide)]; rw [up2_off (by decide)]; rw [up2_off (by decide)]; rw [up2_off (by decide)]; exact hZ.2 105 (by decide)) (by decide +kernel) rfl (by decide) (by decide) dX9_init_122 (sh' := z108) rfl (fun nw => ?_)
    refine h_putR hC hin (fs := [none, some (some 97), none, none, none, some (some 98), some (some 99), none, none, some (some 100), some (some 101), some (some 102), none, some (some 103), none, some (some 104), some none, some none, some none, some none, some none, some none, none, none, some none, some none, some none, none, none]) (by decide +kernel) (by decide) (by decide) fl_X9_38 rfl rfl ⟨_, by decide +kernel, ty_arr⟩ dX9_init_124 (sh' := z109) rfl ?_
    refine g_blk hC _ bX9_init_127_130 (pc' := 130) (ls' := [some (.inr (some 96))]) (st' := [.inl 10, .inr (some 96)]) (I' := up2 I 96 2 4) rfl rfl ?_
    refine h_newa hC (N := 10) wa_int (by decide) (by decide) (by decide) (n := 106) (by decide +kernel) (by rw [up2_off (by decide)]; rw [up2_off (by decide)]; rw [up2_off (by decide)]; rw [up2_off (by decide)]; rw [up2_off (by decide)]; rw [up2_off (by decide)]; rw [up2_off (by decide)]; rw [up2_off (by decide)]; rw [up2_off (by decide)]; rw [up2_off (by decide)]; exact hZ.2 106 (by decide)) (by decide +kernel) rfl (by decide) (by decide) dX9_init_130 (sh' := z110) rfl (fun nw => ?_)
    refine h_putR hC hin (fs := [none, some (some 97), none, none, none, some (some 98), some (some 99), none, none, some (some 100), some (some 101), some (some 102), none, some (some 103), none, some (some 104), some (some 105), some none, some none, some none, some none, some none, none, none, some none, some none, some none, none, none]) (by decide +kernel) (by decide) (by decide) fl_X9_41 rfl rfl ⟨_, by decide +kernel, ty_arr⟩ dX9_init_132 (sh' := z111) rfl ?_
    refine g_blk hC _ bX9_init_135_139 (pc' := 139) (ls' := [some (.inr (some 96))]) (st' := [.inl 160, .inr (some 96)]) (I' := up2 I 96 2 4) rfl rfl ?_
    refine h_newa hC (N := 160) wa_int (by decide) (by decide) (by decide) (n := 107) (by decide +kernel) (by rw [up2_off (by decide)]; rw [up2_off (by decide)]; rw [up2_off (by decide)]; rw [up2_off (by decide)]; rw [up2_off (by decide)]; rw [up2_off (by decide)]; rw [up2_off (by decide)]; rw [up2_off (by decide)]; rw [up2_off (by decide)]; rw [up2_off (by decide)]; exact hZ.2 107 (by decide)) (by decide +kernel) rfl (by decide) (by decide) dX9_init_139 (sh' := z112) rfl (fun nw => ?_)
    refine h_putR hC hin (fs := [none, some (some 97), none, none, none, some (some 98), some (some 99), none, none, some (some 100), some (some 101), some (some 102), none, some (some 103), none, some (some 104), some (some 105), some (some 106), some none, some none, some none, some none, none, none, some none, some none, some none, none, none]) (by decide +kernel) (by decide) (by decide) fl_X9_44 rfl rfl ⟨_, by decide +kernel, ty_arr⟩ dX9_init_141 (sh' := z113) rfl ?_
    refine g_blk hC _ bX9_init_144_148 (pc' := 148) (ls' := [some (.inr (some 96))]) (st' := [.inl 160, .inr (some 96)]) (I' := up2 I 96 2 4) rfl rfl ?_
    refine h_newa hC (N := 160) wa_int (by decide) (by decide) (by decide) (n := 108) (by decide +kernel) (by rw [up2_off (by decide)]; rw [up2_off (by decide)]; rw [up2_off (by decide)]; rw [up2_off (by decide)]; rw [up2_off (by decide)]; rw [up2_off (by decide)]; rw [up2_off (by decide)]; rw [up2_off (by decide)]; rw [up2_off (by decide)]; rw [up2_off (by decide)]; exact hZ.2 108 (by decide)) (by decide +kernel) rfl (by decide) (by decide) dX9_init_148 (sh' := z114) rfl (fun nw => ?_)
    refine h_putR hC hin (fs := [none, some (some 97), none, none, none, some (some 98), some (some 99), none, none, some (some 100), some (some 101), some (some 102), none, some (some 103), none, some (some 104), some (some 105), some (some 106), some (some 107), some none, some none, some none, none, none, some none, some none, some none, none, none]) (by decide +kernel) (by decide) (by decide) fl_X9_47 rfl rfl ⟨_, by decide +kernel, ty_arr⟩ dX9_init_150 (sh' := z115) rfl ?_
    refine g_blk hC _ bX9_init_153_157 (pc' := 157) (ls' := [some (.inr (some 96))]) (st' := [.inl 160, .inr (some 96)]) (I' := up2 I 96 2 4) rfl rfl ?_
    refine h_newa hC (N := 160) wa_int (by decide) (by decide) (by decide) (n := 109) (by decide +kernel) (by rw [up2_off (by decide)]; rw [up2_off (by decide)]; rw [up2_off (by decide)]; rw [up2_off (by decide)]; rw [up2_off (by decide)]; rw [up2_off (by decide)]; rw [up2_off (by decide)]; rw [up2_off (by decide)]; rw [up2_off (by decide)]; rw [up2_off (by decide)]; exact hZ.2 109 (by decide)) (by decide +kernel) rfl (by decide) (by decide) dX9_init_157 (sh' := z116) rfl (fun nw => ?_)
    refine h_putR hC hin (fs := [none, some (some 97), none, none, none, some (some 98), some (some 99), none, none, some (some 100), some (some 101), some (some 102), none, some (some 103), none, some (some 104), some (some 105), some (some 106), some (some 107), some (some 108), some none, some none, none, none, some none, some none, some none, none, none]) (by decide +kernel) (by decide) (by decide) fl_X9_50 rfl rfl ⟨_, by decide +kernel, ty_arr⟩ dX9_init_159 (sh' := z117) rfl ?_
    refine g_blk hC _ bX9_init_162_166 (pc' := 166) (ls' := [some (.inr (some 96))]) (st' := [.inl 3600, .inr (some 96)]) (I' := up2 I 96 2 4) rfl rfl ?_
    refine h_newa hC (N := 3600) wa_int (by decide) (by decide) (by decide) (n := 110) (by decide +kernel) (by rw [up2_off (by decide)]; rw [up2_off (by decide)]; rw [up2_off (by decide)]; rw [up2_off (by decide)]; rw [up2_off (by decide)]; rw [up2_off (by decide)]; rw [up2_off (by decide)]; rw [up2_off (by decide)]; rw [up2_off (by decide)]; rw [up2_off (by decide)]; exact hZ.2 110 (by decide)) (by decide +kernel) rfl (by decide) (by decide) dX9_init_166 (sh' := z118) rfl (fun nw => ?_)
    refine h_putR hC hin (fs := [none, some (some 97), none, none, none, some (some 98), some (some 99), none, none, some (some 100), some (some 101), some (some 102), none, some (some 103), none, some (some 104), some (some 105), some (some 106), some (some 107), some (some 108), some (some 109), some none, none, none, some none, some none, some none, none, none]) (by decide +kernel) (by decide) (by decide) fl_X9_53 rfl rfl ⟨_, by decide +kernel, ty_arr⟩ dX9_init_168 (sh' := z119) rfl ?_
    refine g_blk hC _ bX9_init_171_175 (pc' := 175) (ls' := [some (.inr (some 96))]) (st' := [.inl 1200, .inr (some 96)]) (I' := up2 I 96 2 4) rfl rfl ?_
    refine h_newa hC (N := 1200) wa_int (by decide) (by decide) (by decide) (n := 111) (by decide +kernel) (by rw [up2_off (by decide)]; rw [up2_off (by decide)]; rw [up2_off (by decide)]; rw [up2_off (by decide)]; rw [up2_off (by decide)]; rw [up2_off (by decide)]; rw [up2_off (by decide)]; rw [up2_off (by decide)]; rw [up2_off (by decide)]; rw [up2_off (by decide)]; exact hZ.2 111 (by decide)) (by decide +kernel) rfl (by decide) (by decide) dX9_init_175 (sh' := z120) rfl (fun nw => ?_)
    refine h_putR hC hin (fs := [none, some (some 97), none, none, none, some (some 98), some (some 99), none, none, some (some 100), some (some 101), some (some 102), none, some (some 103), none, some (some 104), some (some 105), some (some 106), some (some 107), some (some 108), some (some 109), some (some 110), none, none, some none, some none, some none, none, none]) (by decide +kernel) (by decide) (by decide) fl_X9_56 rfl rfl ⟨_, by decide +kernel, ty_arr⟩ dX9_init_177 (sh' := z121) rfl ?_
    refine g_blk hC _ bX9_init_180_184 (pc' := 184) (ls' := [some (.inr (some 96))]) (st' := [.inl 1200, .inr (some 96)]) (I' := up2 I 96 2 4) rfl rfl ?_
    refine h_newa hC (N := 1200) wa_int (by decide) (by decide) (by decide) (n := 112) (by decide +kernel) (by rw [up2_off (by decide)]; rw [up2_off (by decide)]; rw [up2_off (by decide)]; rw [up2_off (by decide)]; rw [up2_off (by decide)]; rw [up2_off (by decide)]; rw [up2_off (by decide)]; rw [up2_off (by decide)]; rw [up2_off (by decide)]; rw [up2_off (by decide)]; exact hZ.2 112 (by decide)) (by decide +kernel) rfl (by decide) (by decide) dX9_init_184 (sh' := z122) rfl (fun nw => ?_)
    refine h_putR hC hin (fs := [none, some (some 97), none, none, none, some (some 98), some (some 99), none, none, some (some 100), some (some 101), some (some 102), none, some (some 103), none, some (some 104), some (some 105), some (some 106), some (some 107), some (some 108), some (some 109), some (some 110), none, none, some (some 111), some none, some none, none, none]) (by decide +kernel) (by decide) (by decide) fl_X9_59 rfl rfl ⟨_, by decide +kernel, ty_arr⟩ dX9_init_186 (sh' := z123) rfl ?_
    refine g_blk hC _ bX9_init_189_192 (pc' := 192) (ls' := [some (.inr (some 96))]) (st' := [.inl 10, .inr (some 96)]) (I' := up2 I 96 2 4) rfl rfl ?_
    refine h_newa hC (N := 10) wa_int (by decide) (by decide) (by decide) (n := 113) (by decide +kernel) (by rw [up2_off (by decide)]; rw [up2_off (by decide)]; rw [up2_off (by decide)]; rw [up2_off (by decide)]; rw [up2_off (by decide)]; rw [up2_off (by decide)]; rw [up2_off (by decide)]; rw [up2_off (by decide)]; rw [up2_off (by decide)]; rw [up2_off (by decide)]; exact hZ.2 113 (by decide)) (by decide +kernel) rfl (by decide) (by decide) dX9_init_192 (sh' := z124) rfl (fun nw => ?_)
    refine h_putR hC hin (fs := [none, some (some 97), none, none, none, some (some 98), some (some 99), none, none, some (some 100), some (some 101), some (some 102), none, some (some 103), none, some (some 104), some (some 105), some (some 106), some (some 107), some (some 108), some (some 109), some (some 110), none, none, some (some 111), some (some 112), some none, none, none]) (by decide +kernel) (by decide) (by decide) fl_X9_62 rfl rfl ⟨_, by decide +kernel, ty_arr⟩ dX9_init_194 (sh' := z125) rfl ?_
    exact g_retG hC hr dX9_init_197 hv
  have k0 := key []
  rw [List.append_nil] at k0
  exact k0
theorem cG_X9_init (l : Launch) (D : va_G) (ads : AD) (I A : HI) (hZ : ZA 97 I A) : CtG l yX9_init cX9_init 1 1 20 17 7984 D ads z91 [.inr (some 96)] I A z125 (fun I9 A9 => I9 = up2 I 96 2 4 ∧ A9 = up2 (up2 (up2 (up2 (up2 (up2 (up2 (up2 (up2 (up2 A 98 (0 : Int32).toNatClampNeg ((-1))) 98 (1 : Int32).toNatClampNeg ((-1))) 98 (2 : Int32).toNatClampNeg ((-1))) 98 (3 : Int32).toNatClampNeg ((-1))) 98 (4 : Int32).toNatClampNeg ((-1))) 98 (5 : Int32).toNatClampNeg ((-1))) 98 (6 : Int32).toNatClampNeg ((-1))) 98 (7 : Int32).toNatClampNeg ((-1))) 98 (8 : Int32).toNatClampNeg ((-1))) 98 (9 : Int32).toNatClampNeg ((-1))) := kG_X9_init l D ads I A hZ _ ⟨rfl, rfl⟩
