/-! RibbonSetter -/
def XOK (I A : HI) : Prop := True
def frR (I A I' A' : HI) : Prop := True
def isL (I A : HI) (l r : Int32) (I' A' : HI) : Prop := True
def isD (I A : HI) (r : Int32) (I' A' : HI) : Prop := True
def x_flow (I A : HI) (a1 a2 a3 r : Int32) (I' A' : HI) : Prop := True
def x_clear (I A : HI) (I' A' : HI) : Prop := True
def x_set (I A : HI) (a1 a2 r : Int32) (I' A' : HI) : Prop := True
def x_about (I A : HI) (a1 r : Int32) (I' A' : HI) : Prop := True
def x_width (I A : HI) (a1 a2 r : Int32) (I' A' : HI) : Prop := True
def x_turned (I A : HI) (a1 a2 r : Int32) (I' A' : HI) : Prop := True
def x_row (I A : HI) (a1 r : Int32) (I' A' : HI) : Prop := True
def x_layer (I A : HI) (a1 r : Int32) (I' A' : HI) : Prop := True
def x_rest (I A : HI) (a1 r : Int32) (I' A' : HI) : Prop := True
def x_cost (I A : HI) (r : Int32) (I' A' : HI) : Prop := True
def x_part (I A : HI) (a1 r : Int32) (I' A' : HI) : Prop := True
def x_items (I A : HI) (a1 r : Int32) (I' A' : HI) : Prop := True
def x_item (I A : HI) (a1 a2 r : Int32) (I' A' : HI) : Prop := True
def x_place (I A : HI) (a1 a2 r : Int32) (I' A' : HI) : Prop := True
def x_point (I A : HI) (a1 a2 a3 a4 r : Int32) (I' A' : HI) : Prop := True
def x_keep (I A : HI) (r : Int32) (I' A' : HI) : Prop := True
def x_forget (I A : HI) (I' A' : HI) : Prop := True
def x_orders (I A : HI) (r : Int32) (I' A' : HI) : Prop := True
theorem bX8_freshRanking_0_4 : okB cX8_freshRanking RX8 0 [(5, 0, 0, 0, 0), (23, 66, 8, 8, 0)] := And.intro ⟨_, dX8_freshRanking_0, rfl⟩ (And.intro ⟨dX8_freshRanking_1, fl_X8_66⟩ trivial)
theorem bX8_freshRanking_26_30 : okB cX8_freshRanking RX8 26 [(5, 0, 0, 0, 0), (23, 21, 8, 1, 0)] := And.intro ⟨_, dX8_freshRanking_26, rfl⟩ (And.intro ⟨dX8_freshRanking_27, fl_X8_21⟩ trivial)
theorem bX8_freshRanking_7_11 : okB cX8_freshRanking RX8 7 [(5, 0, 0, 0, 0), (23, 21, 8, 1, 0)] := And.intro ⟨_, dX8_freshRanking_7, rfl⟩ (And.intro ⟨dX8_freshRanking_8, fl_X8_21⟩ trivial)
theorem bX8_freshRanking_14_18 : okB cX8_freshRanking RX8 14 [(5, 0, 0, 0, 0), (23, 30, 8, 2, 0)] := And.intro ⟨_, dX8_freshRanking_14, rfl⟩ (And.intro ⟨dX8_freshRanking_15, fl_X8_30⟩ trivial)
theorem bX8_freshRanking_21_30 : okB cX8_freshRanking RX8 21 [(5, 0, 0, 0, 0), (0, 0, 0, 0, 1), (25, 66, 8, 8, 0), (5, 0, 0, 0, 0), (23, 21, 8, 1, 0)] := And.intro ⟨_, dX8_freshRanking_21, rfl⟩ (And.intro ⟨_, dX8_freshRanking_22, by decide⟩ (And.intro ⟨dX8_freshRanking_23, fl_X8_66, rfl, rfl⟩ (And.intro ⟨_, dX8_freshRanking_26, rfl⟩ (And.intro ⟨dX8_freshRanking_27, fl_X8_21⟩ trivial))))
set_option maxHeartbeats 4000000 in
set_option maxRecDepth 100000 in
theorem k_X8_freshRanking (l : Launch) (D : va_G) (ads : AD) (I A : HI) (po : Option AV → HI → HI → Prop)
    (hv : ((¬ (I 0 8) = 0 → po (some (.inr (some 3))) I A) ∧ ((I 0 8) = 0 → ((FO (A 2)) ∧ (∀ (I2 A2 : HI), rnk I A I2 A2 → ((fil0 I2 A2) ∧ (∀ (I4 A4 : HI), I4 = I2 ∧ fil A2 A4 → po (some (.inr (some 3))) (up2 I4 0 8 1) A4))))))) : Ct l yX8_freshRanking cX8_freshRanking 1 (some (.object "RibbonSetter$Ranking")) 4 90 D ads shp [.inr (some 0)] I A po := by
  refine Ct_of (by decide) (Nat.le_of_ble_eq_true rfl) ?_
  intro p e s m args below meth c hC hr
  replace hC : CX p s m args meth c cX8_freshRanking 1 RX8 (AdS ads s.heap.size) := hC
  show Gm p l e s m args below meth c D ads 4 90 1 po I A 0 [some (.inr (some 0))] []
  refine g_blk hC _ bX8_freshRanking_0_4 (pc' := 4) (ls' := [some (.inr (some 0))]) (st' := [.inl (I 0 8)]) (I' := I) rfl rfl ?_
  obtain ⟨hv1, hv2⟩ := hv
  refine g_ifne hC dX8_freshRanking_4 (tgt := 26) (by decide) (fun hc => ?_) (fun hc => ?_)
  · have hv := hv1 hc
    clear hv1 hv2 hc
    refine g_blk hC _ bX8_freshRanking_26_30 (pc' := 30) (ls' := [some (.inr (some 0))]) (st' := [.inr (some 3)]) (I' := I) rfl rfl ?_
    exact g_reta hC hr (Or.inl ⟨_, rfl⟩) dX8_freshRanking_30 hv
  · have hv := hv2 hc
    clear hv1 hv2 hc
    refine g_blk hC _ bX8_freshRanking_7_11 (pc' := 11) (ls' := [some (.inr (some 0))]) (st' := [.inr (some 3)]) (I' := I) rfl rfl ?_
    obtain ⟨hp1, hv⟩ := hv
    refine g_callV hC (c_X5_rank l D ads I A  hp1) dX8_freshRanking_11 nm_X5_rank rfl rfl wl_X8_183 wi_X5_rank ws_X5_rank wn_X5 wc_X5_rank ⟨by decide, by decide⟩ (as := []) (rest := []) rfl (Nat.le_of_ble_eq_true rfl) ⟨Nat.le_refl _, Nat.le_refl _⟩ (k_qV ?_)
    intro I2 A2 hq2
    replace hv := hv I2 A2 hq2
    refine g_blk hC _ bX8_freshRanking_14_18 (pc' := 18) (ls' := [some (.inr (some 0))]) (st' := [.inr (some 13)]) (I' := I2) rfl rfl ?_
    obtain ⟨hp3, hv⟩ := hv
    refine g_callV hC (c_X7_fill l D ads I2 A2  hp3) dX8_freshRanking_18 nm_X7_fill rfl rfl wl_X8_186 wi_X7_fill ws_X7_fill wn_X7 wc_X7_fill ⟨by decide, by decide⟩ (as := []) (rest := []) rfl (Nat.le_of_ble_eq_true rfl) ⟨Nat.le_refl _, Nat.le_refl _⟩ (k_qV ?_)
    intro I4 A4 hq4
    replace hv := hv I4 A4 hq4
    refine g_blk hC _ bX8_freshRanking_21_30 (pc' := 30) (ls' := [some (.inr (some 0))]) (st' := [.inr (some 3)]) (I' := up2 I4 0 8 1) rfl rfl ?_
    exact g_reta hC hr (Or.inl ⟨_, rfl⟩) dX8_freshRanking_30 hv
set_option maxHeartbeats 4000000 in
set_option maxRecDepth 100000 in
theorem c_X8_freshRanking (l : Launch) (D : va_G) (ads : AD) (I A : HI) (hp : XOK I A) : Ct l yX8_freshRanking cX8_freshRanking 1 (some (.object "RibbonSetter$Ranking")) 4 90 D ads shp [.inr (some 0)] I A (qK (fun I' A' => frR I A I' A') (3)) := by
  sorry
theorem bX8_isLayer_0_1 : okB cX8_isLayer RX8 0 [(3, 1, 0, 0, 0)] := And.intro ⟨_, dX8_isLayer_0, rfl⟩ trivial
theorem bX8_isLayer_19_20 : okB cX8_isLayer RX8 19 [(0, 0, 0, 0, 0)] := And.intro ⟨_, dX8_isLayer_19, by decide⟩ trivial
theorem bX8_isLayer_4_6 : okB cX8_isLayer RX8 4 [(3, 1, 0, 0, 0), (5, 0, 0, 0, 0)] := And.intro ⟨_, dX8_isLayer_4, rfl⟩ (And.intro ⟨_, dX8_isLayer_5, rfl⟩ trivial)
theorem bX8_isLayer_15_16 : okB cX8_isLayer RX8 15 [(0, 0, 0, 0, 1)] := And.intro ⟨_, dX8_isLayer_15, by decide⟩ trivial
set_option maxHeartbeats 4000000 in
set_option maxRecDepth 100000 in
theorem k_X8_isLayer (l : Launch) (D : va_G) (ads : AD) (I A : HI) (a1 : Int32) (po : Option AV → HI → HI → Prop)
    (hv : ((a1 < 0 → po (some (.inl 0)) I A) ∧ (¬ a1 < 0 → ((XOK I A) ∧ (∀ (I2 A2 : HI), frR I A I2 A2 → (((I2 3 11) ≤ a1 → po (some (.inl 0)) I2 A2) ∧ (¬ (I2 3 11) ≤ a1 → po (some (.inl 1)) I2 A2))))))) : Ct l yX8_isLayer cX8_isLayer 2 (some .boolean) 5 110 D ads shp [.inr (some 0), .inl a1] I A po := by
  refine Ct_of (by decide) (Nat.le_of_ble_eq_true rfl) ?_
  intro p e s m args below meth c hC hr
  replace hC : CX p s m args meth c cX8_isLayer 2 RX8 (AdS ads s.heap.size) := hC
  show Gm p l e s m args below meth c D ads 5 110 2 po I A 0 [some (.inr (some 0)), some (.inl a1)] []
  refine g_blk hC _ bX8_isLayer_0_1 (pc' := 1) (ls' := [some (.inr (some 0)), some (.inl a1)]) (st' := [.inl a1]) (I' := I) rfl rfl ?_
  obtain ⟨hv1, hv2⟩ := hv
  refine g_iflt hC dX8_isLayer_1 (tgt := 19) (by decide) (fun hc => ?_) (fun hc => ?_)
  · have hv := hv1 hc
    clear hv1 hv2 hc
    refine g_blk hC _ bX8_isLayer_19_20 (pc' := 20) (ls' := [some (.inr (some 0)), some (.inl a1)]) (st' := [.inl 0]) (I' := I) rfl rfl ?_
    exact g_reti hC hr (by decide) dX8_isLayer_20 hv
  · have hv := hv2 hc
    clear hv1 hv2 hc
    refine g_blk hC _ bX8_isLayer_4_6 (pc' := 6) (ls' := [some (.inr (some 0)), some (.inl a1)]) (st' := [.inr (some 0), .inl a1]) (I' := I) rfl rfl ?_
    obtain ⟨hp1, hv⟩ := hv
    refine g_callV hC (c_X8_freshRanking l D ads I A  hp1) dX8_isLayer_6 nm_X8_freshRanking rfl rfl wl_X8_95 wi_X8_freshRanking ws_X8_freshRanking wn_X8 wc_X8_freshRanking ⟨by decide, by decide⟩ (as := []) (rest := [.inl a1]) rfl (Nat.le_of_ble_eq_true rfl) ⟨Nat.le_refl _, Nat.le_refl _⟩ (k_qK ?_)
    intro I2 A2 hq2
    replace hv := hv I2 A2 hq2
    refine g_callV hC (c_X5_layers l D ads I2 A2 ) dX8_isLayer_9 nm_X5_layers rfl rfl wl_X8_105 wi_X5_layers ws_X5_layers wn_X5 wc_X5_layers ⟨by decide, by decide⟩ (as := []) (rest := [.inl a1]) rfl (Nat.le_of_ble_eq_true rfl) ⟨Nat.le_refl _, Nat.le_refl _⟩ (k_qI ?_)
    obtain ⟨hv1, hv2⟩ := hv
    refine g_cge hC dX8_isLayer_12 (tgt := 19) (by decide) (fun hc => ?_) (fun hc => ?_)
    · have hv := hv1 hc
      clear hv1 hv2 hc
      refine g_blk hC _ bX8_isLayer_19_20 (pc' := 20) (ls' := [some (.inr (some 0)), some (.inl a1)]) (st' := [.inl 0]) (I' := I2) rfl rfl ?_
      exact g_reti hC hr (by decide) dX8_isLayer_20 hv
    · have hv := hv2 hc
      clear hv1 hv2 hc
      refine g_blk hC _ bX8_isLayer_15_16 (pc' := 16) (ls' := [some (.inr (some 0)), some (.inl a1)]) (st' := [.inl 1]) (I' := I2) rfl rfl ?_
      refine g_goto hC dX8_isLayer_16 (tgt := 20) (by decide) ?_
      exact g_reti hC hr (by decide) dX8_isLayer_20 hv
set_option maxHeartbeats 4000000 in
set_option maxRecDepth 100000 in
theorem c_X8_isLayer (l : Launch) (D : va_G) (ads : AD) (I A : HI) (a1 : Int32) (hp : XOK I A) : Ct l yX8_isLayer cX8_isLayer 2 (some .boolean) 5 110 D ads shp [.inr (some 0), .inl a1] I A (qJ (fun r I' A' => isL I A a1 r I' A')) := by
  sorry
theorem bX8_isDrawn_0_1 : okB cX8_isDrawn RX8 0 [(5, 0, 0, 0, 0)] := And.intro ⟨_, dX8_isDrawn_0, rfl⟩ trivial
theorem bX8_isDrawn_4_9 : okB cX8_isDrawn RX8 4 [(21, 0, 0, 0, 0), (5, 0, 0, 0, 0), (23, 30, 8, 2, 0)] := And.intro dX8_isDrawn_4 (And.intro ⟨_, dX8_isDrawn_5, rfl⟩ (And.intro ⟨dX8_isDrawn_6, fl_X8_30⟩ trivial))
theorem bX8_isDrawn_17_21 : okB cX8_isDrawn RX8 17 [(5, 0, 0, 0, 0), (23, 70, 8, 9, 0)] := And.intro ⟨_, dX8_isDrawn_17, rfl⟩ (And.intro ⟨dX8_isDrawn_18, fl_X8_70⟩ trivial)
theorem bX8_isDrawn_40_41 : okB cX8_isDrawn RX8 40 [(0, 0, 0, 0, 1)] := And.intro ⟨_, dX8_isDrawn_40, by decide⟩ trivial
theorem bX8_isDrawn_24_32 : okB cX8_isDrawn RX8 24 [(5, 0, 0, 0, 0), (23, 46, 8, 4, 0), (5, 0, 0, 0, 0), (23, 63, 8, 7, 0)] := And.intro ⟨_, dX8_isDrawn_24, rfl⟩ (And.intro ⟨dX8_isDrawn_25, fl_X8_46⟩ (And.intro ⟨_, dX8_isDrawn_28, rfl⟩ (And.intro ⟨dX8_isDrawn_29, fl_X8_63⟩ trivial)))
theorem bX8_isDrawn_35_41 : okB cX8_isDrawn RX8 35 [(5, 0, 0, 0, 0), (0, 0, 0, 0, 1), (25, 70, 8, 9, 0), (0, 0, 0, 0, 1)] := And.intro ⟨_, dX8_isDrawn_35, rfl⟩ (And.intro ⟨_, dX8_isDrawn_36, by decide⟩ (And.intro ⟨dX8_isDrawn_37, fl_X8_70, rfl, rfl⟩ (And.intro ⟨_, dX8_isDrawn_40, by decide⟩ trivial)))
theorem bX8_isDrawn_15_16 : okB cX8_isDrawn RX8 15 [(0, 0, 0, 0, 0)] := And.intro ⟨_, dX8_isDrawn_15, by decide⟩ trivial
set_option maxHeartbeats 4000000 in
set_option maxRecDepth 100000 in
theorem k_X8_isDrawn (l : Launch) (D : va_G) (ads : AD) (I A : HI) (po : Option AV → HI → HI → Prop)
    (hv : ((XOK I A) ∧ (∀ (I2 A2 : HI), frR I A I2 A2 → ((¬ (fitI (A2 25)) = 0 → ((¬ (I2 0 9) = 0 → po (some (.inl 1)) I2 A2) ∧ ((I2 0 9) = 0 → ((sol0 I2 A2) ∧ (∀ (I5 A5 : HI), sol I2 A2 (I2 0 7) I5 A5 → po (some (.inl 1)) (up2 I5 0 9 1) A5))))) ∧ ((fitI (A2 25)) = 0 → po (some (.inl 0)) I2 A2))))) : Ct l yX8_isDrawn cX8_isDrawn 1 (some .boolean) 5 124 D ads shp [.inr (some 0)] I A po := by
  refine Ct_of (by decide) (Nat.le_of_ble_eq_true rfl) ?_
  intro p e s m args below meth c hC hr
  replace hC : CX p s m args meth c cX8_isDrawn 1 RX8 (AdS ads s.heap.size) := hC
  show Gm p l e s m args below meth c D ads 5 124 1 po I A 0 [some (.inr (some 0))] []
  refine g_blk hC _ bX8_isDrawn_0_1 (pc' := 1) (ls' := [some (.inr (some 0))]) (st' := [.inr (some 0)]) (I' := I) rfl rfl ?_
  obtain ⟨hp1, hv⟩ := hv
  refine g_callV hC (c_X8_freshRanking l D ads I A  hp1) dX8_isDrawn_1 nm_X8_freshRanking rfl rfl wl_X8_95 wi_X8_freshRanking ws_X8_freshRanking wn_X8 wc_X8_freshRanking ⟨by decide, by decide⟩ (as := []) (rest := []) rfl (Nat.le_of_ble_eq_true rfl) ⟨Nat.le_refl _, Nat.le_refl _⟩ (k_qK ?_)
  intro I2 A2 hq2
  replace hv := hv I2 A2 hq2
  refine g_blk hC _ bX8_isDrawn_4_9 (pc' := 9) (ls' := [some (.inr (some 0))]) (st' := [.inr (some 13)]) (I' := I2) rfl rfl ?_
  refine g_callV hC (c_X7_fits l D ads I2 A2 ) dX8_isDrawn_9 nm_X7_fits rfl rfl wl_X8_189 wi_X7_fits ws_X7_fits wn_X7 wc_X7_fits ⟨by decide, by decide⟩ (as := []) (rest := []) rfl (Nat.le_of_ble_eq_true rfl) ⟨Nat.le_refl _, Nat.le_refl _⟩ (k_qI ?_)
  obtain ⟨hv1, hv2⟩ := hv
  refine g_ifne hC dX8_isDrawn_12 (tgt := 17) (by decide) (fun hc => ?_) (fun hc => ?_)
  · have hv := hv1 hc
    clear hv1 hv2 hc
    refine g_blk hC _ bX8_isDrawn_17_21 (pc' := 21) (ls' := [some (.inr (some 0))]) (st' := [.inl (I2 0 9)]) (I' := I2) rfl rfl ?_
    obtain ⟨hv1, hv2⟩ := hv
    refine g_ifne hC dX8_isDrawn_21 (tgt := 40) (by decide) (fun hc => ?_) (fun hc => ?_)
    · have hv := hv1 hc
      clear hv1 hv2 hc
      refine g_blk hC _ bX8_isDrawn_40_41 (pc' := 41) (ls' := [some (.inr (some 0))]) (st' := [.inl 1]) (I' := I2) rfl rfl ?_
      exact g_reti hC hr (by decide) dX8_isDrawn_41 hv
    · have hv := hv2 hc
      clear hv1 hv2 hc
      refine g_blk hC _ bX8_isDrawn_24_32 (pc' := 32) (ls' := [some (.inr (some 0))]) (st' := [.inl (I2 0 7), .inr (some 29)]) (I' := I2) rfl rfl ?_
      obtain ⟨hp4, hv⟩ := hv
      refine g_callV hC (c_X6_solve l D ads I2 A2 (I2 0 7) hp4) dX8_isDrawn_32 nm_X6_solve rfl rfl wl_X8_192 wi_X6_solve ws_X6_solve wn_X6 wc_X6_solve ⟨by decide, by decide⟩ (as := [.inl (I2 0 7)]) (rest := []) rfl (Nat.le_of_ble_eq_true rfl) ⟨Nat.le_refl _, Nat.le_refl _⟩ (k_qV ?_)
      intro I5 A5 hq5
      replace hv := hv I5 A5 hq5
      refine g_blk hC _ bX8_isDrawn_35_41 (pc' := 41) (ls' := [some (.inr (some 0))]) (st' := [.inl 1]) (I' := up2 I5 0 9 1) rfl rfl ?_
      exact g_reti hC hr (by decide) dX8_isDrawn_41 hv
  · have hv := hv2 hc
    clear hv1 hv2 hc
    refine g_blk hC _ bX8_isDrawn_15_16 (pc' := 16) (ls' := [some (.inr (some 0))]) (st' := [.inl 0]) (I' := I2) rfl rfl ?_
    exact g_reti hC hr (by decide) dX8_isDrawn_16 hv
set_option maxHeartbeats 4000000 in
set_option maxRecDepth 100000 in
theorem c_X8_isDrawn (l : Launch) (D : va_G) (ads : AD) (I A : HI) (hp : XOK I A) : Ct l yX8_isDrawn cX8_isDrawn 1 (some .boolean) 5 124 D ads shp [.inr (some 0)] I A (qJ (fun r I' A' => isD I A r I' A')) := by
  sorry
theorem bX8_flow_0_7 : okB cX8_flow RX8 0 [(5, 0, 0, 0, 0), (23, 12, 8, 0, 0), (3, 1, 0, 0, 0), (3, 2, 0, 0, 0), (3, 3, 0, 0, 0)] := And.intro ⟨_, dX8_flow_0, rfl⟩ (And.intro ⟨dX8_flow_1, fl_X8_12⟩ (And.intro ⟨_, dX8_flow_4, rfl⟩ (And.intro ⟨_, dX8_flow_5, rfl⟩ (And.intro ⟨_, dX8_flow_6, rfl⟩ trivial))))
theorem bX8_flow_15_21 : okB cX8_flow RX8 15 [(5, 0, 0, 0, 0), (23, 12, 8, 0, 0), (3, 1, 0, 0, 0), (3, 2, 0, 0, 0)] := And.intro ⟨_, dX8_flow_15, rfl⟩ (And.intro ⟨dX8_flow_16, fl_X8_12⟩ (And.intro ⟨_, dX8_flow_19, rfl⟩ (And.intro ⟨_, dX8_flow_20, rfl⟩ trivial)))
theorem bX8_flow_24_25 : okB cX8_flow RX8 24 [(3, 3, 0, 0, 0)] := And.intro ⟨_, dX8_flow_24, rfl⟩ trivial
theorem bX8_flow_48_49 : okB cX8_flow RX8 48 [(0, 0, 0, 0, 1)] := And.intro ⟨_, dX8_flow_48, by decide⟩ trivial
theorem bX8_flow_28_35 : okB cX8_flow RX8 28 [(5, 0, 0, 0, 0), (23, 12, 8, 0, 0), (3, 1, 0, 0, 0), (3, 2, 0, 0, 0), (3, 3, 0, 0, 0)] := And.intro ⟨_, dX8_flow_28, rfl⟩ (And.intro ⟨dX8_flow_29, fl_X8_12⟩ (And.intro ⟨_, dX8_flow_32, rfl⟩ (And.intro ⟨_, dX8_flow_33, rfl⟩ (And.intro ⟨_, dX8_flow_34, rfl⟩ trivial))))
theorem bX8_flow_38_49 : okB cX8_flow RX8 38 [(5, 0, 0, 0, 0), (0, 0, 0, 0, 0), (25, 66, 8, 8, 0), (5, 0, 0, 0, 0), (0, 0, 0, 0, 0), (25, 70, 8, 9, 0), (0, 0, 0, 0, 1)] := And.intro ⟨_, dX8_flow_38, rfl⟩ (And.intro ⟨_, dX8_flow_39, by decide⟩ (And.intro ⟨dX8_flow_40, fl_X8_66, rfl, rfl⟩ (And.intro ⟨_, dX8_flow_43, rfl⟩ (And.intro ⟨_, dX8_flow_44, by decide⟩ (And.intro ⟨dX8_flow_45, fl_X8_70, rfl, rfl⟩ (And.intro ⟨_, dX8_flow_48, by decide⟩ trivial))))))
theorem bX8_flow_13_14 : okB cX8_flow RX8 13 [(0, 0, 0, 0, 0)] := And.intro ⟨_, dX8_flow_13, by decide⟩ trivial
set_option maxHeartbeats 4000000 in
set_option maxRecDepth 100000 in
theorem k_X8_flow (l : Launch) (D : va_G) (ads : AD) (I A : HI) (a1 : Int32) (a2 : Int32) (a3 : Int32) (po : Option AV → HI → HI → Prop)
    (hv : ((¬ (tkF I A a1 a2 a3) = 0 → (((btw A a1 a2) = a3 → po (some (.inl 1)) I A) ∧ (¬ (btw A a1 a2) = a3 → po (some (.inl 1)) (up2 (up2 (putI I A a1 a2 a3) 0 8 0) 0 9 0) (putA I A a1 a2 a3)))) ∧ ((tkF I A a1 a2 a3) = 0 → po (some (.inl 0)) I A))) : Ct l yX8_flow cX8_flow 4 (some .boolean) 4 89 D ads shp [.inr (some 0), .inl a1, .inl a2, .inl a3] I A po := by
  refine Ct_of (by decide) (Nat.le_of_ble_eq_true rfl) ?_
  intro p e s m args below meth c hC hr
  replace hC : CX p s m args meth c cX8_flow 4 RX8 (AdS ads s.heap.size) := hC
  show Gm p l e s m args below meth c D ads 4 89 4 po I A 0 [some (.inr (some 0)), some (.inl a1), some (.inl a2), some (.inl a3)] []
  refine g_blk hC _ bX8_flow_0_7 (pc' := 7) (ls' := [some (.inr (some 0)), some (.inl a1), some (.inl a2), some (.inl a3)]) (st' := [.inl a3, .inl a2, .inl a1, .inr (some 1)]) (I' := I) rfl rfl ?_
  refine g_callV hC (c_X2_takes l D ads I A a1 a2 a3) dX8_flow_7 nm_X2_takes rfl rfl wl_X8_73 wi_X2_takes ws_X2_takes wn_X2 wc_X2_takes ⟨by decide, by decide⟩ (as := [.inl a1, .inl a2, .inl a3]) (rest := []) rfl (Nat.le_of_ble_eq_true rfl) ⟨Nat.le_refl _, Nat.le_refl _⟩ (k_qI ?_)
  obtain ⟨hv1, hv2⟩ := hv
  refine g_ifne hC dX8_flow_10 (tgt := 15) (by decide) (fun hc => ?_) (fun hc => ?_)
  · have hv := hv1 hc
    clear hv1 hv2 hc
    refine g_blk hC _ bX8_flow_15_21 (pc' := 21) (ls' := [some (.inr (some 0)), some (.inl a1), some (.inl a2), some (.inl a3)]) (st' := [.inl a2, .inl a1, .inr (some 1)]) (I' := I) rfl rfl ?_
    refine g_callV hC (c_X2_between l D ads I A a1 a2) dX8_flow_21 nm_X2_between rfl rfl wl_X8_77 wi_X2_between ws_X2_between wn_X2 wc_X2_between ⟨by decide, by decide⟩ (as := [.inl a1, .inl a2]) (rest := []) rfl (Nat.le_of_ble_eq_true rfl) ⟨Nat.le_refl _, Nat.le_refl _⟩ (k_qI ?_)
    refine g_blk hC _ bX8_flow_24_25 (pc' := 25) (ls' := [some (.inr (some 0)), some (.inl a1), some (.inl a2), some (.inl a3)]) (st' := [.inl a3, .inl (btw A a1 a2)]) (I' := I) rfl rfl ?_
    obtain ⟨hv1, hv2⟩ := hv
    refine g_ceq hC dX8_flow_25 (tgt := 48) (by decide) (fun hc => ?_) (fun hc => ?_)
    · have hv := hv1 hc
      clear hv1 hv2 hc
      refine g_blk hC _ bX8_flow_48_49 (pc' := 49) (ls' := [some (.inr (some 0)), some (.inl a1), some (.inl a2), some (.inl a3)]) (st' := [.inl 1]) (I' := I) rfl rfl ?_
      exact g_reti hC hr (by decide) dX8_flow_49 hv
    · have hv := hv2 hc
      clear hv1 hv2 hc
      refine g_blk hC _ bX8_flow_28_35 (pc' := 35) (ls' := [some (.inr (some 0)), some (.inl a1), some (.inl a2), some (.inl a3)]) (st' := [.inl a3, .inl a2, .inl a1, .inr (some 1)]) (I' := I) rfl rfl ?_
      refine g_callV hC (c_X2_put l D ads I A a1 a2 a3) dX8_flow_35 nm_X2_put rfl rfl wl_X8_81 wi_X2_put ws_X2_put wn_X2 wc_X2_put ⟨by decide, by decide⟩ (as := [.inl a1, .inl a2, .inl a3]) (rest := []) rfl (Nat.le_of_ble_eq_true rfl) ⟨Nat.le_refl _, Nat.le_refl _⟩ (k_qN ?_)
      refine g_blk hC _ bX8_flow_38_49 (pc' := 49) (ls' := [some (.inr (some 0)), some (.inl a1), some (.inl a2), some (.inl a3)]) (st' := [.inl 1]) (I' := up2 (up2 (putI I A a1 a2 a3) 0 8 0) 0 9 0) rfl rfl ?_
      exact g_reti hC hr (by decide) dX8_flow_49 hv
  · have hv := hv2 hc
    clear hv1 hv2 hc
    refine g_blk hC _ bX8_flow_13_14 (pc' := 14) (ls' := [some (.inr (some 0)), some (.inl a1), some (.inl a2), some (.inl a3)]) (st' := [.inl 0]) (I' := I) rfl rfl ?_
    exact g_reti hC hr (by decide) dX8_flow_14 hv
set_option maxHeartbeats 4000000 in
set_option maxRecDepth 100000 in
theorem c_X8_flow (l : Launch) (D : va_G) (ads : AD) (I A : HI) (a1 : Int32) (a2 : Int32) (a3 : Int32) (hp : XOK I A) : Ct l yX8_flow cX8_flow 4 (some .boolean) 4 89 D ads shp [.inr (some 0), .inl a1, .inl a2, .inl a3] I A (qJ (fun r I' A' => x_flow I A a1 a2 a3 r I' A')) := by
  sorry
theorem bX8_clear_0_4 : okB cX8_clear RX8 0 [(5, 0, 0, 0, 0), (23, 12, 8, 0, 0)] := And.intro ⟨_, dX8_clear_0, rfl⟩ (And.intro ⟨dX8_clear_1, fl_X8_12⟩ trivial)
theorem bX8_clear_7_17 : okB cX8_clear RX8 7 [(5, 0, 0, 0, 0), (0, 0, 0, 0, 0), (25, 66, 8, 8, 0), (5, 0, 0, 0, 0), (0, 0, 0, 0, 0), (25, 70, 8, 9, 0)] := And.intro ⟨_, dX8_clear_7, rfl⟩ (And.intro ⟨_, dX8_clear_8, by decide⟩ (And.intro ⟨dX8_clear_9, fl_X8_66, rfl, rfl⟩ (And.intro ⟨_, dX8_clear_12, rfl⟩ (And.intro ⟨_, dX8_clear_13, by decide⟩ (And.intro ⟨dX8_clear_14, fl_X8_70, rfl, rfl⟩ trivial)))))
set_option maxHeartbeats 4000000 in
set_option maxRecDepth 100000 in
theorem k_X8_clear (l : Launch) (D : va_G) (ads : AD) (I A : HI) (po : Option AV → HI → HI → Prop)
    (hv : po none (up2 (up2 (up2 I 1 1 0) 0 8 0) 0 9 0) (filA A 2 100 0)) : Ct l yX8_clear cX8_clear 1 none 2 43 D ads shp [.inr (some 0)] I A po := by
  refine Ct_of (by decide) (Nat.le_of_ble_eq_true rfl) ?_
  intro p e s m args below meth c hC hr
  replace hC : CX p s m args meth c cX8_clear 1 RX8 (AdS ads s.heap.size) := hC
  show Gm p l e s m args below meth c D ads 2 43 1 po I A 0 [some (.inr (some 0))] []
  refine g_blk hC _ bX8_clear_0_4 (pc' := 4) (ls' := [some (.inr (some 0))]) (st' := [.inr (some 1)]) (I' := I) rfl rfl ?_
  refine g_callV hC (c_X2_removeAll l D ads I A ) dX8_clear_4 nm_X2_removeAll rfl rfl wl_X8_85 wi_X2_removeAll ws_X2_removeAll wn_X2 wc_X2_removeAll ⟨by decide, by decide⟩ (as := []) (rest := []) rfl (Nat.le_of_ble_eq_true rfl) ⟨Nat.le_refl _, Nat.le_refl _⟩ (k_qN ?_)
  refine g_blk hC _ bX8_clear_7_17 (pc' := 17) (ls' := [some (.inr (some 0))]) (st' := []) (I' := up2 (up2 (up2 I 1 1 0) 0 8 0) 0 9 0) rfl rfl ?_
  exact g_retv hC hr dX8_clear_17 hv
set_option maxHeartbeats 4000000 in
set_option maxRecDepth 100000 in
theorem c_X8_clear (l : Launch) (D : va_G) (ads : AD) (I A : HI) (hp : XOK I A) : Ct l yX8_clear cX8_clear 1 none 2 43 D ads shp [.inr (some 0)] I A (qV (fun I' A' => x_clear I A  I' A')) := by
  sorry
theorem bX8_set_0_1 : okB cX8_set RX8 0 [(3, 1, 0, 0, 0)] := And.intro ⟨_, dX8_set_0, rfl⟩ trivial
theorem bX8_set_21_22 : okB cX8_set RX8 21 [(0, 0, 0, 0, 0)] := And.intro ⟨_, dX8_set_21, by decide⟩ trivial
theorem bX8_set_4_7 : okB cX8_set RX8 4 [(3, 1, 0, 0, 0), (1, 0, 0, 0, 50)] := And.intro ⟨_, dX8_set_4, rfl⟩ (And.intro ⟨_, dX8_set_5, by decide⟩ trivial)
theorem bX8_set_10_11 : okB cX8_set RX8 10 [(3, 2, 0, 0, 0)] := And.intro ⟨_, dX8_set_10, rfl⟩ trivial
theorem bX8_set_14_18 : okB cX8_set RX8 14 [(3, 2, 0, 0, 0), (2, 0, 0, 0, 9999)] := And.intro ⟨_, dX8_set_14, rfl⟩ (And.intro ⟨_, dX8_set_15, by decide⟩ trivial)
theorem bX8_set_23_28 : okB cX8_set RX8 23 [(5, 0, 0, 0, 0), (23, 63, 8, 7, 0), (3, 2, 0, 0, 0)] := And.intro ⟨_, dX8_set_23, rfl⟩ (And.intro ⟨dX8_set_24, fl_X8_63⟩ (And.intro ⟨_, dX8_set_27, rfl⟩ trivial))
theorem bX8_set_36_47 : okB cX8_set RX8 36 [(5, 0, 0, 0, 0), (3, 1, 0, 0, 0), (24, 59, 8, 6, 0), (5, 0, 0, 0, 0), (3, 2, 0, 0, 0), (24, 63, 8, 7, 0), (0, 0, 0, 0, 1)] := And.intro ⟨_, dX8_set_36, rfl⟩ (And.intro ⟨_, dX8_set_37, rfl⟩ (And.intro ⟨dX8_set_38, fl_X8_59, rfl, rfl⟩ (And.intro ⟨_, dX8_set_41, rfl⟩ (And.intro ⟨_, dX8_set_42, rfl⟩ (And.intro ⟨dX8_set_43, fl_X8_63, rfl, rfl⟩ (And.intro ⟨_, dX8_set_46, by decide⟩ trivial))))))
theorem bX8_set_31_47 : okB cX8_set RX8 31 [(5, 0, 0, 0, 0), (0, 0, 0, 0, 0), (25, 70, 8, 9, 0), (5, 0, 0, 0, 0), (3, 1, 0, 0, 0), (24, 59, 8, 6, 0), (5, 0, 0, 0, 0), (3, 2, 0, 0, 0), (24, 63, 8, 7, 0), (0, 0, 0, 0, 1)] := And.intro ⟨_, dX8_set_31, rfl⟩ (And.intro ⟨_, dX8_set_32, by decide⟩ (And.intro ⟨dX8_set_33, fl_X8_70, rfl, rfl⟩ (And.intro ⟨_, dX8_set_36, rfl⟩ (And.intro ⟨_, dX8_set_37, rfl⟩ (And.intro ⟨dX8_set_38, fl_X8_59, rfl, rfl⟩ (And.intro ⟨_, dX8_set_41, rfl⟩ (And.intro ⟨_, dX8_set_42, rfl⟩ (And.intro ⟨dX8_set_43, fl_X8_63, rfl, rfl⟩ (And.intro ⟨_, dX8_set_46, by decide⟩ trivial)))))))))
set_option maxHeartbeats 4000000 in
set_option maxRecDepth 100000 in
theorem k_X8_set (l : Launch) (D : va_G) (ads : AD) (I A : HI) (a1 : Int32) (a2 : Int32) (po : Option AV → HI → HI → Prop)
    (hv : ((a1 < 0 → po (some (.inl 0)) I A) ∧ (¬ a1 < 0 → ((50 < a1 → po (some (.inl 0)) I A) ∧ (¬ 50 < a1 → ((a2 < 0 → po (some (.inl 0)) I A) ∧ (¬ a2 < 0 → ((a2 ≤ 9999 → (((I 0 7) = a2 → po (some (.inl 1)) (up2 (up2 I 0 6 a1) 0 7 a2) A) ∧ (¬ (I 0 7) = a2 → po (some (.inl 1)) (up2 (up2 (up2 I 0 9 0) 0 6 a1) 0 7 a2) A))) ∧ (¬ a2 ≤ 9999 → po (some (.inl 0)) I A))))))))) : Ct l yX8_set cX8_set 3 (some .boolean) 0 0 D ads shp [.inr (some 0), .inl a1, .inl a2] I A po := by
  refine Ct_of (by decide) (Nat.le_of_ble_eq_true rfl) ?_
  intro p e s m args below meth c hC hr
  replace hC : CX p s m args meth c cX8_set 3 RX8 (AdS ads s.heap.size) := hC
  show Gm p l e s m args below meth c D ads 0 0 3 po I A 0 [some (.inr (some 0)), some (.inl a1), some (.inl a2)] []
  refine g_blk hC _ bX8_set_0_1 (pc' := 1) (ls' := [some (.inr (some 0)), some (.inl a1), some (.inl a2)]) (st' := [.inl a1]) (I' := I) rfl rfl ?_
  obtain ⟨hv1, hv2⟩ := hv
  refine g_iflt hC dX8_set_1 (tgt := 21) (by decide) (fun hc => ?_) (fun hc => ?_)
  · have hv := hv1 hc
    clear hv1 hv2 hc
    refine g_blk hC _ bX8_set_21_22 (pc' := 22) (ls' := [some (.inr (some 0)), some (.inl a1), some (.inl a2)]) (st' := [.inl 0]) (I' := I) rfl rfl ?_
    exact g_reti hC hr (by decide) dX8_set_22 hv
  · have hv := hv2 hc
    clear hv1 hv2 hc
    refine g_blk hC _ bX8_set_4_7 (pc' := 7) (ls' := [some (.inr (some 0)), some (.inl a1), some (.inl a2)]) (st' := [.inl 50, .inl a1]) (I' := I) rfl rfl ?_
    obtain ⟨hv1, hv2⟩ := hv
    refine g_cgt hC dX8_set_7 (tgt := 21) (by decide) (fun hc => ?_) (fun hc => ?_)
    · have hv := hv1 hc
      clear hv1 hv2 hc
      refine g_blk hC _ bX8_set_21_22 (pc' := 22) (ls' := [some (.inr (some 0)), some (.inl a1), some (.inl a2)]) (st' := [.inl 0]) (I' := I) rfl rfl ?_
      exact g_reti hC hr (by decide) dX8_set_22 hv
    · have hv := hv2 hc
      clear hv1 hv2 hc
      refine g_blk hC _ bX8_set_10_11 (pc' := 11) (ls' := [some (.inr (some 0)), some (.inl a1), some (.inl a2)]) (st' := [.inl a2]) (I' := I) rfl rfl ?_
      obtain ⟨hv1, hv2⟩ := hv
      refine g_iflt hC dX8_set_11 (tgt := 21) (by decide) (fun hc => ?_) (fun hc => ?_)
      · have hv := hv1 hc
        clear hv1 hv2 hc
        refine g_blk hC _ bX8_set_21_22 (pc' := 22) (ls' := [some (.inr (some 0)), some (.inl a1), some (.inl a2)]) (st' := [.inl 0]) (I' := I) rfl rfl ?_
        exact g_reti hC hr (by decide) dX8_set_22 hv
      · have hv := hv2 hc
        clear hv1 hv2 hc
        refine g_blk hC _ bX8_set_14_18 (pc' := 18) (ls' := [some (.inr (some 0)), some (.inl a1), some (.inl a2)]) (st' := [.inl 9999, .inl a2]) (I' := I) rfl rfl ?_
        obtain ⟨hv1, hv2⟩ := hv
        refine g_cle hC dX8_set_18 (tgt := 23) (by decide) (fun hc => ?_) (fun hc => ?_)
        · have hv := hv1 hc
          clear hv1 hv2 hc
          refine g_blk hC _ bX8_set_23_28 (pc' := 28) (ls' := [some (.inr (some 0)), some (.inl a1), some (.inl a2)]) (st' := [.inl a2, .inl (I 0 7)]) (I' := I) rfl rfl ?_
          obtain ⟨hv1, hv2⟩ := hv
          refine g_ceq hC dX8_set_28 (tgt := 36) (by decide) (fun hc => ?_) (fun hc => ?_)
          · have hv := hv1 hc
            clear hv1 hv2 hc
            refine g_blk hC _ bX8_set_36_47 (pc' := 47) (ls' := [some (.inr (some 0)), some (.inl a1), some (.inl a2)]) (st' := [.inl 1]) (I' := up2 (up2 I 0 6 a1) 0 7 a2) rfl rfl ?_
            exact g_reti hC hr (by decide) dX8_set_47 hv
          · have hv := hv2 hc
            clear hv1 hv2 hc
            refine g_blk hC _ bX8_set_31_47 (pc' := 47) (ls' := [some (.inr (some 0)), some (.inl a1), some (.inl a2)]) (st' := [.inl 1]) (I' := up2 (up2 (up2 I 0 9 0) 0 6 a1) 0 7 a2) rfl rfl ?_
            exact g_reti hC hr (by decide) dX8_set_47 hv
        · have hv := hv2 hc
          clear hv1 hv2 hc
          refine g_blk hC _ bX8_set_21_22 (pc' := 22) (ls' := [some (.inr (some 0)), some (.inl a1), some (.inl a2)]) (st' := [.inl 0]) (I' := I) rfl rfl ?_
          exact g_reti hC hr (by decide) dX8_set_22 hv
set_option maxHeartbeats 4000000 in
set_option maxRecDepth 100000 in
theorem c_X8_set (l : Launch) (D : va_G) (ads : AD) (I A : HI) (a1 : Int32) (a2 : Int32) (hp : XOK I A) : Ct l yX8_set cX8_set 3 (some .boolean) 0 0 D ads shp [.inr (some 0), .inl a1, .inl a2] I A (qJ (fun r I' A' => x_set I A a1 a2 r I' A')) := by
  sorry
theorem bX8_about_0_1 : okB cX8_about RX8 0 [(3, 1, 0, 0, 0)] := And.intro ⟨_, dX8_about_0, rfl⟩ trivial
theorem bX8_about_48_52 : okB cX8_about RX8 48 [(5, 0, 0, 0, 0), (23, 12, 8, 0, 0)] := And.intro ⟨_, dX8_about_48, rfl⟩ (And.intro ⟨dX8_about_49, fl_X8_12⟩ trivial)
theorem bX8_about_56_60 : okB cX8_about RX8 56 [(5, 0, 0, 0, 0), (23, 12, 8, 0, 0)] := And.intro ⟨_, dX8_about_56, rfl⟩ (And.intro ⟨dX8_about_57, fl_X8_12⟩ trivial)
theorem bX8_about_64_65 : okB cX8_about RX8 64 [(5, 0, 0, 0, 0)] := And.intro ⟨_, dX8_about_64, rfl⟩ trivial
theorem bX8_about_72_73 : okB cX8_about RX8 72 [(5, 0, 0, 0, 0)] := And.intro ⟨_, dX8_about_72, rfl⟩ trivial
theorem bX8_about_80_81 : okB cX8_about RX8 80 [(5, 0, 0, 0, 0)] := And.intro ⟨_, dX8_about_80, rfl⟩ trivial
theorem bX8_about_88_92 : okB cX8_about RX8 88 [(5, 0, 0, 0, 0), (23, 59, 8, 6, 0)] := And.intro ⟨_, dX8_about_88, rfl⟩ (And.intro ⟨dX8_about_89, fl_X8_59⟩ trivial)
theorem bX8_about_93_97 : okB cX8_about RX8 93 [(5, 0, 0, 0, 0), (23, 63, 8, 7, 0)] := And.intro ⟨_, dX8_about_93, rfl⟩ (And.intro ⟨dX8_about_94, fl_X8_63⟩ trivial)
theorem bX8_about_98_102 : okB cX8_about RX8 98 [(5, 0, 0, 0, 0), (23, 37, 8, 3, 0)] := And.intro ⟨_, dX8_about_98, rfl⟩ (And.intro ⟨dX8_about_99, fl_X8_37⟩ trivial)
theorem bX8_about_112_113 : okB cX8_about RX8 112 [(0, 0, 0, 0, 0)] := And.intro ⟨_, dX8_about_112, by decide⟩ trivial
theorem bX8_about_108_109 : okB cX8_about RX8 108 [(0, 0, 0, 0, 1)] := And.intro ⟨_, dX8_about_108, by decide⟩ trivial
theorem bX8_about_114_115 : okB cX8_about RX8 114 [(0, 0, 0, 0, (-1))] := And.intro ⟨_, dX8_about_114, by decide⟩ trivial
set_option maxHeartbeats 4000000 in
set_option maxRecDepth 100000 in
theorem k_X8_about (l : Launch) (D : va_G) (ads : AD) (I A : HI) (a1 : Int32) (po : Option AV → HI → HI → Prop)
    (hv : ((a1 = 0 → po (some (.inl (I 1 1))) I A) ∧ (a1 = 1 → po (some (.inl (sm32 (A 2) 100))) I A) ∧ (a1 = 2 → ((XOK I A) ∧ (∀ (I4 A4 : HI), frR I A I4 A4 → po (some (.inl (I4 3 12))) I4 A4))) ∧ (a1 = 3 → ((XOK I A) ∧ (∀ (I7 A7 : HI), frR I A I7 A7 → po (some (.inl (I7 3 13))) I7 A7))) ∧ (a1 = 4 → ((XOK I A) ∧ (∀ (I10 A10 : HI), frR I A I10 A10 → po (some (.inl (I10 3 11))) I10 A10))) ∧ (a1 = 5 → po (some (.inl (I 0 6))) I A) ∧ (a1 = 6 → po (some (.inl (I 0 7))) I A) ∧ (a1 = 7 → (((I 26 2) = 0 → po (some (.inl 0)) I A) ∧ (¬ (I 26 2) = 0 → po (some (.inl 1)) I A))) ∧ (a1.toInt < 0 ∨ 7 < a1.toInt → po (some (.inl ((-1)))) I A))) : Ct l yX8_about cX8_about 2 (some .int) 5 110 D ads shp [.inr (some 0), .inl a1] I A po := by
  refine Ct_of (by decide) (Nat.le_of_ble_eq_true rfl) ?_
  intro p e s m args below meth c hC hr
  replace hC : CX p s m args meth c cX8_about 2 RX8 (AdS ads s.heap.size) := hC
  show Gm p l e s m args below meth c D ads 5 110 2 po I A 0 [some (.inr (some 0)), some (.inl a1)] []
  refine g_blk hC _ bX8_about_0_1 (pc' := 1) (ls' := [some (.inr (some 0)), some (.inl a1)]) (st' := [.inl a1]) (I' := I) rfl rfl ?_
  obtain ⟨hv_0, hv_1, hv_2, hv_3, hv_4, hv_5, hv_6, hv_7, hvd⟩ := hv
  by_cases hc0 : a1 = 0
  · refine g_tabI hC dX8_about_1 (tgt := 48) (by rw [hc0]; decide) (by rw [hc0]; decide) (by rw [hc0]; rfl) (by decide) ?_
    have hv := hv_0 hc0
    refine g_blk hC _ bX8_about_48_52 (pc' := 52) (ls' := [some (.inr (some 0)), some (.inl a1)]) (st' := [.inr (some 1)]) (I' := I) rfl rfl ?_
    refine g_callV hC (c_X2_number l D ads I A ) dX8_about_52 nm_X2_number rfl rfl wl_X8_88 wi_X2_number ws_X2_number wn_X2 wc_X2_number ⟨by decide, by decide⟩ (as := []) (rest := []) rfl (Nat.le_of_ble_eq_true rfl) ⟨Nat.le_refl _, Nat.le_refl _⟩ (k_qI ?_)
    exact g_reti hC hr rfl dX8_about_55 hv
  by_cases hc1 : a1 = 1
  · refine g_tabI hC dX8_about_1 (tgt := 56) (by rw [hc1]; decide) (by rw [hc1]; decide) (by rw [hc1]; rfl) (by decide) ?_
    have hv := hv_1 hc1
    refine g_blk hC _ bX8_about_56_60 (pc' := 60) (ls' := [some (.inr (some 0)), some (.inl a1)]) (st' := [.inr (some 1)]) (I' := I) rfl rfl ?_
    refine g_callV hC (c_X2_sum l D ads I A ) dX8_about_60 nm_X2_sum rfl rfl wl_X8_92 wi_X2_sum ws_X2_sum wn_X2 wc_X2_sum ⟨by decide, by decide⟩ (as := []) (rest := []) rfl (Nat.le_of_ble_eq_true rfl) ⟨Nat.le_refl _, Nat.le_refl _⟩ (k_qI ?_)
    exact g_reti hC hr rfl dX8_about_63 hv
  by_cases hc2 : a1 = 2
  · refine g_tabI hC dX8_about_1 (tgt := 64) (by rw [hc2]; decide) (by rw [hc2]; decide) (by rw [hc2]; rfl) (by decide) ?_
    have hv := hv_2 hc2
    refine g_blk hC _ bX8_about_64_65 (pc' := 65) (ls' := [some (.inr (some 0)), some (.inl a1)]) (st' := [.inr (some 0)]) (I' := I) rfl rfl ?_
    obtain ⟨hp3, hv⟩ := hv
    refine g_callV hC (c_X8_freshRanking l D ads I A  hp3) dX8_about_65 nm_X8_freshRanking rfl rfl wl_X8_95 wi_X8_freshRanking ws_X8_freshRanking wn_X8 wc_X8_freshRanking ⟨by decide, by decide⟩ (as := []) (rest := []) rfl (Nat.le_of_ble_eq_true rfl) ⟨Nat.le_refl _, Nat.le_refl _⟩ (k_qK ?_)
    intro I4 A4 hq4
    replace hv := hv I4 A4 hq4
    refine g_callV hC (c_X5_turnedNumber l D ads I4 A4 ) dX8_about_68 nm_X5_turnedNumber rfl rfl wl_X8_99 wi_X5_turnedNumber ws_X5_turnedNumber wn_X5 wc_X5_turnedNumber ⟨by decide, by decide⟩ (as := []) (rest := []) rfl (Nat.le_of_ble_eq_true rfl) ⟨Nat.le_refl _, Nat.le_refl _⟩ (k_qI ?_)
    exact g_reti hC hr rfl dX8_about_71 hv
  by_cases hc3 : a1 = 3
  · refine g_tabI hC dX8_about_1 (tgt := 72) (by rw [hc3]; decide) (by rw [hc3]; decide) (by rw [hc3]; rfl) (by decide) ?_
    have hv := hv_3 hc3
    refine g_blk hC _ bX8_about_72_73 (pc' := 73) (ls' := [some (.inr (some 0)), some (.inl a1)]) (st' := [.inr (some 0)]) (I' := I) rfl rfl ?_
    obtain ⟨hp6, hv⟩ := hv
    refine g_callV hC (c_X8_freshRanking l D ads I A  hp6) dX8_about_73 nm_X8_freshRanking rfl rfl wl_X8_95 wi_X8_freshRanking ws_X8_freshRanking wn_X8 wc_X8_freshRanking ⟨by decide, by decide⟩ (as := []) (rest := []) rfl (Nat.le_of_ble_eq_true rfl) ⟨Nat.le_refl _, Nat.le_refl _⟩ (k_qK ?_)
    intro I7 A7 hq7
    replace hv := hv I7 A7 hq7
    refine g_callV hC (c_X5_turnedSum l D ads I7 A7 ) dX8_about_76 nm_X5_turnedSum rfl rfl wl_X8_102 wi_X5_turnedSum ws_X5_turnedSum wn_X5 wc_X5_turnedSum ⟨by decide, by decide⟩ (as := []) (rest := []) rfl (Nat.le_of_ble_eq_true rfl) ⟨Nat.le_refl _, Nat.le_refl _⟩ (k_qI ?_)
    exact g_reti hC hr rfl dX8_about_79 hv
  by_cases hc4 : a1 = 4
  · refine g_tabI hC dX8_about_1 (tgt := 80) (by rw [hc4]; decide) (by rw [hc4]; decide) (by rw [hc4]; rfl) (by decide) ?_
    have hv := hv_4 hc4
    refine g_blk hC _ bX8_about_80_81 (pc' := 81) (ls' := [some (.inr (some 0)), some (.inl a1)]) (st' := [.inr (some 0)]) (I' := I) rfl rfl ?_
    obtain ⟨hp9, hv⟩ := hv
    refine g_callV hC (c_X8_freshRanking l D ads I A  hp9) dX8_about_81 nm_X8_freshRanking rfl rfl wl_X8_95 wi_X8_freshRanking ws_X8_freshRanking wn_X8 wc_X8_freshRanking ⟨by decide, by decide⟩ (as := []) (rest := []) rfl (Nat.le_of_ble_eq_true rfl) ⟨Nat.le_refl _, Nat.le_refl _⟩ (k_qK ?_)
    intro I10 A10 hq10
    replace hv := hv I10 A10 hq10
    refine g_callV hC (c_X5_layers l D ads I10 A10 ) dX8_about_84 nm_X5_layers rfl rfl wl_X8_105 wi_X5_layers ws_X5_layers wn_X5 wc_X5_layers ⟨by decide, by decide⟩ (as := []) (rest := []) rfl (Nat.le_of_ble_eq_true rfl) ⟨Nat.le_refl _, Nat.le_refl _⟩ (k_qI ?_)
    exact g_reti hC hr rfl dX8_about_87 hv
  by_cases hc5 : a1 = 5
  · refine g_tabI hC dX8_about_1 (tgt := 88) (by rw [hc5]; decide) (by rw [hc5]; decide) (by rw [hc5]; rfl) (by decide) ?_
    have hv := hv_5 hc5
    refine g_blk hC _ bX8_about_88_92 (pc' := 92) (ls' := [some (.inr (some 0)), some (.inl a1)]) (st' := [.inl (I 0 6)]) (I' := I) rfl rfl ?_
    exact g_reti hC hr rfl dX8_about_92 hv
  by_cases hc6 : a1 = 6
  · refine g_tabI hC dX8_about_1 (tgt := 93) (by rw [hc6]; decide) (by rw [hc6]; decide) (by rw [hc6]; rfl) (by decide) ?_
    have hv := hv_6 hc6
    refine g_blk hC _ bX8_about_93_97 (pc' := 97) (ls' := [some (.inr (some 0)), some (.inl a1)]) (st' := [.inl (I 0 7)]) (I' := I) rfl rfl ?_
    exact g_reti hC hr rfl dX8_about_97 hv
  by_cases hc7 : a1 = 7
  · refine g_tabI hC dX8_about_1 (tgt := 98) (by rw [hc7]; decide) (by rw [hc7]; decide) (by rw [hc7]; rfl) (by decide) ?_
    have hv := hv_7 hc7
    refine g_blk hC _ bX8_about_98_102 (pc' := 102) (ls' := [some (.inr (some 0)), some (.inl a1)]) (st' := [.inr (some 26)]) (I' := I) rfl rfl ?_
    refine g_callV hC (c_X4_holds l D ads I A ) dX8_about_102 nm_X4_holds rfl rfl wl_X8_108 wi_X4_holds ws_X4_holds wn_X4 wc_X4_holds ⟨by decide, by decide⟩ (as := []) (rest := []) rfl (Nat.le_of_ble_eq_true rfl) ⟨Nat.le_refl _, Nat.le_refl _⟩ (k_qI ?_)
    obtain ⟨hv1, hv2⟩ := hv
    refine g_ifeq hC dX8_about_105 (tgt := 112) (by decide) (fun hc => ?_) (fun hc => ?_)
    · have hv := hv1 hc
      clear hv1 hv2 hc
      refine g_blk hC _ bX8_about_112_113 (pc' := 113) (ls' := [some (.inr (some 0)), some (.inl a1)]) (st' := [.inl 0]) (I' := I) rfl rfl ?_
      exact g_reti hC hr rfl dX8_about_113 hv
    · have hv := hv2 hc
      clear hv1 hv2 hc
      refine g_blk hC _ bX8_about_108_109 (pc' := 109) (ls' := [some (.inr (some 0)), some (.inl a1)]) (st' := [.inl 1]) (I' := I) rfl rfl ?_
      refine g_goto hC dX8_about_109 (tgt := 113) (by decide) ?_
      exact g_reti hC hr rfl dX8_about_113 hv
  have hn0 := lv_neT hc0 (k := 0) (a := 0) (by decide)
  have hn1 := lv_neT hc1 (k := 1) (a := 1) (by decide)
  have hn2 := lv_neT hc2 (k := 2) (a := 2) (by decide)
  have hn3 := lv_neT hc3 (k := 3) (a := 3) (by decide)
  have hn4 := lv_neT hc4 (k := 4) (a := 4) (by decide)
  have hn5 := lv_neT hc5 (k := 5) (a := 5) (by decide)
  have hn6 := lv_neT hc6 (k := 6) (a := 6) (by decide)
  have hn7 := lv_neT hc7 (k := 7) (a := 7) (by decide)
  have hcd : a1.toInt < 0 ∨ 7 < a1.toInt := by omega
  refine g_tabO hC dX8_about_1 (tgt := 114) hcd (by decide) ?_
  have hv := hvd hcd
  refine g_blk hC _ bX8_about_114_115 (pc' := 115) (ls' := [some (.inr (some 0)), some (.inl a1)]) (st' := [.inl ((-1))]) (I' := I) rfl rfl ?_
  exact g_reti hC hr rfl dX8_about_115 hv
set_option maxHeartbeats 4000000 in
set_option maxRecDepth 100000 in
theorem c_X8_about (l : Launch) (D : va_G) (ads : AD) (I A : HI) (a1 : Int32) (hp : XOK I A) : Ct l yX8_about cX8_about 2 (some .int) 5 110 D ads shp [.inr (some 0), .inl a1] I A (qJ (fun r I' A' => x_about I A a1 r I' A')) := by
  sorry
theorem bX8_width_0_6 : okB cX8_width RX8 0 [(5, 0, 0, 0, 0), (23, 12, 8, 0, 0), (3, 1, 0, 0, 0), (3, 2, 0, 0, 0)] := And.intro ⟨_, dX8_width_0, rfl⟩ (And.intro ⟨dX8_width_1, fl_X8_12⟩ (And.intro ⟨_, dX8_width_4, rfl⟩ (And.intro ⟨_, dX8_width_5, rfl⟩ trivial)))
set_option maxHeartbeats 4000000 in
set_option maxRecDepth 100000 in
theorem k_X8_width (l : Launch) (D : va_G) (ads : AD) (I A : HI) (a1 : Int32) (a2 : Int32) (po : Option AV → HI → HI → Prop)
    (hv : po (some (.inl (btw A a1 a2))) I A) : Ct l yX8_width cX8_width 3 (some .int) 2 43 D ads shp [.inr (some 0), .inl a1, .inl a2] I A po := by
  refine Ct_of (by decide) (Nat.le_of_ble_eq_true rfl) ?_
  intro p e s m args below meth c hC hr
  replace hC : CX p s m args meth c cX8_width 3 RX8 (AdS ads s.heap.size) := hC
  show Gm p l e s m args below meth c D ads 2 43 3 po I A 0 [some (.inr (some 0)), some (.inl a1), some (.inl a2)] []
  refine g_blk hC _ bX8_width_0_6 (pc' := 6) (ls' := [some (.inr (some 0)), some (.inl a1), some (.inl a2)]) (st' := [.inl a2, .inl a1, .inr (some 1)]) (I' := I) rfl rfl ?_
  refine g_callV hC (c_X2_between l D ads I A a1 a2) dX8_width_6 nm_X2_between rfl rfl wl_X8_77 wi_X2_between ws_X2_between wn_X2 wc_X2_between ⟨by decide, by decide⟩ (as := [.inl a1, .inl a2]) (rest := []) rfl (Nat.le_of_ble_eq_true rfl) ⟨Nat.le_refl _, Nat.le_refl _⟩ (k_qI ?_)
  exact g_reti hC hr rfl dX8_width_9 hv
set_option maxHeartbeats 4000000 in
set_option maxRecDepth 100000 in
theorem c_X8_width (l : Launch) (D : va_G) (ads : AD) (I A : HI) (a1 : Int32) (a2 : Int32) (hp : XOK I A) : Ct l yX8_width cX8_width 3 (some .int) 2 43 D ads shp [.inr (some 0), .inl a1, .inl a2] I A (qJ (fun r I' A' => x_width I A a1 a2 r I' A')) := by
  sorry
theorem bX8_turned_0_6 : okB cX8_turned RX8 0 [(5, 0, 0, 0, 0), (23, 12, 8, 0, 0), (3, 1, 0, 0, 0), (3, 2, 0, 0, 0)] := And.intro ⟨_, dX8_turned_0, rfl⟩ (And.intro ⟨dX8_turned_1, fl_X8_12⟩ (And.intro ⟨_, dX8_turned_4, rfl⟩ (And.intro ⟨_, dX8_turned_5, rfl⟩ trivial)))
theorem bX8_turned_14_15 : okB cX8_turned RX8 14 [(5, 0, 0, 0, 0)] := And.intro ⟨_, dX8_turned_14, rfl⟩ trivial
theorem bX8_turned_18_20 : okB cX8_turned RX8 18 [(3, 1, 0, 0, 0), (3, 2, 0, 0, 0)] := And.intro ⟨_, dX8_turned_18, rfl⟩ (And.intro ⟨_, dX8_turned_19, rfl⟩ trivial)
theorem bX8_turned_30_31 : okB cX8_turned RX8 30 [(0, 0, 0, 0, 0)] := And.intro ⟨_, dX8_turned_30, by decide⟩ trivial
theorem bX8_turned_26_27 : okB cX8_turned RX8 26 [(0, 0, 0, 0, 1)] := And.intro ⟨_, dX8_turned_26, by decide⟩ trivial
theorem bX8_turned_12_13 : okB cX8_turned RX8 12 [(0, 0, 0, 0, (-1))] := And.intro ⟨_, dX8_turned_12, by decide⟩ trivial
set_option maxHeartbeats 4000000 in
set_option maxRecDepth 100000 in
theorem k_X8_turned (l : Launch) (D : va_G) (ads : AD) (I A : HI) (a1 : Int32) (a2 : Int32) (po : Option AV → HI → HI → Prop)
    (hv : ((¬ (btw A a1 a2) = 0 → ((XOK I A) ∧ (∀ (I3 A3 : HI), frR I A I3 A3 → ((vp_in a1 10 ∧ vp_in a2 10) ∧ (((trnI (A3 10) a1 a2) = 0 → po (some (.inl 0)) I3 A3) ∧ (¬ (trnI (A3 10) a1 a2) = 0 → po (some (.inl 1)) I3 A3)))))) ∧ ((btw A a1 a2) = 0 → po (some (.inl ((-1)))) I A))) : Ct l yX8_turned cX8_turned 3 (some .int) 5 110 D ads shp [.inr (some 0), .inl a1, .inl a2] I A po := by
  refine Ct_of (by decide) (Nat.le_of_ble_eq_true rfl) ?_
  intro p e s m args below meth c hC hr
  replace hC : CX p s m args meth c cX8_turned 3 RX8 (AdS ads s.heap.size) := hC
  show Gm p l e s m args below meth c D ads 5 110 3 po I A 0 [some (.inr (some 0)), some (.inl a1), some (.inl a2)] []
  refine g_blk hC _ bX8_turned_0_6 (pc' := 6) (ls' := [some (.inr (some 0)), some (.inl a1), some (.inl a2)]) (st' := [.inl a2, .inl a1, .inr (some 1)]) (I' := I) rfl rfl ?_
  refine g_callV hC (c_X2_between l D ads I A a1 a2) dX8_turned_6 nm_X2_between rfl rfl wl_X8_77 wi_X2_between ws_X2_between wn_X2 wc_X2_between ⟨by decide, by decide⟩ (as := [.inl a1, .inl a2]) (rest := []) rfl (Nat.le_of_ble_eq_true rfl) ⟨Nat.le_refl _, Nat.le_refl _⟩ (k_qI ?_)
  obtain ⟨hv1, hv2⟩ := hv
  refine g_ifne hC dX8_turned_9 (tgt := 14) (by decide) (fun hc => ?_) (fun hc => ?_)
  · have hv := hv1 hc
    clear hv1 hv2 hc
    refine g_blk hC _ bX8_turned_14_15 (pc' := 15) (ls' := [some (.inr (some 0)), some (.inl a1), some (.inl a2)]) (st' := [.inr (some 0)]) (I' := I) rfl rfl ?_
    obtain ⟨hp2, hv⟩ := hv
    refine g_callV hC (c_X8_freshRanking l D ads I A  hp2) dX8_turned_15 nm_X8_freshRanking rfl rfl wl_X8_95 wi_X8_freshRanking ws_X8_freshRanking wn_X8 wc_X8_freshRanking ⟨by decide, by decide⟩ (as := []) (rest := []) rfl (Nat.le_of_ble_eq_true rfl) ⟨Nat.le_refl _, Nat.le_refl _⟩ (k_qK ?_)
    intro I3 A3 hq3
    replace hv := hv I3 A3 hq3
    refine g_blk hC _ bX8_turned_18_20 (pc' := 20) (ls' := [some (.inr (some 0)), some (.inl a1), some (.inl a2)]) (st' := [.inl a2, .inl a1, .inr (some 3)]) (I' := I3) rfl rfl ?_
    obtain ⟨hp4, hv⟩ := hv
    refine g_callV hC (c_X5_turns l D ads I3 A3 a1 a2 hp4) dX8_turned_20 nm_X5_turns rfl rfl wl_X8_112 wi_X5_turns ws_X5_turns wn_X5 wc_X5_turns ⟨by decide, by decide⟩ (as := [.inl a1, .inl a2]) (rest := []) rfl (Nat.le_of_ble_eq_true rfl) ⟨Nat.le_refl _, Nat.le_refl _⟩ (k_qI ?_)
    obtain ⟨hv1, hv2⟩ := hv
    refine g_ifeq hC dX8_turned_23 (tgt := 30) (by decide) (fun hc => ?_) (fun hc => ?_)
    · have hv := hv1 hc
      clear hv1 hv2 hc
      refine g_blk hC _ bX8_turned_30_31 (pc' := 31) (ls' := [some (.inr (some 0)), some (.inl a1), some (.inl a2)]) (st' := [.inl 0]) (I' := I3) rfl rfl ?_
      exact g_reti hC hr rfl dX8_turned_31 hv
    · have hv := hv2 hc
      clear hv1 hv2 hc
      refine g_blk hC _ bX8_turned_26_27 (pc' := 27) (ls' := [some (.inr (some 0)), some (.inl a1), some (.inl a2)]) (st' := [.inl 1]) (I' := I3) rfl rfl ?_
      refine g_goto hC dX8_turned_27 (tgt := 31) (by decide) ?_
      exact g_reti hC hr rfl dX8_turned_31 hv
  · have hv := hv2 hc
    clear hv1 hv2 hc
    refine g_blk hC _ bX8_turned_12_13 (pc' := 13) (ls' := [some (.inr (some 0)), some (.inl a1), some (.inl a2)]) (st' := [.inl ((-1))]) (I' := I) rfl rfl ?_
    exact g_reti hC hr rfl dX8_turned_13 hv
set_option maxHeartbeats 4000000 in
set_option maxRecDepth 100000 in
theorem c_X8_turned (l : Launch) (D : va_G) (ads : AD) (I A : HI) (a1 : Int32) (a2 : Int32) (hp : XOK I A) : Ct l yX8_turned cX8_turned 3 (some .int) 5 110 D ads shp [.inr (some 0), .inl a1, .inl a2] I A (qJ (fun r I' A' => x_turned I A a1 a2 r I' A')) := by
  sorry
theorem bX8_row_0_1 : okB cX8_row RX8 0 [(5, 0, 0, 0, 0)] := And.intro ⟨_, dX8_row_0, rfl⟩ trivial
theorem bX8_row_4_5 : okB cX8_row RX8 4 [(3, 1, 0, 0, 0)] := And.intro ⟨_, dX8_row_4, rfl⟩ trivial
set_option maxHeartbeats 4000000 in
set_option maxRecDepth 100000 in
theorem k_X8_row (l : Launch) (D : va_G) (ads : AD) (I A : HI) (a1 : Int32) (po : Option AV → HI → HI → Prop)
    (hv : ((XOK I A) ∧ (∀ (I2 A2 : HI), frR I A I2 A2 → ((I2 3 2 ≤ 10) ∧ po (some (.inl (plI I2 A2 a1))) I2 A2)))) : Ct l yX8_row cX8_row 2 (some .int) 5 110 D ads shp [.inr (some 0), .inl a1] I A po := by
  refine Ct_of (by decide) (Nat.le_of_ble_eq_true rfl) ?_
  intro p e s m args below meth c hC hr
  replace hC : CX p s m args meth c cX8_row 2 RX8 (AdS ads s.heap.size) := hC
  show Gm p l e s m args below meth c D ads 5 110 2 po I A 0 [some (.inr (some 0)), some (.inl a1)] []
  refine g_blk hC _ bX8_row_0_1 (pc' := 1) (ls' := [some (.inr (some 0)), some (.inl a1)]) (st' := [.inr (some 0)]) (I' := I) rfl rfl ?_
  obtain ⟨hp1, hv⟩ := hv
  refine g_callV hC (c_X8_freshRanking l D ads I A  hp1) dX8_row_1 nm_X8_freshRanking rfl rfl wl_X8_95 wi_X8_freshRanking ws_X8_freshRanking wn_X8 wc_X8_freshRanking ⟨by decide, by decide⟩ (as := []) (rest := []) rfl (Nat.le_of_ble_eq_true rfl) ⟨Nat.le_refl _, Nat.le_refl _⟩ (k_qK ?_)
  intro I2 A2 hq2
  replace hv := hv I2 A2 hq2
  refine g_blk hC _ bX8_row_4_5 (pc' := 5) (ls' := [some (.inr (some 0)), some (.inl a1)]) (st' := [.inl a1, .inr (some 3)]) (I' := I2) rfl rfl ?_
  obtain ⟨hp3, hv⟩ := hv
  refine g_callV hC (c_X5_placeAt l D ads I2 A2 a1 hp3) dX8_row_5 nm_X5_placeAt rfl rfl wl_X8_116 wi_X5_placeAt ws_X5_placeAt wn_X5 wc_X5_placeAt ⟨by decide, by decide⟩ (as := [.inl a1]) (rest := []) rfl (Nat.le_of_ble_eq_true rfl) ⟨Nat.le_refl _, Nat.le_refl _⟩ (k_qI ?_)
  exact g_reti hC hr rfl dX8_row_8 hv
set_option maxHeartbeats 4000000 in
set_option maxRecDepth 100000 in
theorem c_X8_row (l : Launch) (D : va_G) (ads : AD) (I A : HI) (a1 : Int32) (hp : XOK I A) : Ct l yX8_row cX8_row 2 (some .int) 5 110 D ads shp [.inr (some 0), .inl a1] I A (qJ (fun r I' A' => x_row I A a1 r I' A')) := by
  sorry
theorem bX8_layer_0_1 : okB cX8_layer RX8 0 [(3, 1, 0, 0, 0)] := And.intro ⟨_, dX8_layer_0, rfl⟩ trivial
theorem bX8_layer_18_19 : okB cX8_layer RX8 18 [(0, 0, 0, 0, (-1))] := And.intro ⟨_, dX8_layer_18, by decide⟩ trivial
theorem bX8_layer_7_8 : okB cX8_layer RX8 7 [(5, 0, 0, 0, 0)] := And.intro ⟨_, dX8_layer_7, rfl⟩ trivial
theorem bX8_layer_11_12 : okB cX8_layer RX8 11 [(3, 1, 0, 0, 0)] := And.intro ⟨_, dX8_layer_11, rfl⟩ trivial
set_option maxHeartbeats 4000000 in
set_option maxRecDepth 100000 in
theorem k_X8_layer (l : Launch) (D : va_G) (ads : AD) (I A : HI) (a1 : Int32) (po : Option AV → HI → HI → Prop)
    (hv : (((zP a1) = 0 → po (some (.inl ((-1)))) I A) ∧ (¬ (zP a1) = 0 → ((XOK I A) ∧ (∀ (I3 A3 : HI), frR I A I3 A3 → ((vp_in a1 10) ∧ po (some (.inl (A3 11 a1.toNatClampNeg))) I3 A3)))))) : Ct l yX8_layer cX8_layer 2 (some .int) 5 110 D ads shp [.inr (some 0), .inl a1] I A po := by
  refine Ct_of (by decide) (Nat.le_of_ble_eq_true rfl) ?_
  intro p e s m args below meth c hC hr
  replace hC : CX p s m args meth c cX8_layer 2 RX8 (AdS ads s.heap.size) := hC
  show Gm p l e s m args below meth c D ads 5 110 2 po I A 0 [some (.inr (some 0)), some (.inl a1)] []
  refine g_blk hC _ bX8_layer_0_1 (pc' := 1) (ls' := [some (.inr (some 0)), some (.inl a1)]) (st' := [.inl a1]) (I' := I) rfl rfl ?_
  refine g_callS hC (c_X8_isPlace l D ads I A a1) dX8_layer_1 nm_X8_isPlace wl_X8_120 wt_X8_isPlace wn_X8 wc_X8_isPlace ⟨by decide, by decide⟩ (as := [.inl a1]) (rest := []) rfl (Nat.le_of_ble_eq_true rfl) ⟨Nat.le_refl _, Nat.le_refl _⟩ (k_qI ?_)
  obtain ⟨hv1, hv2⟩ := hv
  refine g_ifeq hC dX8_layer_4 (tgt := 18) (by decide) (fun hc => ?_) (fun hc => ?_)
  · have hv := hv1 hc
    clear hv1 hv2 hc
    refine g_blk hC _ bX8_layer_18_19 (pc' := 19) (ls' := [some (.inr (some 0)), some (.inl a1)]) (st' := [.inl ((-1))]) (I' := I) rfl rfl ?_
    exact g_reti hC hr rfl dX8_layer_19 hv
  · have hv := hv2 hc
    clear hv1 hv2 hc
    refine g_blk hC _ bX8_layer_7_8 (pc' := 8) (ls' := [some (.inr (some 0)), some (.inl a1)]) (st' := [.inr (some 0)]) (I' := I) rfl rfl ?_
    obtain ⟨hp2, hv⟩ := hv
    refine g_callV hC (c_X8_freshRanking l D ads I A  hp2) dX8_layer_8 nm_X8_freshRanking rfl rfl wl_X8_95 wi_X8_freshRanking ws_X8_freshRanking wn_X8 wc_X8_freshRanking ⟨by decide, by decide⟩ (as := []) (rest := []) rfl (Nat.le_of_ble_eq_true rfl) ⟨Nat.le_refl _, Nat.le_refl _⟩ (k_qK ?_)
    intro I3 A3 hq3
    replace hv := hv I3 A3 hq3
    refine g_blk hC _ bX8_layer_11_12 (pc' := 12) (ls' := [some (.inr (some 0)), some (.inl a1)]) (st' := [.inl a1, .inr (some 3)]) (I' := I3) rfl rfl ?_
    obtain ⟨hp4, hv⟩ := hv
    refine g_callV hC (c_X5_layerOf l D ads I3 A3 a1 hp4) dX8_layer_12 nm_X5_layerOf rfl rfl wl_X8_124 wi_X5_layerOf ws_X5_layerOf wn_X5 wc_X5_layerOf ⟨by decide, by decide⟩ (as := [.inl a1]) (rest := []) rfl (Nat.le_of_ble_eq_true rfl) ⟨Nat.le_refl _, Nat.le_refl _⟩ (k_qI ?_)
    refine g_goto hC dX8_layer_15 (tgt := 19) (by decide) ?_
    exact g_reti hC hr rfl dX8_layer_19 hv
set_option maxHeartbeats 4000000 in
set_option maxRecDepth 100000 in
theorem c_X8_layer (l : Launch) (D : va_G) (ads : AD) (I A : HI) (a1 : Int32) (hp : XOK I A) : Ct l yX8_layer cX8_layer 2 (some .int) 5 110 D ads shp [.inr (some 0), .inl a1] I A (qJ (fun r I' A' => x_layer I A a1 r I' A')) := by
  sorry
theorem bX8_rest_0_1 : okB cX8_rest RX8 0 [(3, 1, 0, 0, 0)] := And.intro ⟨_, dX8_rest_0, rfl⟩ trivial
theorem bX8_rest_27_30 : okB cX8_rest RX8 27 [(2, 0, 0, 0, (-10000))] := And.intro ⟨_, dX8_rest_27, by decide⟩ trivial
theorem bX8_rest_7_12 : okB cX8_rest RX8 7 [(5, 0, 0, 0, 0), (23, 12, 8, 0, 0), (3, 1, 0, 0, 0)] := And.intro ⟨_, dX8_rest_7, rfl⟩ (And.intro ⟨dX8_rest_8, fl_X8_12⟩ (And.intro ⟨_, dX8_rest_11, rfl⟩ trivial))
theorem bX8_rest_15_20 : okB cX8_rest RX8 15 [(5, 0, 0, 0, 0), (23, 12, 8, 0, 0), (3, 1, 0, 0, 0)] := And.intro ⟨_, dX8_rest_15, rfl⟩ (And.intro ⟨dX8_rest_16, fl_X8_12⟩ (And.intro ⟨_, dX8_rest_19, rfl⟩ trivial))
theorem bX8_rest_23_24 : okB cX8_rest RX8 23 [(13, 0, 0, 0, 0)] := And.intro dX8_rest_23 trivial
set_option maxHeartbeats 4000000 in
set_option maxRecDepth 100000 in
theorem k_X8_rest (l : Launch) (D : va_G) (ads : AD) (I A : HI) (a1 : Int32) (po : Option AV → HI → HI → Prop)
    (hv : (((zP a1) = 0 → po (some (.inl ((-10000)))) I A) ∧ (¬ (zP a1) = 0 → po (some (.inl ((sm32 (fun a => btw A (nI a) a1) 10) - (sm32 (fun b => btw A a1 (nI b)) 10)))) I A))) : Ct l yX8_rest cX8_rest 2 (some .int) 3 66 D ads shp [.inr (some 0), .inl a1] I A po := by
  refine Ct_of (by decide) (Nat.le_of_ble_eq_true rfl) ?_
  intro p e s m args below meth c hC hr
  replace hC : CX p s m args meth c cX8_rest 2 RX8 (AdS ads s.heap.size) := hC
  show Gm p l e s m args below meth c D ads 3 66 2 po I A 0 [some (.inr (some 0)), some (.inl a1)] []
  refine g_blk hC _ bX8_rest_0_1 (pc' := 1) (ls' := [some (.inr (some 0)), some (.inl a1)]) (st' := [.inl a1]) (I' := I) rfl rfl ?_
  refine g_callS hC (c_X8_isPlace l D ads I A a1) dX8_rest_1 nm_X8_isPlace wl_X8_120 wt_X8_isPlace wn_X8 wc_X8_isPlace ⟨by decide, by decide⟩ (as := [.inl a1]) (rest := []) rfl (Nat.le_of_ble_eq_true rfl) ⟨Nat.le_refl _, Nat.le_refl _⟩ (k_qI ?_)
  obtain ⟨hv1, hv2⟩ := hv
  refine g_ifeq hC dX8_rest_4 (tgt := 27) (by decide) (fun hc => ?_) (fun hc => ?_)
  · have hv := hv1 hc
    clear hv1 hv2 hc
    refine g_blk hC _ bX8_rest_27_30 (pc' := 30) (ls' := [some (.inr (some 0)), some (.inl a1)]) (st' := [.inl ((-10000))]) (I' := I) rfl rfl ?_
    exact g_reti hC hr rfl dX8_rest_30 hv
  · have hv := hv2 hc
    clear hv1 hv2 hc
    refine g_blk hC _ bX8_rest_7_12 (pc' := 12) (ls' := [some (.inr (some 0)), some (.inl a1)]) (st' := [.inl a1, .inr (some 1)]) (I' := I) rfl rfl ?_
    refine g_callV hC (c_X2_comingTo l D ads I A a1) dX8_rest_12 nm_X2_comingTo rfl rfl wl_X8_127 wi_X2_comingTo ws_X2_comingTo wn_X2 wc_X2_comingTo ⟨by decide, by decide⟩ (as := [.inl a1]) (rest := []) rfl (Nat.le_of_ble_eq_true rfl) ⟨Nat.le_refl _, Nat.le_refl _⟩ (k_qI ?_)
    refine g_blk hC _ bX8_rest_15_20 (pc' := 20) (ls' := [some (.inr (some 0)), some (.inl a1)]) (st' := [.inl a1, .inr (some 1), .inl (sm32 (fun a => btw A (nI a) a1) 10)]) (I' := I) rfl rfl ?_
    refine g_callV hC (c_X2_goingFrom l D ads I A a1) dX8_rest_20 nm_X2_goingFrom rfl rfl wl_X8_130 wi_X2_goingFrom ws_X2_goingFrom wn_X2 wc_X2_goingFrom ⟨by decide, by decide⟩ (as := [.inl a1]) (rest := [.inl (sm32 (fun a => btw A (nI a) a1) 10)]) rfl (Nat.le_of_ble_eq_true rfl) ⟨Nat.le_refl _, Nat.le_refl _⟩ (k_qI ?_)
    refine g_blk hC _ bX8_rest_23_24 (pc' := 24) (ls' := [some (.inr (some 0)), some (.inl a1)]) (st' := [.inl ((sm32 (fun a => btw A (nI a) a1) 10) - (sm32 (fun b => btw A a1 (nI b)) 10))]) (I' := I) rfl rfl ?_
    refine g_goto hC dX8_rest_24 (tgt := 30) (by decide) ?_
    exact g_reti hC hr rfl dX8_rest_30 hv
set_option maxHeartbeats 4000000 in
set_option maxRecDepth 100000 in
theorem c_X8_rest (l : Launch) (D : va_G) (ads : AD) (I A : HI) (a1 : Int32) (hp : XOK I A) : Ct l yX8_rest cX8_rest 2 (some .int) 3 66 D ads shp [.inr (some 0), .inl a1] I A (qJ (fun r I' A' => x_rest I A a1 r I' A')) := by
  sorry
theorem bX8_cost_0_1 : okB cX8_cost RX8 0 [(5, 0, 0, 0, 0)] := And.intro ⟨_, dX8_cost_0, rfl⟩ trivial
theorem bX8_cost_17_18 : okB cX8_cost RX8 17 [(0, 0, 0, 0, (-1))] := And.intro ⟨_, dX8_cost_17, by decide⟩ trivial
theorem bX8_cost_7_11 : okB cX8_cost RX8 7 [(5, 0, 0, 0, 0), (23, 46, 8, 4, 0)] := And.intro ⟨_, dX8_cost_7, rfl⟩ (And.intro ⟨dX8_cost_8, fl_X8_46⟩ trivial)
set_option maxHeartbeats 4000000 in
set_option maxRecDepth 100000 in
theorem k_X8_cost (l : Launch) (D : va_G) (ads : AD) (I A : HI) (po : Option AV → HI → HI → Prop)
    (hv : ((XOK I A) ∧ (∀ (r2 : Int32) (I2 A2 : HI), isD I A r2 I2 A2 → ((r2 = 0 → po (some (.inl ((-1)))) I2 A2) ∧ (¬ r2 = 0 → po (some (.inl (I2 29 9))) I2 A2))))) : Ct l yX8_cost cX8_cost 1 (some .int) 6 144 D ads shp [.inr (some 0)] I A po := by
  refine Ct_of (by decide) (Nat.le_of_ble_eq_true rfl) ?_
  intro p e s m args below meth c hC hr
  replace hC : CX p s m args meth c cX8_cost 1 RX8 (AdS ads s.heap.size) := hC
  show Gm p l e s m args below meth c D ads 6 144 1 po I A 0 [some (.inr (some 0))] []
  refine g_blk hC _ bX8_cost_0_1 (pc' := 1) (ls' := [some (.inr (some 0))]) (st' := [.inr (some 0)]) (I' := I) rfl rfl ?_
  obtain ⟨hp1, hv⟩ := hv
  refine g_callV hC (c_X8_isDrawn l D ads I A  hp1) dX8_cost_1 nm_X8_isDrawn rfl rfl wl_X8_133 wi_X8_isDrawn ws_X8_isDrawn wn_X8 wc_X8_isDrawn ⟨by decide, by decide⟩ (as := []) (rest := []) rfl (Nat.le_of_ble_eq_true rfl) ⟨Nat.le_refl _, Nat.le_refl _⟩ (k_qJ ?_)
  intro r2 I2 A2 hq2
  replace hv := hv r2 I2 A2 hq2
  obtain ⟨hv1, hv2⟩ := hv
  refine g_ifeq hC dX8_cost_4 (tgt := 17) (by decide) (fun hc => ?_) (fun hc => ?_)
  · have hv := hv1 hc
    clear hv1 hv2 hc
    refine g_blk hC _ bX8_cost_17_18 (pc' := 18) (ls' := [some (.inr (some 0))]) (st' := [.inl ((-1))]) (I' := I2) rfl rfl ?_
    exact g_reti hC hr rfl dX8_cost_18 hv
  · have hv := hv2 hc
    clear hv1 hv2 hc
    refine g_blk hC _ bX8_cost_7_11 (pc' := 11) (ls' := [some (.inr (some 0))]) (st' := [.inr (some 29)]) (I' := I2) rfl rfl ?_
    refine g_callV hC (c_X6_leastCost l D ads I2 A2 ) dX8_cost_11 nm_X6_leastCost rfl rfl wl_X8_136 wi_X6_leastCost ws_X6_leastCost wn_X6 wc_X6_leastCost ⟨by decide, by decide⟩ (as := []) (rest := []) rfl (Nat.le_of_ble_eq_true rfl) ⟨Nat.le_refl _, Nat.le_refl _⟩ (k_qI ?_)
    refine g_goto hC dX8_cost_14 (tgt := 18) (by decide) ?_
    exact g_reti hC hr rfl dX8_cost_18 hv
set_option maxHeartbeats 4000000 in
set_option maxRecDepth 100000 in
theorem c_X8_cost (l : Launch) (D : va_G) (ads : AD) (I A : HI) (hp : XOK I A) : Ct l yX8_cost cX8_cost 1 (some .int) 6 144 D ads shp [.inr (some 0)] I A (qJ (fun r I' A' => x_cost I A r I' A')) := by
  sorry
theorem bX8_part_0_1 : okB cX8_part RX8 0 [(5, 0, 0, 0, 0)] := And.intro ⟨_, dX8_part_0, rfl⟩ trivial
theorem bX8_part_9_10 : okB cX8_part RX8 9 [(3, 1, 0, 0, 0)] := And.intro ⟨_, dX8_part_9, rfl⟩ trivial
theorem bX8_part_36_40 : okB cX8_part RX8 36 [(5, 0, 0, 0, 0), (23, 46, 8, 4, 0)] := And.intro ⟨_, dX8_part_36, rfl⟩ (And.intro ⟨dX8_part_37, fl_X8_46⟩ trivial)
theorem bX8_part_44_48 : okB cX8_part RX8 44 [(5, 0, 0, 0, 0), (23, 46, 8, 4, 0)] := And.intro ⟨_, dX8_part_44, rfl⟩ (And.intro ⟨dX8_part_45, fl_X8_46⟩ trivial)
theorem bX8_part_52_56 : okB cX8_part RX8 52 [(5, 0, 0, 0, 0), (23, 46, 8, 4, 0)] := And.intro ⟨_, dX8_part_52, rfl⟩ (And.intro ⟨dX8_part_53, fl_X8_46⟩ trivial)
theorem bX8_part_60_61 : okB cX8_part RX8 60 [(0, 0, 0, 0, (-1))] := And.intro ⟨_, dX8_part_60, by decide⟩ trivial
theorem bX8_part_7_8 : okB cX8_part RX8 7 [(0, 0, 0, 0, (-1))] := And.intro ⟨_, dX8_part_7, by decide⟩ trivial
set_option maxHeartbeats 4000000 in
set_option maxRecDepth 100000 in
theorem k_X8_part (l : Launch) (D : va_G) (ads : AD) (I A : HI) (a1 : Int32) (po : Option AV → HI → HI → Prop)
    (hv : ((XOK I A) ∧ (∀ (r2 : Int32) (I2 A2 : HI), isD I A r2 I2 A2 → ((¬ r2 = 0 → ((a1 = 0 → po (some (.inl (I2 29 11))) I2 A2) ∧ (a1 = 1 → po (some (.inl (I2 29 12))) I2 A2) ∧ (a1 = 2 → po (some (.inl (I2 29 13))) I2 A2) ∧ (a1.toInt < 0 ∨ 2 < a1.toInt → po (some (.inl ((-1)))) I2 A2))) ∧ (r2 = 0 → po (some (.inl ((-1)))) I2 A2))))) : Ct l yX8_part cX8_part 2 (some .int) 6 144 D ads shp [.inr (some 0), .inl a1] I A po := by
  refine Ct_of (by decide) (Nat.le_of_ble_eq_true rfl) ?_
  intro p e s m args below meth c hC hr
  replace hC : CX p s m args meth c cX8_part 2 RX8 (AdS ads s.heap.size) := hC
  show Gm p l e s m args below meth c D ads 6 144 2 po I A 0 [some (.inr (some 0)), some (.inl a1)] []
  refine g_blk hC _ bX8_part_0_1 (pc' := 1) (ls' := [some (.inr (some 0)), some (.inl a1)]) (st' := [.inr (some 0)]) (I' := I) rfl rfl ?_
  obtain ⟨hp1, hv⟩ := hv
  refine g_callV hC (c_X8_isDrawn l D ads I A  hp1) dX8_part_1 nm_X8_isDrawn rfl rfl wl_X8_133 wi_X8_isDrawn ws_X8_isDrawn wn_X8 wc_X8_isDrawn ⟨by decide, by decide⟩ (as := []) (rest := []) rfl (Nat.le_of_ble_eq_true rfl) ⟨Nat.le_refl _, Nat.le_refl _⟩ (k_qJ ?_)
  intro r2 I2 A2 hq2
  replace hv := hv r2 I2 A2 hq2
  obtain ⟨hv1, hv2⟩ := hv
  refine g_ifne hC dX8_part_4 (tgt := 9) (by decide) (fun hc => ?_) (fun hc => ?_)
  · have hv := hv1 hc
    clear hv1 hv2 hc
    refine g_blk hC _ bX8_part_9_10 (pc' := 10) (ls' := [some (.inr (some 0)), some (.inl a1)]) (st' := [.inl a1]) (I' := I2) rfl rfl ?_
    obtain ⟨hv_0, hv_1, hv_2, hvd⟩ := hv
    by_cases hc0 : a1 = 0
    · refine g_tabI hC dX8_part_10 (tgt := 36) (by rw [hc0]; decide) (by rw [hc0]; decide) (by rw [hc0]; rfl) (by decide) ?_
      have hv := hv_0 hc0
      refine g_blk hC _ bX8_part_36_40 (pc' := 40) (ls' := [some (.inr (some 0)), some (.inl a1)]) (st' := [.inr (some 29)]) (I' := I2) rfl rfl ?_
      refine g_callV hC (c_X6_crossCost l D ads I2 A2 ) dX8_part_40 nm_X6_crossCost rfl rfl wl_X8_139 wi_X6_crossCost ws_X6_crossCost wn_X6 wc_X6_crossCost ⟨by decide, by decide⟩ (as := []) (rest := []) rfl (Nat.le_of_ble_eq_true rfl) ⟨Nat.le_refl _, Nat.le_refl _⟩ (k_qI ?_)
      exact g_reti hC hr rfl dX8_part_43 hv
    by_cases hc1 : a1 = 1
    · refine g_tabI hC dX8_part_10 (tgt := 44) (by rw [hc1]; decide) (by rw [hc1]; decide) (by rw [hc1]; rfl) (by decide) ?_
      have hv := hv_1 hc1
      refine g_blk hC _ bX8_part_44_48 (pc' := 48) (ls' := [some (.inr (some 0)), some (.inl a1)]) (st' := [.inr (some 29)]) (I' := I2) rfl rfl ?_
      refine g_callV hC (c_X6_crossPairs l D ads I2 A2 ) dX8_part_48 nm_X6_crossPairs rfl rfl wl_X8_142 wi_X6_crossPairs ws_X6_crossPairs wn_X6 wc_X6_crossPairs ⟨by decide, by decide⟩ (as := []) (rest := []) rfl (Nat.le_of_ble_eq_true rfl) ⟨Nat.le_refl _, Nat.le_refl _⟩ (k_qI ?_)
      exact g_reti hC hr rfl dX8_part_51 hv
    by_cases hc2 : a1 = 2
    · refine g_tabI hC dX8_part_10 (tgt := 52) (by rw [hc2]; decide) (by rw [hc2]; decide) (by rw [hc2]; rfl) (by decide) ?_
      have hv := hv_2 hc2
      refine g_blk hC _ bX8_part_52_56 (pc' := 56) (ls' := [some (.inr (some 0)), some (.inl a1)]) (st' := [.inr (some 29)]) (I' := I2) rfl rfl ?_
      refine g_callV hC (c_X6_movedPairs l D ads I2 A2 ) dX8_part_56 nm_X6_movedPairs rfl rfl wl_X8_145 wi_X6_movedPairs ws_X6_movedPairs wn_X6 wc_X6_movedPairs ⟨by decide, by decide⟩ (as := []) (rest := []) rfl (Nat.le_of_ble_eq_true rfl) ⟨Nat.le_refl _, Nat.le_refl _⟩ (k_qI ?_)
      exact g_reti hC hr rfl dX8_part_59 hv
    have hn0 := lv_neT hc0 (k := 0) (a := 0) (by decide)
    have hn1 := lv_neT hc1 (k := 1) (a := 1) (by decide)
    have hn2 := lv_neT hc2 (k := 2) (a := 2) (by decide)
    have hcd : a1.toInt < 0 ∨ 2 < a1.toInt := by omega
    refine g_tabO hC dX8_part_10 (tgt := 60) hcd (by decide) ?_
    have hv := hvd hcd
    refine g_blk hC _ bX8_part_60_61 (pc' := 61) (ls' := [some (.inr (some 0)), some (.inl a1)]) (st' := [.inl ((-1))]) (I' := I2) rfl rfl ?_
    exact g_reti hC hr rfl dX8_part_61 hv
  · have hv := hv2 hc
    clear hv1 hv2 hc
    refine g_blk hC _ bX8_part_7_8 (pc' := 8) (ls' := [some (.inr (some 0)), some (.inl a1)]) (st' := [.inl ((-1))]) (I' := I2) rfl rfl ?_
    exact g_reti hC hr rfl dX8_part_8 hv
set_option maxHeartbeats 4000000 in
set_option maxRecDepth 100000 in
theorem c_X8_part (l : Launch) (D : va_G) (ads : AD) (I A : HI) (a1 : Int32) (hp : XOK I A) : Ct l yX8_part cX8_part 2 (some .int) 6 144 D ads shp [.inr (some 0), .inl a1] I A (qJ (fun r I' A' => x_part I A a1 r I' A')) := by
  sorry
theorem bX8_items_0_2 : okB cX8_items RX8 0 [(5, 0, 0, 0, 0), (3, 1, 0, 0, 0)] := And.intro ⟨_, dX8_items_0, rfl⟩ (And.intro ⟨_, dX8_items_1, rfl⟩ trivial)
theorem bX8_items_19_20 : okB cX8_items RX8 19 [(0, 0, 0, 0, (-1))] := And.intro ⟨_, dX8_items_19, by decide⟩ trivial
theorem bX8_items_8_13 : okB cX8_items RX8 8 [(5, 0, 0, 0, 0), (23, 30, 8, 2, 0), (3, 1, 0, 0, 0)] := And.intro ⟨_, dX8_items_8, rfl⟩ (And.intro ⟨dX8_items_9, fl_X8_30⟩ (And.intro ⟨_, dX8_items_12, rfl⟩ trivial))
set_option maxHeartbeats 4000000 in
set_option maxRecDepth 100000 in
theorem k_X8_items (l : Launch) (D : va_G) (ads : AD) (I A : HI) (a1 : Int32) (po : Option AV → HI → HI → Prop)
    (hv : ((XOK I A) ∧ (∀ (r2 : Int32) (I2 A2 : HI), isL I A a1 r2 I2 A2 → ((r2 = 0 → po (some (.inl ((-1)))) I2 A2) ∧ (¬ r2 = 0 → ((vp_in a1 11) ∧ po (some (.inl (A2 25 a1.toNatClampNeg))) I2 A2)))))) : Ct l yX8_items cX8_items 2 (some .int) 6 131 D ads shp [.inr (some 0), .inl a1] I A po := by
  refine Ct_of (by decide) (Nat.le_of_ble_eq_true rfl) ?_
  intro p e s m args below meth c hC hr
  replace hC : CX p s m args meth c cX8_items 2 RX8 (AdS ads s.heap.size) := hC
  show Gm p l e s m args below meth c D ads 6 131 2 po I A 0 [some (.inr (some 0)), some (.inl a1)] []
  refine g_blk hC _ bX8_items_0_2 (pc' := 2) (ls' := [some (.inr (some 0)), some (.inl a1)]) (st' := [.inl a1, .inr (some 0)]) (I' := I) rfl rfl ?_
  obtain ⟨hp1, hv⟩ := hv
  refine g_callV hC (c_X8_isLayer l D ads I A a1 hp1) dX8_items_2 nm_X8_isLayer rfl rfl wl_X8_148 wi_X8_isLayer ws_X8_isLayer wn_X8 wc_X8_isLayer ⟨by decide, by decide⟩ (as := [.inl a1]) (rest := []) rfl (Nat.le_of_ble_eq_true rfl) ⟨Nat.le_refl _, Nat.le_refl _⟩ (k_qJ ?_)
  intro r2 I2 A2 hq2
  replace hv := hv r2 I2 A2 hq2
  obtain ⟨hv1, hv2⟩ := hv
  refine g_ifeq hC dX8_items_5 (tgt := 19) (by decide) (fun hc => ?_) (fun hc => ?_)
  · have hv := hv1 hc
    clear hv1 hv2 hc
    refine g_blk hC _ bX8_items_19_20 (pc' := 20) (ls' := [some (.inr (some 0)), some (.inl a1)]) (st' := [.inl ((-1))]) (I' := I2) rfl rfl ?_
    exact g_reti hC hr rfl dX8_items_20 hv
  · have hv := hv2 hc
    clear hv1 hv2 hc
    refine g_blk hC _ bX8_items_8_13 (pc' := 13) (ls' := [some (.inr (some 0)), some (.inl a1)]) (st' := [.inl a1, .inr (some 13)]) (I' := I2) rfl rfl ?_
    obtain ⟨hp3, hv⟩ := hv
    refine g_callV hC (c_X7_countIn l D ads I2 A2 a1 hp3) dX8_items_13 nm_X7_countIn rfl rfl wl_X8_151 wi_X7_countIn ws_X7_countIn wn_X7 wc_X7_countIn ⟨by decide, by decide⟩ (as := [.inl a1]) (rest := []) rfl (Nat.le_of_ble_eq_true rfl) ⟨Nat.le_refl _, Nat.le_refl _⟩ (k_qI ?_)
    refine g_goto hC dX8_items_16 (tgt := 20) (by decide) ?_
    exact g_reti hC hr rfl dX8_items_20 hv
set_option maxHeartbeats 4000000 in
set_option maxRecDepth 100000 in
theorem c_X8_items (l : Launch) (D : va_G) (ads : AD) (I A : HI) (a1 : Int32) (hp : XOK I A) : Ct l yX8_items cX8_items 2 (some .int) 6 131 D ads shp [.inr (some 0), .inl a1] I A (qJ (fun r I' A' => x_items I A a1 r I' A')) := by
  sorry
theorem bX8_item_0_2 : okB cX8_item RX8 0 [(5, 0, 0, 0, 0), (3, 1, 0, 0, 0)] := And.intro ⟨_, dX8_item_0, rfl⟩ (And.intro ⟨_, dX8_item_1, rfl⟩ trivial)
theorem bX8_item_15_16 : okB cX8_item RX8 15 [(0, 0, 0, 0, (-1))] := And.intro ⟨_, dX8_item_15, by decide⟩ trivial
theorem bX8_item_8_9 : okB cX8_item RX8 8 [(5, 0, 0, 0, 0)] := And.intro ⟨_, dX8_item_8, rfl⟩ trivial
theorem bX8_item_17_23 : okB cX8_item RX8 17 [(5, 0, 0, 0, 0), (23, 46, 8, 4, 0), (3, 1, 0, 0, 0), (3, 2, 0, 0, 0)] := And.intro ⟨_, dX8_item_17, rfl⟩ (And.intro ⟨dX8_item_18, fl_X8_46⟩ (And.intro ⟨_, dX8_item_21, rfl⟩ (And.intro ⟨_, dX8_item_22, rfl⟩ trivial)))
set_option maxHeartbeats 4000000 in
set_option maxRecDepth 100000 in
theorem k_X8_item (l : Launch) (D : va_G) (ads : AD) (I A : HI) (a1 : Int32) (a2 : Int32) (po : Option AV → HI → HI → Prop)
    (hv : ((XOK I A) ∧ (∀ (r2 : Int32) (I2 A2 : HI), isL I A a1 r2 I2 A2 → ((r2 = 0 → po (some (.inl ((-1)))) I2 A2) ∧ (¬ r2 = 0 → ((XOK I2 A2) ∧ (∀ (r4 : Int32) (I4 A4 : HI), isD I2 A2 r4 I4 A4 → ((¬ r4 = 0 → ((shO0 I4 A4 a1 a2) ∧ po (some (.inl (shO I4 A4 a1 a2))) I4 A4)) ∧ (r4 = 0 → po (some (.inl ((-1)))) I4 A4))))))))) : Ct l yX8_item cX8_item 3 (some .int) 6 144 D ads shp [.inr (some 0), .inl a1, .inl a2] I A po := by
  refine Ct_of (by decide) (Nat.le_of_ble_eq_true rfl) ?_
  intro p e s m args below meth c hC hr
  replace hC : CX p s m args meth c cX8_item 3 RX8 (AdS ads s.heap.size) := hC
  show Gm p l e s m args below meth c D ads 6 144 3 po I A 0 [some (.inr (some 0)), some (.inl a1), some (.inl a2)] []
  refine g_blk hC _ bX8_item_0_2 (pc' := 2) (ls' := [some (.inr (some 0)), some (.inl a1), some (.inl a2)]) (st' := [.inl a1, .inr (some 0)]) (I' := I) rfl rfl ?_
  obtain ⟨hp1, hv⟩ := hv
  refine g_callV hC (c_X8_isLayer l D ads I A a1 hp1) dX8_item_2 nm_X8_isLayer rfl rfl wl_X8_148 wi_X8_isLayer ws_X8_isLayer wn_X8 wc_X8_isLayer ⟨by decide, by decide⟩ (as := [.inl a1]) (rest := []) rfl (Nat.le_of_ble_eq_true rfl) ⟨Nat.le_refl _, Nat.le_refl _⟩ (k_qJ ?_)
  intro r2 I2 A2 hq2
  replace hv := hv r2 I2 A2 hq2
  obtain ⟨hv1, hv2⟩ := hv
  refine g_ifeq hC dX8_item_5 (tgt := 15) (by decide) (fun hc => ?_) (fun hc => ?_)
  · have hv := hv1 hc
    clear hv1 hv2 hc
    refine g_blk hC _ bX8_item_15_16 (pc' := 16) (ls' := [some (.inr (some 0)), some (.inl a1), some (.inl a2)]) (st' := [.inl ((-1))]) (I' := I2) rfl rfl ?_
    exact g_reti hC hr rfl dX8_item_16 hv
  · have hv := hv2 hc
    clear hv1 hv2 hc
    refine g_blk hC _ bX8_item_8_9 (pc' := 9) (ls' := [some (.inr (some 0)), some (.inl a1), some (.inl a2)]) (st' := [.inr (some 0)]) (I' := I2) rfl rfl ?_
    obtain ⟨hp3, hv⟩ := hv
    refine g_callV hC (c_X8_isDrawn l D ads I2 A2  hp3) dX8_item_9 nm_X8_isDrawn rfl rfl wl_X8_133 wi_X8_isDrawn ws_X8_isDrawn wn_X8 wc_X8_isDrawn ⟨by decide, by decide⟩ (as := []) (rest := []) rfl (Nat.le_of_ble_eq_true rfl) ⟨Nat.le_refl _, Nat.le_refl _⟩ (k_qJ ?_)
    intro r4 I4 A4 hq4
    replace hv := hv r4 I4 A4 hq4
    obtain ⟨hv1, hv2⟩ := hv
    refine g_ifne hC dX8_item_12 (tgt := 17) (by decide) (fun hc => ?_) (fun hc => ?_)
    · have hv := hv1 hc
      clear hv1 hv2 hc
      refine g_blk hC _ bX8_item_17_23 (pc' := 23) (ls' := [some (.inr (some 0)), some (.inl a1), some (.inl a2)]) (st' := [.inl a2, .inl a1, .inr (some 29)]) (I' := I4) rfl rfl ?_
      obtain ⟨hp5, hv⟩ := hv
      refine g_callV hC (c_X6_shownAt l D ads I4 A4 a1 a2 hp5) dX8_item_23 nm_X6_shownAt rfl rfl wl_X8_154 wi_X6_shownAt ws_X6_shownAt wn_X6 wc_X6_shownAt ⟨by decide, by decide⟩ (as := [.inl a1, .inl a2]) (rest := []) rfl (Nat.le_of_ble_eq_true rfl) ⟨Nat.le_refl _, Nat.le_refl _⟩ (k_qI ?_)
      exact g_reti hC hr rfl dX8_item_26 hv
    · have hv := hv2 hc
      clear hv1 hv2 hc
      refine g_blk hC _ bX8_item_15_16 (pc' := 16) (ls' := [some (.inr (some 0)), some (.inl a1), some (.inl a2)]) (st' := [.inl ((-1))]) (I' := I4) rfl rfl ?_
      exact g_reti hC hr rfl dX8_item_16 hv
set_option maxHeartbeats 4000000 in
set_option maxRecDepth 100000 in
theorem c_X8_item (l : Launch) (D : va_G) (ads : AD) (I A : HI) (a1 : Int32) (a2 : Int32) (hp : XOK I A) : Ct l yX8_item cX8_item 3 (some .int) 6 144 D ads shp [.inr (some 0), .inl a1, .inl a2] I A (qJ (fun r I' A' => x_item I A a1 a2 r I' A')) := by
  sorry
theorem bX8_place_0_1 : okB cX8_place RX8 0 [(3, 1, 0, 0, 0)] := And.intro ⟨_, dX8_place_0, rfl⟩ trivial
theorem bX8_place_23_24 : okB cX8_place RX8 23 [(0, 0, 0, 0, (-1))] := And.intro ⟨_, dX8_place_23, by decide⟩ trivial
theorem bX8_place_7_8 : okB cX8_place RX8 7 [(3, 2, 0, 0, 0)] := And.intro ⟨_, dX8_place_7, rfl⟩ trivial
theorem bX8_place_11_13 : okB cX8_place RX8 11 [(3, 2, 0, 0, 0), (0, 0, 0, 0, 1)] := And.intro ⟨_, dX8_place_11, rfl⟩ (And.intro ⟨_, dX8_place_12, by decide⟩ trivial)
theorem bX8_place_16_17 : okB cX8_place RX8 16 [(5, 0, 0, 0, 0)] := And.intro ⟨_, dX8_place_16, rfl⟩ trivial
theorem bX8_place_25_30 : okB cX8_place RX8 25 [(5, 0, 0, 0, 0), (23, 21, 8, 1, 0), (3, 1, 0, 0, 0)] := And.intro ⟨_, dX8_place_25, rfl⟩ (And.intro ⟨dX8_place_26, fl_X8_21⟩ (And.intro ⟨_, dX8_place_29, rfl⟩ trivial))
theorem bX8_place_33_36 : okB cX8_place RX8 33 [(7, 3, 0, 0, 0), (3, 3, 0, 0, 0), (0, 0, 0, 0, (-1))] := And.intro ⟨_, dX8_place_33, rfl⟩ (And.intro ⟨_, dX8_place_34, rfl⟩ (And.intro ⟨_, dX8_place_35, by decide⟩ trivial))
theorem bX8_place_41_51 : okB cX8_place RX8 41 [(5, 0, 0, 0, 0), (23, 55, 8, 5, 0), (3, 3, 0, 0, 0), (3, 1, 0, 0, 0), (5, 0, 0, 0, 0), (23, 59, 8, 6, 0)] := And.intro ⟨_, dX8_place_41, rfl⟩ (And.intro ⟨dX8_place_42, fl_X8_55⟩ (And.intro ⟨_, dX8_place_45, rfl⟩ (And.intro ⟨_, dX8_place_46, rfl⟩ (And.intro ⟨_, dX8_place_47, rfl⟩ (And.intro ⟨dX8_place_48, fl_X8_59⟩ trivial)))))
theorem bX8_place_54_57 : okB cX8_place RX8 54 [(8, 4, 0, 0, 0), (3, 2, 0, 0, 0)] := And.intro dX8_place_54 (And.intro ⟨_, dX8_place_56, rfl⟩ trivial)
theorem bX8_place_65_72 : okB cX8_place RX8 65 [(4, 4, 0, 0, 0), (5, 0, 0, 0, 0), (23, 55, 8, 5, 0), (3, 1, 0, 0, 0)] := And.intro dX8_place_65 (And.intro ⟨_, dX8_place_67, rfl⟩ (And.intro ⟨dX8_place_68, fl_X8_55⟩ (And.intro ⟨_, dX8_place_71, rfl⟩ trivial)))
theorem bX8_place_75_76 : okB cX8_place RX8 75 [(12, 0, 0, 0, 0)] := And.intro dX8_place_75 trivial
theorem bX8_place_60_62 : okB cX8_place RX8 60 [(4, 4, 0, 0, 0)] := And.intro dX8_place_60 trivial
theorem bX8_place_39_40 : okB cX8_place RX8 39 [(0, 0, 0, 0, (-1))] := And.intro ⟨_, dX8_place_39, by decide⟩ trivial
set_option maxHeartbeats 4000000 in
set_option maxRecDepth 100000 in
theorem k_X8_place (l : Launch) (D : va_G) (ads : AD) (I A : HI) (a1 : Int32) (a2 : Int32) (po : Option AV → HI → HI → Prop)
    (hv : (((zP a1) = 0 → po (some (.inl ((-1)))) I A) ∧ (¬ (zP a1) = 0 → ((a2 < 0 → po (some (.inl ((-1)))) I A) ∧ (¬ a2 < 0 → ((1 < a2 → po (some (.inl ((-1)))) I A) ∧ (¬ 1 < a2 → ((XOK I A) ∧ (∀ (r3 : Int32) (I3 A3 : HI), isD I A r3 I3 A3 → ((¬ r3 = 0 → ((vp_in a1 10) ∧ ((¬ (A3 11 a1.toNatClampNeg) = ((-1)) → ((tpO0 I3 A3 (A3 11 a1.toNatClampNeg)) ∧ ((¬ a2 = 0 → ((szO0 a1) ∧ po (some (.inl ((tpO I3 A3 (A3 11 a1.toNatClampNeg) a1 (I3 0 6)) + (szO A3 a1)))) I3 A3)) ∧ (a2 = 0 → po (some (.inl (tpO I3 A3 (A3 11 a1.toNatClampNeg) a1 (I3 0 6)))) I3 A3)))) ∧ ((A3 11 a1.toNatClampNeg) = ((-1)) → po (some (.inl ((-1)))) I3 A3)))) ∧ (r3 = 0 → po (some (.inl ((-1)))) I3 A3))))))))))) : Ct l yX8_place cX8_place 5 (some .int) 6 144 D ads shp [.inr (some 0), .inl a1, .inl a2] I A po := by
  refine Ct_of (by decide) (Nat.le_of_ble_eq_true rfl) ?_
  intro p e s m args below meth c hC hr
  replace hC : CX p s m args meth c cX8_place 5 RX8 (AdS ads s.heap.size) := hC
  show Gm p l e s m args below meth c D ads 6 144 5 po I A 0 [some (.inr (some 0)), some (.inl a1), some (.inl a2), none, none] []
  refine g_blk hC _ bX8_place_0_1 (pc' := 1) (ls' := [some (.inr (some 0)), some (.inl a1), some (.inl a2), none, none]) (st' := [.inl a1]) (I' := I) rfl rfl ?_
  refine g_callS hC (c_X8_isPlace l D ads I A a1) dX8_place_1 nm_X8_isPlace wl_X8_120 wt_X8_isPlace wn_X8 wc_X8_isPlace ⟨by decide, by decide⟩ (as := [.inl a1]) (rest := []) rfl (Nat.le_of_ble_eq_true rfl) ⟨Nat.le_refl _, Nat.le_refl _⟩ (k_qI ?_)
  obtain ⟨hv1, hv2⟩ := hv
  refine g_ifeq hC dX8_place_4 (tgt := 23) (by decide) (fun hc => ?_) (fun hc => ?_)
  · have hv := hv1 hc
    clear hv1 hv2 hc
    refine g_blk hC _ bX8_place_23_24 (pc' := 24) (ls' := [some (.inr (some 0)), some (.inl a1), some (.inl a2), none, none]) (st' := [.inl ((-1))]) (I' := I) rfl rfl ?_
    exact g_reti hC hr rfl dX8_place_24 hv
  · have hv := hv2 hc
    clear hv1 hv2 hc
    refine g_blk hC _ bX8_place_7_8 (pc' := 8) (ls' := [some (.inr (some 0)), some (.inl a1), some (.inl a2), none, none]) (st' := [.inl a2]) (I' := I) rfl rfl ?_
    obtain ⟨hv1, hv2⟩ := hv
    refine g_iflt hC dX8_place_8 (tgt := 23) (by decide) (fun hc => ?_) (fun hc => ?_)
    · have hv := hv1 hc
      clear hv1 hv2 hc
      refine g_blk hC _ bX8_place_23_24 (pc' := 24) (ls' := [some (.inr (some 0)), some (.inl a1), some (.inl a2), none, none]) (st' := [.inl ((-1))]) (I' := I) rfl rfl ?_
      exact g_reti hC hr rfl dX8_place_24 hv
    · have hv := hv2 hc
      clear hv1 hv2 hc
      refine g_blk hC _ bX8_place_11_13 (pc' := 13) (ls' := [some (.inr (some 0)), some (.inl a1), some (.inl a2), none, none]) (st' := [.inl 1, .inl a2]) (I' := I) rfl rfl ?_
      obtain ⟨hv1, hv2⟩ := hv
      refine g_cgt hC dX8_place_13 (tgt := 23) (by decide) (fun hc => ?_) (fun hc => ?_)
      · have hv := hv1 hc
        clear hv1 hv2 hc
        refine g_blk hC _ bX8_place_23_24 (pc' := 24) (ls' := [some (.inr (some 0)), some (.inl a1), some (.inl a2), none, none]) (st' := [.inl ((-1))]) (I' := I) rfl rfl ?_
        exact g_reti hC hr rfl dX8_place_24 hv
      · have hv := hv2 hc
        clear hv1 hv2 hc
        refine g_blk hC _ bX8_place_16_17 (pc' := 17) (ls' := [some (.inr (some 0)), some (.inl a1), some (.inl a2), none, none]) (st' := [.inr (some 0)]) (I' := I) rfl rfl ?_
        obtain ⟨hp2, hv⟩ := hv
        refine g_callV hC (c_X8_isDrawn l D ads I A  hp2) dX8_place_17 nm_X8_isDrawn rfl rfl wl_X8_133 wi_X8_isDrawn ws_X8_isDrawn wn_X8 wc_X8_isDrawn ⟨by decide, by decide⟩ (as := []) (rest := []) rfl (Nat.le_of_ble_eq_true rfl) ⟨Nat.le_refl _, Nat.le_refl _⟩ (k_qJ ?_)
        intro r3 I3 A3 hq3
        replace hv := hv r3 I3 A3 hq3
        obtain ⟨hv1, hv2⟩ := hv
        refine g_ifne hC dX8_place_20 (tgt := 25) (by decide) (fun hc => ?_) (fun hc => ?_)
        · have hv := hv1 hc
          clear hv1 hv2 hc
          refine g_blk hC _ bX8_place_25_30 (pc' := 30) (ls' := [some (.inr (some 0)), some (.inl a1), some (.inl a2), none, none]) (st' := [.inl a1, .inr (some 3)]) (I' := I3) rfl rfl ?_
          obtain ⟨hp4, hv⟩ := hv
          refine g_callV hC (c_X5_layerOf l D ads I3 A3 a1 hp4) dX8_place_30 nm_X5_layerOf rfl rfl wl_X8_124 wi_X5_layerOf ws_X5_layerOf wn_X5 wc_X5_layerOf ⟨by decide, by decide⟩ (as := [.inl a1]) (rest := []) rfl (Nat.le_of_ble_eq_true rfl) ⟨Nat.le_refl _, Nat.le_refl _⟩ (k_qI ?_)
          refine g_blk hC _ bX8_place_33_36 (pc' := 36) (ls' := [some (.inr (some 0)), some (.inl a1), some (.inl a2), some (.inl (A3 11 a1.toNatClampNeg)), none]) (st' := [.inl ((-1)), .inl (A3 11 a1.toNatClampNeg)]) (I' := I3) rfl rfl ?_
          obtain ⟨hv1, hv2⟩ := hv
          refine g_cne hC dX8_place_36 (tgt := 41) (by decide) (fun hc => ?_) (fun hc => ?_)
          · have hv := hv1 hc
            clear hv1 hv2 hc
            refine g_blk hC _ bX8_place_41_51 (pc' := 51) (ls' := [some (.inr (some 0)), some (.inl a1), some (.inl a2), some (.inl (A3 11 a1.toNatClampNeg)), none]) (st' := [.inl (I3 0 6), .inl a1, .inl (A3 11 a1.toNatClampNeg), .inr (some 95)]) (I' := I3) rfl rfl ?_
            obtain ⟨hp5, hv⟩ := hv
            refine g_callV hC (c_X1_topOf l D ads I3 A3 (A3 11 a1.toNatClampNeg) a1 (I3 0 6) hp5) dX8_place_51 nm_X1_topOf rfl rfl wl_X8_157 wi_X1_topOf ws_X1_topOf wn_X1 wc_X1_topOf ⟨by decide, by decide⟩ (as := [.inl (A3 11 a1.toNatClampNeg), .inl a1, .inl (I3 0 6)]) (rest := []) rfl (Nat.le_of_ble_eq_true rfl) ⟨Nat.le_refl _, Nat.le_refl _⟩ (k_qI ?_)
            refine g_blk hC _ bX8_place_54_57 (pc' := 57) (ls' := [some (.inr (some 0)), some (.inl a1), some (.inl a2), some (.inl (A3 11 a1.toNatClampNeg)), some (.inl (tpO I3 A3 (A3 11 a1.toNatClampNeg) a1 (I3 0 6)))]) (st' := [.inl a2]) (I' := I3) rfl rfl ?_
            obtain ⟨hv1, hv2⟩ := hv
            refine g_ifne hC dX8_place_57 (tgt := 65) (by decide) (fun hc => ?_) (fun hc => ?_)
            · have hv := hv1 hc
              clear hv1 hv2 hc
              refine g_blk hC _ bX8_place_65_72 (pc' := 72) (ls' := [some (.inr (some 0)), some (.inl a1), some (.inl a2), some (.inl (A3 11 a1.toNatClampNeg)), some (.inl (tpO I3 A3 (A3 11 a1.toNatClampNeg) a1 (I3 0 6)))]) (st' := [.inl a1, .inr (some 95), .inl (tpO I3 A3 (A3 11 a1.toNatClampNeg) a1 (I3 0 6))]) (I' := I3) rfl rfl ?_
              obtain ⟨hp6, hv⟩ := hv
              refine g_callV hC (c_X1_sizeOf l D ads I3 A3 a1 hp6) dX8_place_72 nm_X1_sizeOf rfl rfl wl_X8_161 wi_X1_sizeOf ws_X1_sizeOf wn_X1 wc_X1_sizeOf ⟨by decide, by decide⟩ (as := [.inl a1]) (rest := [.inl (tpO I3 A3 (A3 11 a1.toNatClampNeg) a1 (I3 0 6))]) rfl (Nat.le_of_ble_eq_true rfl) ⟨Nat.le_refl _, Nat.le_refl _⟩ (k_qI ?_)
              refine g_blk hC _ bX8_place_75_76 (pc' := 76) (ls' := [some (.inr (some 0)), some (.inl a1), some (.inl a2), some (.inl (A3 11 a1.toNatClampNeg)), some (.inl (tpO I3 A3 (A3 11 a1.toNatClampNeg) a1 (I3 0 6)))]) (st' := [.inl ((tpO I3 A3 (A3 11 a1.toNatClampNeg) a1 (I3 0 6)) + (szO A3 a1))]) (I' := I3) rfl rfl ?_
              exact g_reti hC hr rfl dX8_place_76 hv
            · have hv := hv2 hc
              clear hv1 hv2 hc
              refine g_blk hC _ bX8_place_60_62 (pc' := 62) (ls' := [some (.inr (some 0)), some (.inl a1), some (.inl a2), some (.inl (A3 11 a1.toNatClampNeg)), some (.inl (tpO I3 A3 (A3 11 a1.toNatClampNeg) a1 (I3 0 6)))]) (st' := [.inl (tpO I3 A3 (A3 11 a1.toNatClampNeg) a1 (I3 0 6))]) (I' := I3) rfl rfl ?_
              refine g_goto hC dX8_place_62 (tgt := 76) (by decide) ?_
              exact g_reti hC hr rfl dX8_place_76 hv
          · have hv := hv2 hc
            clear hv1 hv2 hc
            refine g_blk hC _ bX8_place_39_40 (pc' := 40) (ls' := [some (.inr (some 0)), some (.inl a1), some (.inl a2), some (.inl (A3 11 a1.toNatClampNeg)), none]) (st' := [.inl ((-1))]) (I' := I3) rfl rfl ?_
            exact g_reti hC hr rfl dX8_place_40 hv
        · have hv := hv2 hc
          clear hv1 hv2 hc
          refine g_blk hC _ bX8_place_23_24 (pc' := 24) (ls' := [some (.inr (some 0)), some (.inl a1), some (.inl a2), none, none]) (st' := [.inl ((-1))]) (I' := I3) rfl rfl ?_
          exact g_reti hC hr rfl dX8_place_24 hv
set_option maxHeartbeats 4000000 in
set_option maxRecDepth 100000 in
theorem c_X8_place (l : Launch) (D : va_G) (ads : AD) (I A : HI) (a1 : Int32) (a2 : Int32) (hp : XOK I A) : Ct l yX8_place cX8_place 5 (some .int) 6 144 D ads shp [.inr (some 0), .inl a1, .inl a2] I A (qJ (fun r I' A' => x_place I A a1 a2 r I' A')) := by
  sorry
theorem bX8_point_0_6 : okB cX8_point RX8 0 [(5, 0, 0, 0, 0), (23, 12, 8, 0, 0), (3, 1, 0, 0, 0), (3, 2, 0, 0, 0)] := And.intro ⟨_, dX8_point_0, rfl⟩ (And.intro ⟨dX8_point_1, fl_X8_12⟩ (And.intro ⟨_, dX8_point_4, rfl⟩ (And.intro ⟨_, dX8_point_5, rfl⟩ trivial)))
theorem bX8_point_31_32 : okB cX8_point RX8 31 [(0, 0, 0, 0, (-1))] := And.intro ⟨_, dX8_point_31, by decide⟩ trivial
theorem bX8_point_12_13 : okB cX8_point RX8 12 [(5, 0, 0, 0, 0)] := And.intro ⟨_, dX8_point_12, rfl⟩ trivial
theorem bX8_point_19_25 : okB cX8_point RX8 19 [(5, 0, 0, 0, 0), (23, 21, 8, 1, 0), (3, 1, 0, 0, 0), (3, 2, 0, 0, 0)] := And.intro ⟨_, dX8_point_19, rfl⟩ (And.intro ⟨dX8_point_20, fl_X8_21⟩ (And.intro ⟨_, dX8_point_23, rfl⟩ (And.intro ⟨_, dX8_point_24, rfl⟩ trivial)))
theorem bX8_point_33_39 : okB cX8_point RX8 33 [(3, 3, 0, 0, 0), (5, 0, 0, 0, 0), (23, 21, 8, 1, 0), (3, 1, 0, 0, 0)] := And.intro ⟨_, dX8_point_33, rfl⟩ (And.intro ⟨_, dX8_point_34, rfl⟩ (And.intro ⟨dX8_point_35, fl_X8_21⟩ (And.intro ⟨_, dX8_point_38, rfl⟩ trivial)))
theorem bX8_point_57_58 : okB cX8_point RX8 57 [(0, 0, 0, 0, (-1))] := And.intro ⟨_, dX8_point_57, by decide⟩ trivial
theorem bX8_point_45_51 : okB cX8_point RX8 45 [(3, 3, 0, 0, 0), (5, 0, 0, 0, 0), (23, 21, 8, 1, 0), (3, 2, 0, 0, 0)] := And.intro ⟨_, dX8_point_45, rfl⟩ (And.intro ⟨_, dX8_point_46, rfl⟩ (And.intro ⟨dX8_point_47, fl_X8_21⟩ (And.intro ⟨_, dX8_point_50, rfl⟩ trivial)))
theorem bX8_point_59_61 : okB cX8_point RX8 59 [(4, 4, 0, 0, 0)] := And.intro dX8_point_59 trivial
theorem bX8_point_79_82 : okB cX8_point RX8 79 [(4, 4, 0, 0, 0), (0, 0, 0, 0, 1)] := And.intro dX8_point_79 (And.intro ⟨_, dX8_point_81, by decide⟩ trivial)
theorem bX8_point_102_103 : okB cX8_point RX8 102 [(0, 0, 0, 0, (-1))] := And.intro ⟨_, dX8_point_102, by decide⟩ trivial
theorem bX8_point_85_96 : okB cX8_point RX8 85 [(5, 0, 0, 0, 0), (23, 55, 8, 5, 0), (3, 1, 0, 0, 0), (3, 2, 0, 0, 0), (3, 3, 0, 0, 0), (5, 0, 0, 0, 0), (23, 59, 8, 6, 0)] := And.intro ⟨_, dX8_point_85, rfl⟩ (And.intro ⟨dX8_point_86, fl_X8_55⟩ (And.intro ⟨_, dX8_point_89, rfl⟩ (And.intro ⟨_, dX8_point_90, rfl⟩ (And.intro ⟨_, dX8_point_91, rfl⟩ (And.intro ⟨_, dX8_point_92, rfl⟩ (And.intro ⟨dX8_point_93, fl_X8_59⟩ trivial))))))
theorem bX8_point_64_75 : okB cX8_point RX8 64 [(5, 0, 0, 0, 0), (23, 55, 8, 5, 0), (3, 1, 0, 0, 0), (3, 2, 0, 0, 0), (3, 3, 0, 0, 0), (5, 0, 0, 0, 0), (23, 59, 8, 6, 0)] := And.intro ⟨_, dX8_point_64, rfl⟩ (And.intro ⟨dX8_point_65, fl_X8_55⟩ (And.intro ⟨_, dX8_point_68, rfl⟩ (And.intro ⟨_, dX8_point_69, rfl⟩ (And.intro ⟨_, dX8_point_70, rfl⟩ (And.intro ⟨_, dX8_point_71, rfl⟩ (And.intro ⟨dX8_point_72, fl_X8_59⟩ trivial))))))
set_option maxHeartbeats 4000000 in
set_option maxRecDepth 100000 in
theorem k_X8_point (l : Launch) (D : va_G) (ads : AD) (I A : HI) (a1 : Int32) (a2 : Int32) (a3 : Int32) (a4 : Int32) (po : Option AV → HI → HI → Prop)
    (hv : (((btw A a1 a2) = 0 → po (some (.inl ((-1)))) I A) ∧ (¬ (btw A a1 a2) = 0 → ((XOK I A) ∧ (∀ (r3 : Int32) (I3 A3 : HI), isD I A r3 I3 A3 → ((r3 = 0 → po (some (.inl ((-1)))) I3 A3) ∧ (¬ r3 = 0 → ((vp_in a1 10 ∧ vp_in a2 10) ∧ (((trnI (A3 10) a1 a2) = 0 → ((vp_in a1 10) ∧ ((a3 < (A3 11 a1.toNatClampNeg) → po (some (.inl ((-1)))) I3 A3) ∧ (¬ a3 < (A3 11 a1.toNatClampNeg) → ((vp_in a2 10) ∧ ((a3 ≤ (A3 11 a2.toNatClampNeg) → ((¬ a4 = 0 → ((¬ a4 = 1 → po (some (.inl ((-1)))) I3 A3) ∧ (a4 = 1 → ((bgO0 I3 A3 a1 a2 a3) ∧ po (some (.inl (bgO I3 A3 a1 a2 a3 (I3 0 6)))) I3 A3)))) ∧ (a4 = 0 → ((enO0 I3 A3 a1 a2 a3) ∧ po (some (.inl (enO I3 A3 a1 a2 a3 (I3 0 6)))) I3 A3)))) ∧ (¬ a3 ≤ (A3 11 a2.toNatClampNeg) → po (some (.inl ((-1)))) I3 A3))))))) ∧ (¬ (trnI (A3 10) a1 a2) = 0 → po (some (.inl ((-1)))) I3 A3)))))))))) : Ct l yX8_point cX8_point 5 (some .int) 6 144 D ads shp [.inr (some 0), .inl a1, .inl a2, .inl a3, .inl a4] I A po := by
  refine Ct_of (by decide) (Nat.le_of_ble_eq_true rfl) ?_
  intro p e s m args below meth c hC hr
  replace hC : CX p s m args meth c cX8_point 5 RX8 (AdS ads s.heap.size) := hC
  show Gm p l e s m args below meth c D ads 6 144 5 po I A 0 [some (.inr (some 0)), some (.inl a1), some (.inl a2), some (.inl a3), some (.inl a4)] []
  refine g_blk hC _ bX8_point_0_6 (pc' := 6) (ls' := [some (.inr (some 0)), some (.inl a1), some (.inl a2), some (.inl a3), some (.inl a4)]) (st' := [.inl a2, .inl a1, .inr (some 1)]) (I' := I) rfl rfl ?_
  refine g_callV hC (c_X2_between l D ads I A a1 a2) dX8_point_6 nm_X2_between rfl rfl wl_X8_77 wi_X2_between ws_X2_between wn_X2 wc_X2_between ⟨by decide, by decide⟩ (as := [.inl a1, .inl a2]) (rest := []) rfl (Nat.le_of_ble_eq_true rfl) ⟨Nat.le_refl _, Nat.le_refl _⟩ (k_qI ?_)
  obtain ⟨hv1, hv2⟩ := hv
  refine g_ifeq hC dX8_point_9 (tgt := 31) (by decide) (fun hc => ?_) (fun hc => ?_)
  · have hv := hv1 hc
    clear hv1 hv2 hc
    refine g_blk hC _ bX8_point_31_32 (pc' := 32) (ls' := [some (.inr (some 0)), some (.inl a1), some (.inl a2), some (.inl a3), some (.inl a4)]) (st' := [.inl ((-1))]) (I' := I) rfl rfl ?_
    exact g_reti hC hr rfl dX8_point_32 hv
  · have hv := hv2 hc
    clear hv1 hv2 hc
    refine g_blk hC _ bX8_point_12_13 (pc' := 13) (ls' := [some (.inr (some 0)), some (.inl a1), some (.inl a2), some (.inl a3), some (.inl a4)]) (st' := [.inr (some 0)]) (I' := I) rfl rfl ?_
    obtain ⟨hp2, hv⟩ := hv
    refine g_callV hC (c_X8_isDrawn l D ads I A  hp2) dX8_point_13 nm_X8_isDrawn rfl rfl wl_X8_133 wi_X8_isDrawn ws_X8_isDrawn wn_X8 wc_X8_isDrawn ⟨by decide, by decide⟩ (as := []) (rest := []) rfl (Nat.le_of_ble_eq_true rfl) ⟨Nat.le_refl _, Nat.le_refl _⟩ (k_qJ ?_)
    intro r3 I3 A3 hq3
    replace hv := hv r3 I3 A3 hq3
    obtain ⟨hv1, hv2⟩ := hv
    refine g_ifeq hC dX8_point_16 (tgt := 31) (by decide) (fun hc => ?_) (fun hc => ?_)
    · have hv := hv1 hc
      clear hv1 hv2 hc
      refine g_blk hC _ bX8_point_31_32 (pc' := 32) (ls' := [some (.inr (some 0)), some (.inl a1), some (.inl a2), some (.inl a3), some (.inl a4)]) (st' := [.inl ((-1))]) (I' := I3) rfl rfl ?_
      exact g_reti hC hr rfl dX8_point_32 hv
    · have hv := hv2 hc
      clear hv1 hv2 hc
      refine g_blk hC _ bX8_point_19_25 (pc' := 25) (ls' := [some (.inr (some 0)), some (.inl a1), some (.inl a2), some (.inl a3), some (.inl a4)]) (st' := [.inl a2, .inl a1, .inr (some 3)]) (I' := I3) rfl rfl ?_
      obtain ⟨hp4, hv⟩ := hv
      refine g_callV hC (c_X5_turns l D ads I3 A3 a1 a2 hp4) dX8_point_25 nm_X5_turns rfl rfl wl_X8_112 wi_X5_turns ws_X5_turns wn_X5 wc_X5_turns ⟨by decide, by decide⟩ (as := [.inl a1, .inl a2]) (rest := []) rfl (Nat.le_of_ble_eq_true rfl) ⟨Nat.le_refl _, Nat.le_refl _⟩ (k_qI ?_)
      obtain ⟨hv1, hv2⟩ := hv
      refine g_ifeq hC dX8_point_28 (tgt := 33) (by decide) (fun hc => ?_) (fun hc => ?_)
      · have hv := hv1 hc
        clear hv1 hv2 hc
        refine g_blk hC _ bX8_point_33_39 (pc' := 39) (ls' := [some (.inr (some 0)), some (.inl a1), some (.inl a2), some (.inl a3), some (.inl a4)]) (st' := [.inl a1, .inr (some 3), .inl a3]) (I' := I3) rfl rfl ?_
        obtain ⟨hp5, hv⟩ := hv
        refine g_callV hC (c_X5_layerOf l D ads I3 A3 a1 hp5) dX8_point_39 nm_X5_layerOf rfl rfl wl_X8_124 wi_X5_layerOf ws_X5_layerOf wn_X5 wc_X5_layerOf ⟨by decide, by decide⟩ (as := [.inl a1]) (rest := [.inl a3]) rfl (Nat.le_of_ble_eq_true rfl) ⟨Nat.le_refl _, Nat.le_refl _⟩ (k_qI ?_)
        obtain ⟨hv1, hv2⟩ := hv
        refine g_clt hC dX8_point_42 (tgt := 57) (by decide) (fun hc => ?_) (fun hc => ?_)
        · have hv := hv1 hc
          clear hv1 hv2 hc
          refine g_blk hC _ bX8_point_57_58 (pc' := 58) (ls' := [some (.inr (some 0)), some (.inl a1), some (.inl a2), some (.inl a3), some (.inl a4)]) (st' := [.inl ((-1))]) (I' := I3) rfl rfl ?_
          exact g_reti hC hr rfl dX8_point_58 hv
        · have hv := hv2 hc
          clear hv1 hv2 hc
          refine g_blk hC _ bX8_point_45_51 (pc' := 51) (ls' := [some (.inr (some 0)), some (.inl a1), some (.inl a2), some (.inl a3), some (.inl a4)]) (st' := [.inl a2, .inr (some 3), .inl a3]) (I' := I3) rfl rfl ?_
          obtain ⟨hp6, hv⟩ := hv
          refine g_callV hC (c_X5_layerOf l D ads I3 A3 a2 hp6) dX8_point_51 nm_X5_layerOf rfl rfl wl_X8_124 wi_X5_layerOf ws_X5_layerOf wn_X5 wc_X5_layerOf ⟨by decide, by decide⟩ (as := [.inl a2]) (rest := [.inl a3]) rfl (Nat.le_of_ble_eq_true rfl) ⟨Nat.le_refl _, Nat.le_refl _⟩ (k_qI ?_)
          obtain ⟨hv1, hv2⟩ := hv
          refine g_cle hC dX8_point_54 (tgt := 59) (by decide) (fun hc => ?_) (fun hc => ?_)
          · have hv := hv1 hc
            clear hv1 hv2 hc
            refine g_blk hC _ bX8_point_59_61 (pc' := 61) (ls' := [some (.inr (some 0)), some (.inl a1), some (.inl a2), some (.inl a3), some (.inl a4)]) (st' := [.inl a4]) (I' := I3) rfl rfl ?_
            obtain ⟨hv1, hv2⟩ := hv
            refine g_ifne hC dX8_point_61 (tgt := 79) (by decide) (fun hc => ?_) (fun hc => ?_)
            · have hv := hv1 hc
              clear hv1 hv2 hc
              refine g_blk hC _ bX8_point_79_82 (pc' := 82) (ls' := [some (.inr (some 0)), some (.inl a1), some (.inl a2), some (.inl a3), some (.inl a4)]) (st' := [.inl 1, .inl a4]) (I' := I3) rfl rfl ?_
              obtain ⟨hv1, hv2⟩ := hv
              refine g_cne hC dX8_point_82 (tgt := 102) (by decide) (fun hc => ?_) (fun hc => ?_)
              · have hv := hv1 hc
                clear hv1 hv2 hc
                refine g_blk hC _ bX8_point_102_103 (pc' := 103) (ls' := [some (.inr (some 0)), some (.inl a1), some (.inl a2), some (.inl a3), some (.inl a4)]) (st' := [.inl ((-1))]) (I' := I3) rfl rfl ?_
                exact g_reti hC hr rfl dX8_point_103 hv
              · have hv := hv2 hc
                clear hv1 hv2 hc
                refine g_blk hC _ bX8_point_85_96 (pc' := 96) (ls' := [some (.inr (some 0)), some (.inl a1), some (.inl a2), some (.inl a3), some (.inl a4)]) (st' := [.inl (I3 0 6), .inl a3, .inl a2, .inl a1, .inr (some 95)]) (I' := I3) rfl rfl ?_
                obtain ⟨hp7, hv⟩ := hv
                refine g_callV hC (c_X1_beginOf l D ads I3 A3 a1 a2 a3 (I3 0 6) hp7) dX8_point_96 nm_X1_beginOf rfl rfl wl_X8_168 wi_X1_beginOf ws_X1_beginOf wn_X1 wc_X1_beginOf ⟨by decide, by decide⟩ (as := [.inl a1, .inl a2, .inl a3, .inl (I3 0 6)]) (rest := []) rfl (Nat.le_of_ble_eq_true rfl) ⟨Nat.le_refl _, Nat.le_refl _⟩ (k_qI ?_)
                refine g_goto hC dX8_point_99 (tgt := 103) (by decide) ?_
                exact g_reti hC hr rfl dX8_point_103 hv
            · have hv := hv2 hc
              clear hv1 hv2 hc
              refine g_blk hC _ bX8_point_64_75 (pc' := 75) (ls' := [some (.inr (some 0)), some (.inl a1), some (.inl a2), some (.inl a3), some (.inl a4)]) (st' := [.inl (I3 0 6), .inl a3, .inl a2, .inl a1, .inr (some 95)]) (I' := I3) rfl rfl ?_
              obtain ⟨hp8, hv⟩ := hv
              refine g_callV hC (c_X1_endOf l D ads I3 A3 a1 a2 a3 (I3 0 6) hp8) dX8_point_75 nm_X1_endOf rfl rfl wl_X8_164 wi_X1_endOf ws_X1_endOf wn_X1 wc_X1_endOf ⟨by decide, by decide⟩ (as := [.inl a1, .inl a2, .inl a3, .inl (I3 0 6)]) (rest := []) rfl (Nat.le_of_ble_eq_true rfl) ⟨Nat.le_refl _, Nat.le_refl _⟩ (k_qI ?_)
              exact g_reti hC hr rfl dX8_point_78 hv
          · have hv := hv2 hc
            clear hv1 hv2 hc
            refine g_blk hC _ bX8_point_57_58 (pc' := 58) (ls' := [some (.inr (some 0)), some (.inl a1), some (.inl a2), some (.inl a3), some (.inl a4)]) (st' := [.inl ((-1))]) (I' := I3) rfl rfl ?_
            exact g_reti hC hr rfl dX8_point_58 hv
      · have hv := hv2 hc
        clear hv1 hv2 hc
        refine g_blk hC _ bX8_point_31_32 (pc' := 32) (ls' := [some (.inr (some 0)), some (.inl a1), some (.inl a2), some (.inl a3), some (.inl a4)]) (st' := [.inl ((-1))]) (I' := I3) rfl rfl ?_
        exact g_reti hC hr rfl dX8_point_32 hv
set_option maxHeartbeats 4000000 in
set_option maxRecDepth 100000 in
theorem c_X8_point (l : Launch) (D : va_G) (ads : AD) (I A : HI) (a1 : Int32) (a2 : Int32) (a3 : Int32) (a4 : Int32) (hp : XOK I A) : Ct l yX8_point cX8_point 5 (some .int) 6 144 D ads shp [.inr (some 0), .inl a1, .inl a2, .inl a3, .inl a4] I A (qJ (fun r I' A' => x_point I A a1 a2 a3 a4 r I' A')) := by
  sorry
theorem bX8_keep_0_1 : okB cX8_keep RX8 0 [(5, 0, 0, 0, 0)] := And.intro ⟨_, dX8_keep_0, rfl⟩ trivial
theorem bX8_keep_9_13 : okB cX8_keep RX8 9 [(5, 0, 0, 0, 0), (23, 37, 8, 3, 0)] := And.intro ⟨_, dX8_keep_9, rfl⟩ (And.intro ⟨dX8_keep_10, fl_X8_37⟩ trivial)
theorem bX8_keep_16_18 : okB cX8_keep RX8 16 [(0, 0, 0, 0, 0), (7, 1, 0, 0, 0)] := And.intro ⟨_, dX8_keep_16, by decide⟩ (And.intro ⟨_, dX8_keep_17, rfl⟩ trivial)
theorem bX8_keep_18_23 : okB cX8_keep RX8 18 [(3, 1, 0, 0, 0), (5, 0, 0, 0, 0), (23, 21, 8, 1, 0)] := And.intro ⟨_, dX8_keep_18, rfl⟩ (And.intro ⟨_, dX8_keep_19, rfl⟩ (And.intro ⟨dX8_keep_20, fl_X8_21⟩ trivial))
theorem bX8_keep_73_77 : okB cX8_keep RX8 73 [(5, 0, 0, 0, 0), (23, 37, 8, 3, 0)] := And.intro ⟨_, dX8_keep_73, rfl⟩ (And.intro ⟨dX8_keep_74, fl_X8_37⟩ trivial)
theorem bX8_keep_80_86 : okB cX8_keep RX8 80 [(5, 0, 0, 0, 0), (0, 0, 0, 0, 0), (25, 70, 8, 9, 0), (0, 0, 0, 0, 1)] := And.intro ⟨_, dX8_keep_80, rfl⟩ (And.intro ⟨_, dX8_keep_81, by decide⟩ (And.intro ⟨dX8_keep_82, fl_X8_70, rfl, rfl⟩ (And.intro ⟨_, dX8_keep_85, by decide⟩ trivial)))
theorem bX8_keep_29_31 : okB cX8_keep RX8 29 [(0, 0, 0, 0, 0), (7, 2, 0, 0, 0)] := And.intro ⟨_, dX8_keep_29, by decide⟩ (And.intro ⟨_, dX8_keep_30, rfl⟩ trivial)
theorem bX8_keep_31_37 : okB cX8_keep RX8 31 [(3, 2, 0, 0, 0), (5, 0, 0, 0, 0), (23, 30, 8, 2, 0), (3, 1, 0, 0, 0)] := And.intro ⟨_, dX8_keep_31, rfl⟩ (And.intro ⟨_, dX8_keep_32, rfl⟩ (And.intro ⟨dX8_keep_33, fl_X8_30⟩ (And.intro ⟨_, dX8_keep_36, rfl⟩ trivial)))
theorem bX8_keep_67_70 : okB cX8_keep RX8 67 [(11, 1, 0, 0, 1)] := And.intro ⟨_, dX8_keep_67, by decide⟩ trivial
theorem bX8_keep_43_53 : okB cX8_keep RX8 43 [(5, 0, 0, 0, 0), (23, 37, 8, 3, 0), (5, 0, 0, 0, 0), (23, 46, 8, 4, 0), (3, 1, 0, 0, 0), (3, 2, 0, 0, 0)] := And.intro ⟨_, dX8_keep_43, rfl⟩ (And.intro ⟨dX8_keep_44, fl_X8_37⟩ (And.intro ⟨_, dX8_keep_47, rfl⟩ (And.intro ⟨dX8_keep_48, fl_X8_46⟩ (And.intro ⟨_, dX8_keep_51, rfl⟩ (And.intro ⟨_, dX8_keep_52, rfl⟩ trivial)))))
theorem bX8_keep_56_58 : okB cX8_keep RX8 56 [(3, 1, 0, 0, 0), (3, 2, 0, 0, 0)] := And.intro ⟨_, dX8_keep_56, rfl⟩ (And.intro ⟨_, dX8_keep_57, rfl⟩ trivial)
theorem bX8_keep_61_64 : okB cX8_keep RX8 61 [(11, 2, 0, 0, 1)] := And.intro ⟨_, dX8_keep_61, by decide⟩ trivial
theorem bX8_keep_7_8 : okB cX8_keep RX8 7 [(0, 0, 0, 0, 0)] := And.intro ⟨_, dX8_keep_7, by decide⟩ trivial
set_option maxHeartbeats 4000000 in
set_option maxRecDepth 100000 in
theorem k_X8_keep (l : Launch) (D : va_G) (ads : AD) (I A : HI) (po : Option AV → HI → HI → Prop) (Iv18 : Int32 → HI → HI → Int32 → HI → Prop) (mu18 : Int32 → HI → HI → Int32 → HI → Nat) (Iv31 : Int32 → HI → HI → Int32 → HI → Int32 → HI → Prop) (mu31 : Int32 → HI → HI → Int32 → HI → Int32 → HI → Nat)
    (hv : ((XOK I A) ∧ (∀ (r2 : Int32) (I2 A2 : HI), isD I A r2 I2 A2 → ((¬ r2 = 0 → (Iv18 r2 I2 A2 0 (filA A2 27 10 (-1)) ∧ ∀ (x1_18 : Int32) (A_18 : HI), Iv18 r2 I2 A2 x1_18 A_18 → ((((up2 I2 26 2 0) 3 11) ≤ x1_18 → po (some (.inl 1)) (up2 (up2 (up2 I2 26 2 0) 26 2 1) 0 9 0) A_18) ∧ (¬ ((up2 I2 26 2 0) 3 11) ≤ x1_18 → (Iv31 r2 I2 A2 x1_18 A_18 0 A_18 ∧ ∀ (x2_31 : Int32) (A_31 : HI), Iv31 r2 I2 A2 x1_18 A_18 x2_31 A_31 → ((vp_in x1_18 11) ∧ (((A_31 25 x1_18.toNatClampNeg) ≤ x2_31 → (Iv18 r2 I2 A2 (x1_18 + 1) A_31 ∧ mu18 r2 I2 A2 (x1_18 + 1) A_31 < mu18 r2 I2 A2 x1_18 A_18)) ∧ (¬ (A_31 25 x1_18.toNatClampNeg) ≤ x2_31 → ((shO0 (up2 I2 26 2 0) A_31 x1_18 x2_31) ∧ (Iv31 r2 I2 A2 x1_18 A_18 (x2_31 + 1) (notA A_31 (shO (up2 I2 26 2 0) A_31 x1_18 x2_31) x1_18 x2_31) ∧ mu31 r2 I2 A2 x1_18 A_18 (x2_31 + 1) (notA A_31 (shO (up2 I2 26 2 0) A_31 x1_18 x2_31) x1_18 x2_31) < mu31 r2 I2 A2 x1_18 A_18 x2_31 A_31)))))))))) ∧ (r2 = 0 → po (some (.inl 0)) I2 A2))))) : Ct l yX8_keep cX8_keep 3 (some .boolean) 6 144 D ads shp [.inr (some 0)] I A po := by
  refine Ct_of (by decide) (Nat.le_of_ble_eq_true rfl) ?_
  intro p e s m args below meth c hC hr
  replace hC : CX p s m args meth c cX8_keep 3 RX8 (AdS ads s.heap.size) := hC
  show Gm p l e s m args below meth c D ads 6 144 3 po I A 0 [some (.inr (some 0)), none, none] []
  refine g_blk hC _ bX8_keep_0_1 (pc' := 1) (ls' := [some (.inr (some 0)), none, none]) (st' := [.inr (some 0)]) (I' := I) rfl rfl ?_
  obtain ⟨hp1, hv⟩ := hv
  refine g_callV hC (c_X8_isDrawn l D ads I A  hp1) dX8_keep_1 nm_X8_isDrawn rfl rfl wl_X8_133 wi_X8_isDrawn ws_X8_isDrawn wn_X8 wc_X8_isDrawn ⟨by decide, by decide⟩ (as := []) (rest := []) rfl (Nat.le_of_ble_eq_true rfl) ⟨Nat.le_refl _, Nat.le_refl _⟩ (k_qJ ?_)
  intro r2 I2 A2 hq2
  replace hv := hv r2 I2 A2 hq2
  obtain ⟨hv1, hv2⟩ := hv
  refine g_ifne hC dX8_keep_4 (tgt := 9) (by decide) (fun hc => ?_) (fun hc => ?_)
  · have hv := hv1 hc
    clear hv1 hv2 hc
    refine g_blk hC _ bX8_keep_9_13 (pc' := 13) (ls' := [some (.inr (some 0)), none, none]) (st' := [.inr (some 26)]) (I' := I2) rfl rfl ?_
    refine g_callV hC (c_X4_empty l D ads I2 A2 ) dX8_keep_13 nm_X4_empty rfl rfl wl_X8_171 wi_X4_empty ws_X4_empty wn_X4 wc_X4_empty ⟨by decide, by decide⟩ (as := []) (rest := []) rfl (Nat.le_of_ble_eq_true rfl) ⟨Nat.le_refl _, Nat.le_refl _⟩ (k_qN ?_)
    refine g_blk hC _ bX8_keep_16_18 (pc' := 18) (ls' := [some (.inr (some 0)), some (.inl 0), none]) (st' := []) (I' := up2 I2 26 2 0) rfl rfl ?_
    obtain ⟨hi18, hb18⟩ := hv
    have L18 : ∀ (n : Nat) (x1_18 : Int32) (A_18 : HI), Iv18 r2 I2 A2 x1_18 A_18 → mu18 r2 I2 A2 x1_18 A_18 < n → Gm p l e s m args below meth c D ads 6 144 3 po (up2 I2 26 2 0) A_18 18 [some (.inr (some 0)), some (.inl x1_18), none] [] := by
      intro n
      induction n with
      | zero => intro x1_18 A_18 _ hn; exact absurd hn (Nat.not_lt_zero _)
      | succ n ih18 =>
        intro x1_18 A_18 hv hn18
        replace hv := hb18 x1_18 A_18 hv
        skip
        refine g_blk hC _ bX8_keep_18_23 (pc' := 23) (ls' := [some (.inr (some 0)), some (.inl x1_18), none]) (st' := [.inr (some 3), .inl x1_18]) (I' := up2 I2 26 2 0) rfl rfl ?_
        refine g_callV hC (c_X5_layers l D ads (up2 I2 26 2 0) A_18 ) dX8_keep_23 nm_X5_layers rfl rfl wl_X8_105 wi_X5_layers ws_X5_layers wn_X5 wc_X5_layers ⟨by decide, by decide⟩ (as := []) (rest := [.inl x1_18]) rfl (Nat.le_of_ble_eq_true rfl) ⟨Nat.le_refl _, Nat.le_refl _⟩ (k_qI ?_)
        obtain ⟨hv1, hv2⟩ := hv
        refine g_cge hC dX8_keep_26 (tgt := 73) (by decide) (fun hc => ?_) (fun hc => ?_)
        · have hv := hv1 hc
          clear hv1 hv2 hc
          refine g_blk hC _ bX8_keep_73_77 (pc' := 77) (ls' := [some (.inr (some 0)), some (.inl x1_18), none]) (st' := [.inr (some 26)]) (I' := up2 I2 26 2 0) rfl rfl ?_
          refine g_callV hC (c_X4_hold l D ads (up2 I2 26 2 0) A_18 ) dX8_keep_77 nm_X4_hold rfl rfl wl_X8_177 wi_X4_hold ws_X4_hold wn_X4 wc_X4_hold ⟨by decide, by decide⟩ (as := []) (rest := []) rfl (Nat.le_of_ble_eq_true rfl) ⟨Nat.le_refl _, Nat.le_refl _⟩ (k_qN ?_)
          refine g_blk hC _ bX8_keep_80_86 (pc' := 86) (ls' := [some (.inr (some 0)), some (.inl x1_18), none]) (st' := [.inl 1]) (I' := up2 (up2 (up2 I2 26 2 0) 26 2 1) 0 9 0) rfl rfl ?_
          exact g_reti hC hr (by decide) dX8_keep_86 hv
        · have hv := hv2 hc
          clear hv1 hv2 hc
          refine g_blk hC _ bX8_keep_29_31 (pc' := 31) (ls' := [some (.inr (some 0)), some (.inl x1_18), some (.inl 0)]) (st' := []) (I' := up2 I2 26 2 0) rfl rfl ?_
          obtain ⟨hi31, hb31⟩ := hv
          have L31 : ∀ (n : Nat) (x2_31 : Int32) (A_31 : HI), Iv31 r2 I2 A2 x1_18 A_18 x2_31 A_31 → mu31 r2 I2 A2 x1_18 A_18 x2_31 A_31 < n → Gm p l e s m args below meth c D ads 6 144 3 po (up2 I2 26 2 0) A_31 31 [some (.inr (some 0)), some (.inl x1_18), some (.inl x2_31)] [] := by
            intro n
            induction n with
            | zero => intro x2_31 A_31 _ hn; exact absurd hn (Nat.not_lt_zero _)
            | succ n ih31 =>
              intro x2_31 A_31 hv hn31
              replace hv := hb31 x2_31 A_31 hv
              skip
              refine g_blk hC _ bX8_keep_31_37 (pc' := 37) (ls' := [some (.inr (some 0)), some (.inl x1_18), some (.inl x2_31)]) (st' := [.inl x1_18, .inr (some 13), .inl x2_31]) (I' := up2 I2 26 2 0) rfl rfl ?_
              obtain ⟨hp6, hv⟩ := hv
              refine g_callV hC (c_X7_countIn l D ads (up2 I2 26 2 0) A_31 x1_18 hp6) dX8_keep_37 nm_X7_countIn rfl rfl wl_X8_151 wi_X7_countIn ws_X7_countIn wn_X7 wc_X7_countIn ⟨by decide, by decide⟩ (as := [.inl x1_18]) (rest := [.inl x2_31]) rfl (Nat.le_of_ble_eq_true rfl) ⟨Nat.le_refl _, Nat.le_refl _⟩ (k_qI ?_)
              obtain ⟨hv1, hv2⟩ := hv
              refine g_cge hC dX8_keep_40 (tgt := 67) (by decide) (fun hc => ?_) (fun hc => ?_)
              · have hv := hv1 hc
                clear hv1 hv2 hc
                refine g_blk hC _ bX8_keep_67_70 (pc' := 70) (ls' := [some (.inr (some 0)), some (.inl (x1_18 + 1)), some (.inl x2_31)]) (st' := []) (I' := up2 I2 26 2 0) rfl rfl ?_
                refine g_goto hC dX8_keep_70 (tgt := 18) (by decide) ?_
                exact g_weak (ls1 := [some (.inr (some 0)), some (.inl (x1_18 + 1)), none]) rfl (And.intro rfl (And.intro rfl trivial)) (ih18 (x1_18 + 1) A_31 hv.1 (Nat.lt_of_lt_of_le hv.2 (Nat.le_of_lt_succ hn18)))
              · have hv := hv2 hc
                clear hv1 hv2 hc
                refine g_blk hC _ bX8_keep_43_53 (pc' := 53) (ls' := [some (.inr (some 0)), some (.inl x1_18), some (.inl x2_31)]) (st' := [.inl x2_31, .inl x1_18, .inr (some 29), .inr (some 26)]) (I' := up2 I2 26 2 0) rfl rfl ?_
                obtain ⟨hp7, hv⟩ := hv
                refine g_callV hC (c_X6_shownAt l D ads (up2 I2 26 2 0) A_31 x1_18 x2_31 hp7) dX8_keep_53 nm_X6_shownAt rfl rfl wl_X8_154 wi_X6_shownAt ws_X6_shownAt wn_X6 wc_X6_shownAt ⟨by decide, by decide⟩ (as := [.inl x1_18, .inl x2_31]) (rest := [.inr (some 26)]) rfl (Nat.le_of_ble_eq_true rfl) ⟨Nat.le_refl _, Nat.le_refl _⟩ (k_qI ?_)
                refine g_blk hC _ bX8_keep_56_58 (pc' := 58) (ls' := [some (.inr (some 0)), some (.inl x1_18), some (.inl x2_31)]) (st' := [.inl x2_31, .inl x1_18, .inl (shO (up2 I2 26 2 0) A_31 x1_18 x2_31), .inr (some 26)]) (I' := up2 I2 26 2 0) rfl rfl ?_
                refine g_callV hC (c_X4_note l D ads (up2 I2 26 2 0) A_31 (shO (up2 I2 26 2 0) A_31 x1_18 x2_31) x1_18 x2_31) dX8_keep_58 nm_X4_note rfl rfl wl_X8_174 wi_X4_note ws_X4_note wn_X4 wc_X4_note ⟨by decide, by decide⟩ (as := [.inl (shO (up2 I2 26 2 0) A_31 x1_18 x2_31), .inl x1_18, .inl x2_31]) (rest := []) rfl (Nat.le_of_ble_eq_true rfl) ⟨Nat.le_refl _, Nat.le_refl _⟩ (k_qN ?_)
                refine g_blk hC _ bX8_keep_61_64 (pc' := 64) (ls' := [some (.inr (some 0)), some (.inl x1_18), some (.inl (x2_31 + 1))]) (st' := []) (I' := (up2 I2 26 2 0)) rfl rfl ?_
                refine g_goto hC dX8_keep_64 (tgt := 31) (by decide) ?_
                exact g_weak (ls1 := [some (.inr (some 0)), some (.inl x1_18), some (.inl (x2_31 + 1))]) rfl (And.intro rfl (And.intro rfl (And.intro rfl trivial))) (ih31 (x2_31 + 1) (notA A_31 (shO (up2 I2 26 2 0) A_31 x1_18 x2_31) x1_18 x2_31) hv.1 (Nat.lt_of_lt_of_le hv.2 (Nat.le_of_lt_succ hn31)))
          exact g_weak (ls1 := [some (.inr (some 0)), some (.inl x1_18), some (.inl 0)]) rfl (And.intro rfl (And.intro rfl (And.intro rfl trivial))) (L31 _ 0 A_18 hi31 (Nat.lt_succ_self _))
    exact g_weak (ls1 := [some (.inr (some 0)), some (.inl 0), none]) rfl (And.intro rfl (And.intro rfl trivial)) (L18 _ 0 (filA A2 27 10 (-1)) hi18 (Nat.lt_succ_self _))
  · have hv := hv2 hc
    clear hv1 hv2 hc
    refine g_blk hC _ bX8_keep_7_8 (pc' := 8) (ls' := [some (.inr (some 0)), none, none]) (st' := [.inl 0]) (I' := I2) rfl rfl ?_
    exact g_reti hC hr (by decide) dX8_keep_8 hv
set_option maxHeartbeats 4000000 in
set_option maxRecDepth 100000 in
theorem c_X8_keep (l : Launch) (D : va_G) (ads : AD) (I A : HI) (hp : XOK I A) : Ct l yX8_keep cX8_keep 3 (some .boolean) 6 144 D ads shp [.inr (some 0)] I A (qJ (fun r I' A' => x_keep I A r I' A')) := by
  sorry
theorem bX8_forget_0_4 : okB cX8_forget RX8 0 [(5, 0, 0, 0, 0), (23, 37, 8, 3, 0)] := And.intro ⟨_, dX8_forget_0, rfl⟩ (And.intro ⟨dX8_forget_1, fl_X8_37⟩ trivial)
theorem bX8_forget_10_14 : okB cX8_forget RX8 10 [(5, 0, 0, 0, 0), (23, 37, 8, 3, 0)] := And.intro ⟨_, dX8_forget_10, rfl⟩ (And.intro ⟨dX8_forget_11, fl_X8_37⟩ trivial)
theorem bX8_forget_17_22 : okB cX8_forget RX8 17 [(5, 0, 0, 0, 0), (0, 0, 0, 0, 0), (25, 70, 8, 9, 0)] := And.intro ⟨_, dX8_forget_17, rfl⟩ (And.intro ⟨_, dX8_forget_18, by decide⟩ (And.intro ⟨dX8_forget_19, fl_X8_70, rfl, rfl⟩ trivial))
set_option maxHeartbeats 4000000 in
set_option maxRecDepth 100000 in
theorem k_X8_forget (l : Launch) (D : va_G) (ads : AD) (I A : HI) (po : Option AV → HI → HI → Prop)
    (hv : (((I 26 2) = 0 → po none I A) ∧ (¬ (I 26 2) = 0 → po none (up2 (up2 I 26 2 0) 0 9 0) (filA A 27 10 (-1))))) : Ct l yX8_forget cX8_forget 1 none 2 43 D ads shp [.inr (some 0)] I A po := by
  refine Ct_of (by decide) (Nat.le_of_ble_eq_true rfl) ?_
  intro p e s m args below meth c hC hr
  replace hC : CX p s m args meth c cX8_forget 1 RX8 (AdS ads s.heap.size) := hC
  show Gm p l e s m args below meth c D ads 2 43 1 po I A 0 [some (.inr (some 0))] []
  refine g_blk hC _ bX8_forget_0_4 (pc' := 4) (ls' := [some (.inr (some 0))]) (st' := [.inr (some 26)]) (I' := I) rfl rfl ?_
  refine g_callV hC (c_X4_holds l D ads I A ) dX8_forget_4 nm_X4_holds rfl rfl wl_X8_108 wi_X4_holds ws_X4_holds wn_X4 wc_X4_holds ⟨by decide, by decide⟩ (as := []) (rest := []) rfl (Nat.le_of_ble_eq_true rfl) ⟨Nat.le_refl _, Nat.le_refl _⟩ (k_qI ?_)
  obtain ⟨hv1, hv2⟩ := hv
  refine g_ifeq hC dX8_forget_7 (tgt := 22) (by decide) (fun hc => ?_) (fun hc => ?_)
  · have hv := hv1 hc
    clear hv1 hv2 hc
    exact g_retv hC hr dX8_forget_22 hv
  · have hv := hv2 hc
    clear hv1 hv2 hc
    refine g_blk hC _ bX8_forget_10_14 (pc' := 14) (ls' := [some (.inr (some 0))]) (st' := [.inr (some 26)]) (I' := I) rfl rfl ?_
    refine g_callV hC (c_X4_empty l D ads I A ) dX8_forget_14 nm_X4_empty rfl rfl wl_X8_171 wi_X4_empty ws_X4_empty wn_X4 wc_X4_empty ⟨by decide, by decide⟩ (as := []) (rest := []) rfl (Nat.le_of_ble_eq_true rfl) ⟨Nat.le_refl _, Nat.le_refl _⟩ (k_qN ?_)
    refine g_blk hC _ bX8_forget_17_22 (pc' := 22) (ls' := [some (.inr (some 0))]) (st' := []) (I' := up2 (up2 I 26 2 0) 0 9 0) rfl rfl ?_
    exact g_retv hC hr dX8_forget_22 hv
set_option maxHeartbeats 4000000 in
set_option maxRecDepth 100000 in
theorem c_X8_forget (l : Launch) (D : va_G) (ads : AD) (I A : HI) (hp : XOK I A) : Ct l yX8_forget cX8_forget 1 none 2 43 D ads shp [.inr (some 0)] I A (qV (fun I' A' => x_forget I A  I' A')) := by
  sorry
theorem bX8_orders_0_1 : okB cX8_orders RX8 0 [(5, 0, 0, 0, 0)] := And.intro ⟨_, dX8_orders_0, rfl⟩ trivial
theorem bX8_orders_17_18 : okB cX8_orders RX8 17 [(0, 0, 0, 0, (-1))] := And.intro ⟨_, dX8_orders_17, by decide⟩ trivial
theorem bX8_orders_7_11 : okB cX8_orders RX8 7 [(5, 0, 0, 0, 0), (23, 46, 8, 4, 0)] := And.intro ⟨_, dX8_orders_7, rfl⟩ (And.intro ⟨dX8_orders_8, fl_X8_46⟩ trivial)
set_option maxHeartbeats 4000000 in
set_option maxRecDepth 100000 in
theorem k_X8_orders (l : Launch) (D : va_G) (ads : AD) (I A : HI) (po : Option AV → HI → HI → Prop)
    (hv : ((XOK I A) ∧ (∀ (r2 : Int32) (I2 A2 : HI), isD I A r2 I2 A2 → ((r2 = 0 → po (some (.inl ((-1)))) I2 A2) ∧ (¬ r2 = 0 → po (some (.inl (I2 29 10))) I2 A2))))) : Ct l yX8_orders cX8_orders 1 (some .int) 6 144 D ads shp [.inr (some 0)] I A po := by
  refine Ct_of (by decide) (Nat.le_of_ble_eq_true rfl) ?_
  intro p e s m args below meth c hC hr
  replace hC : CX p s m args meth c cX8_orders 1 RX8 (AdS ads s.heap.size) := hC
  show Gm p l e s m args below meth c D ads 6 144 1 po I A 0 [some (.inr (some 0))] []
  refine g_blk hC _ bX8_orders_0_1 (pc' := 1) (ls' := [some (.inr (some 0))]) (st' := [.inr (some 0)]) (I' := I) rfl rfl ?_
  obtain ⟨hp1, hv⟩ := hv
  refine g_callV hC (c_X8_isDrawn l D ads I A  hp1) dX8_orders_1 nm_X8_isDrawn rfl rfl wl_X8_133 wi_X8_isDrawn ws_X8_isDrawn wn_X8 wc_X8_isDrawn ⟨by decide, by decide⟩ (as := []) (rest := []) rfl (Nat.le_of_ble_eq_true rfl) ⟨Nat.le_refl _, Nat.le_refl _⟩ (k_qJ ?_)
  intro r2 I2 A2 hq2
  replace hv := hv r2 I2 A2 hq2
  obtain ⟨hv1, hv2⟩ := hv
  refine g_ifeq hC dX8_orders_4 (tgt := 17) (by decide) (fun hc => ?_) (fun hc => ?_)
  · have hv := hv1 hc
    clear hv1 hv2 hc
    refine g_blk hC _ bX8_orders_17_18 (pc' := 18) (ls' := [some (.inr (some 0))]) (st' := [.inl ((-1))]) (I' := I2) rfl rfl ?_
    exact g_reti hC hr rfl dX8_orders_18 hv
  · have hv := hv2 hc
    clear hv1 hv2 hc
    refine g_blk hC _ bX8_orders_7_11 (pc' := 11) (ls' := [some (.inr (some 0))]) (st' := [.inr (some 29)]) (I' := I2) rfl rfl ?_
    refine g_callV hC (c_X6_leastWays l D ads I2 A2 ) dX8_orders_11 nm_X6_leastWays rfl rfl wl_X8_180 wi_X6_leastWays ws_X6_leastWays wn_X6 wc_X6_leastWays ⟨by decide, by decide⟩ (as := []) (rest := []) rfl (Nat.le_of_ble_eq_true rfl) ⟨Nat.le_refl _, Nat.le_refl _⟩ (k_qI ?_)
    refine g_goto hC dX8_orders_14 (tgt := 18) (by decide) ?_
    exact g_reti hC hr rfl dX8_orders_18 hv
set_option maxHeartbeats 4000000 in
set_option maxRecDepth 100000 in
theorem c_X8_orders (l : Launch) (D : va_G) (ads : AD) (I A : HI) (hp : XOK I A) : Ct l yX8_orders cX8_orders 1 (some .int) 6 144 D ads shp [.inr (some 0)] I A (qJ (fun r I' A' => x_orders I A r I' A')) := by
  sorry
