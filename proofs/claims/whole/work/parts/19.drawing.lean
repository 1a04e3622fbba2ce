/-! Drawing -/
def szO0 (x : Int32) : Prop := True
def szO (A : HI) (x : Int32) : Int32 := 0
def tpO0 (I A : HI) (l : Int32) : Prop := True
def tpO (I A : HI) (l x g : Int32) : Int32 := 0
def enO0 (I A : HI) (a b l : Int32) : Prop := True
def enO (I A : HI) (a b l g : Int32) : Int32 := 0
def bgO0 (I A : HI) (a b l : Int32) : Prop := True
def bgO (I A : HI) (a b l g : Int32) : Int32 := 0
theorem bX1_sizeOf_0_1 : okB cX1_sizeOf RX1 0 [(3, 1, 0, 0, 0)] := And.intro ⟨_, dX1_sizeOf_0, rfl⟩ trivial
theorem bX1_sizeOf_28_35 : okB cX1_sizeOf RX1 28 [(0, 0, 0, 0, 0), (7, 2, 0, 0, 0), (0, 0, 0, 0, 0), (7, 3, 0, 0, 0), (0, 0, 0, 0, 0), (8, 4, 0, 0, 0)] := And.intro ⟨_, dX1_sizeOf_28, by decide⟩ (And.intro ⟨_, dX1_sizeOf_29, rfl⟩ (And.intro ⟨_, dX1_sizeOf_30, by decide⟩ (And.intro ⟨_, dX1_sizeOf_31, rfl⟩ (And.intro ⟨_, dX1_sizeOf_32, by decide⟩ (And.intro dX1_sizeOf_33 trivial)))))
theorem bX1_sizeOf_35_39 : okB cX1_sizeOf RX1 35 [(4, 4, 0, 0, 0), (1, 0, 0, 0, 10)] := And.intro dX1_sizeOf_35 (And.intro ⟨_, dX1_sizeOf_37, by decide⟩ trivial)
theorem bX1_sizeOf_74_77 : okB cX1_sizeOf RX1 74 [(0, 0, 0, 0, 1), (3, 2, 0, 0, 0), (3, 3, 0, 0, 0)] := And.intro ⟨_, dX1_sizeOf_74, by decide⟩ (And.intro ⟨_, dX1_sizeOf_75, rfl⟩ (And.intro ⟨_, dX1_sizeOf_76, rfl⟩ trivial))
theorem bX1_sizeOf_42_50 : okB cX1_sizeOf RX1 42 [(3, 2, 0, 0, 0), (5, 0, 0, 0, 0), (23, 9, 1, 0, 0), (4, 4, 0, 0, 0), (3, 1, 0, 0, 0)] := And.intro ⟨_, dX1_sizeOf_42, rfl⟩ (And.intro ⟨_, dX1_sizeOf_43, rfl⟩ (And.intro ⟨dX1_sizeOf_44, fl_X1_9⟩ (And.intro dX1_sizeOf_47 (And.intro ⟨_, dX1_sizeOf_49, rfl⟩ trivial))))
theorem bX1_sizeOf_53_63 : okB cX1_sizeOf RX1 53 [(12, 0, 0, 0, 0), (7, 2, 0, 0, 0), (3, 3, 0, 0, 0), (5, 0, 0, 0, 0), (23, 9, 1, 0, 0), (3, 1, 0, 0, 0), (4, 4, 0, 0, 0)] := And.intro dX1_sizeOf_53 (And.intro ⟨_, dX1_sizeOf_54, rfl⟩ (And.intro ⟨_, dX1_sizeOf_55, rfl⟩ (And.intro ⟨_, dX1_sizeOf_56, rfl⟩ (And.intro ⟨dX1_sizeOf_57, fl_X1_9⟩ (And.intro ⟨_, dX1_sizeOf_60, rfl⟩ (And.intro dX1_sizeOf_61 trivial))))))
theorem bX1_sizeOf_66_71 : okB cX1_sizeOf RX1 66 [(12, 0, 0, 0, 0), (7, 3, 0, 0, 0), (11, 4, 0, 0, 1)] := And.intro dX1_sizeOf_66 (And.intro ⟨_, dX1_sizeOf_67, rfl⟩ (And.intro ⟨_, dX1_sizeOf_68, by decide⟩ trivial))
theorem bX1_sizeOf_7_19 : okB cX1_sizeOf RX1 7 [(3, 1, 0, 0, 0), (1, 0, 0, 0, 100), (13, 0, 0, 0, 0), (7, 2, 0, 0, 0), (5, 0, 0, 0, 0), (23, 9, 1, 0, 0), (3, 2, 0, 0, 0), (1, 0, 0, 0, 10)] := And.intro ⟨_, dX1_sizeOf_7, rfl⟩ (And.intro ⟨_, dX1_sizeOf_8, by decide⟩ (And.intro dX1_sizeOf_10 (And.intro ⟨_, dX1_sizeOf_11, rfl⟩ (And.intro ⟨_, dX1_sizeOf_12, rfl⟩ (And.intro ⟨dX1_sizeOf_13, fl_X1_9⟩ (And.intro ⟨_, dX1_sizeOf_16, rfl⟩ (And.intro ⟨_, dX1_sizeOf_17, by decide⟩ trivial)))))))
theorem bX1_sizeOf_20_23 : okB cX1_sizeOf RX1 20 [(3, 2, 0, 0, 0), (1, 0, 0, 0, 10)] := And.intro ⟨_, dX1_sizeOf_20, rfl⟩ (And.intro ⟨_, dX1_sizeOf_21, by decide⟩ trivial)
set_option maxHeartbeats 4000000 in
set_option maxRecDepth 100000 in
theorem k_X1_sizeOf (l : Launch) (D : va_G) (ads : AD) (I A : HI) (a1 : Int32) (po : Option AV → HI → HI → Prop) (Iv35 : Int32 → Int32 → Int32 → Prop) (mu35 : Int32 → Int32 → Int32 → Nat)
    (hv : ((¬ (zP a1) = 0 → (Iv35 0 0 0 ∧ ∀ (x2_35 : Int32) (x3_35 : Int32) (x4_35 : Int32), Iv35 x2_35 x3_35 x4_35 → ((10 ≤ x4_35 → po (some (.inl (mxI 1 (mxI x2_35 x3_35)))) I A) ∧ (¬ 10 ≤ x4_35 → (Iv35 (x2_35 + (strI A x4_35 a1)) (x3_35 + (strI A a1 x4_35)) (x4_35 + 1) ∧ mu35 (x2_35 + (strI A x4_35 a1)) (x3_35 + (strI A a1 x4_35)) (x4_35 + 1) < mu35 x2_35 x3_35 x4_35))))) ∧ ((zP a1) = 0 → po (some (.inl (strI A ((a1 - 100) / 10) ((a1 - 100) - (a1 - 100) / 10 * 10)))) I A))) : Ct l yX1_sizeOf cX1_sizeOf 5 (some .int) 2 43 D ads shp [.inr (some 95), .inl a1] I A po := by
  refine Ct_of (by decide) (Nat.le_of_ble_eq_true rfl) ?_
  intro p e s m args below meth c hC hr
  replace hC : CX p s m args meth c cX1_sizeOf 5 RX1 (AdS ads s.heap.size) := hC
  show Gm p l e s m args below meth c D ads 2 43 5 po I A 0 [some (.inr (some 95)), some (.inl a1), none, none, none] []
  refine g_blk hC _ bX1_sizeOf_0_1 (pc' := 1) (ls' := [some (.inr (some 95)), some (.inl a1), none, none, none]) (st' := [.inl a1]) (I' := I) rfl rfl ?_
  refine g_callN (host := RX8) hC (c_X8_isPlace l D ads I A a1) dX1_sizeOf_1 nm_X8_isPlace (List.mem_of_getElem? (i := 6) rfl) wt_X8_isPlace wn_X8 wc_X8_isPlace ⟨by decide, by decide⟩ (as := [.inl a1]) (rest := []) rfl (Nat.le_of_ble_eq_true rfl) ⟨Nat.le_refl _, Nat.le_refl _⟩ (k_qI ?_)
  obtain ⟨hv1, hv2⟩ := hv
  refine g_ifne hC dX1_sizeOf_4 (tgt := 28) (by decide) (fun hc => ?_) (fun hc => ?_)
  · have hv := hv1 hc
    clear hv1 hv2 hc
    refine g_blk hC _ bX1_sizeOf_28_35 (pc' := 35) (ls' := [some (.inr (some 95)), some (.inl a1), some (.inl 0), some (.inl 0), some (.inl 0)]) (st' := []) (I' := I) rfl rfl ?_
    obtain ⟨hi35, hb35⟩ := hv
    have L35 : ∀ (n : Nat) (x2_35 : Int32) (x3_35 : Int32) (x4_35 : Int32), Iv35 x2_35 x3_35 x4_35 → mu35 x2_35 x3_35 x4_35 < n → Gm p l e s m args below meth c D ads 2 43 5 po I A 35 [some (.inr (some 95)), some (.inl a1), some (.inl x2_35), some (.inl x3_35), some (.inl x4_35)] [] := by
      intro n
      induction n with
      | zero => intro x2_35 x3_35 x4_35 _ hn; exact absurd hn (Nat.not_lt_zero _)
      | succ n ih35 =>
        intro x2_35 x3_35 x4_35 hv hn35
        replace hv := hb35 x2_35 x3_35 x4_35 hv
        skip
        refine g_blk hC _ bX1_sizeOf_35_39 (pc' := 39) (ls' := [some (.inr (some 95)), some (.inl a1), some (.inl x2_35), some (.inl x3_35), some (.inl x4_35)]) (st' := [.inl 10, .inl x4_35]) (I' := I) rfl rfl ?_
        obtain ⟨hv1, hv2⟩ := hv
        refine g_cge hC dX1_sizeOf_39 (tgt := 74) (by decide) (fun hc => ?_) (fun hc => ?_)
        · have hv := hv1 hc
          clear hv1 hv2 hc
          refine g_blk hC _ bX1_sizeOf_74_77 (pc' := 77) (ls' := [some (.inr (some 95)), some (.inl a1), some (.inl x2_35), some (.inl x3_35), some (.inl x4_35)]) (st' := [.inl x3_35, .inl x2_35, .inl 1]) (I' := I) rfl rfl ?_
          refine g_max hC dX1_sizeOf_77 wl_X1_29 (by decide) (Nat.le_of_ble_eq_true rfl) ⟨Nat.le_refl _, Nat.le_refl _⟩ ?_
          refine g_max hC dX1_sizeOf_80 wl_X1_29 (by decide) (Nat.le_of_ble_eq_true rfl) ⟨Nat.le_refl _, Nat.le_refl _⟩ ?_
          exact g_reti hC hr rfl dX1_sizeOf_83 hv
        · have hv := hv2 hc
          clear hv1 hv2 hc
          refine g_blk hC _ bX1_sizeOf_42_50 (pc' := 50) (ls' := [some (.inr (some 95)), some (.inl a1), some (.inl x2_35), some (.inl x3_35), some (.inl x4_35)]) (st' := [.inl a1, .inl x4_35, .inr (some 3), .inl x2_35]) (I' := I) rfl rfl ?_
          refine g_callV hC (c_X5_straight l D ads I A x4_35 a1) dX1_sizeOf_50 nm_X5_straight rfl rfl wl_X1_23 wi_X5_straight ws_X5_straight wn_X5 wc_X5_straight ⟨by decide, by decide⟩ (as := [.inl x4_35, .inl a1]) (rest := [.inl x2_35]) rfl (Nat.le_of_ble_eq_true rfl) ⟨Nat.le_refl _, Nat.le_refl _⟩ (k_qI ?_)
          refine g_blk hC _ bX1_sizeOf_53_63 (pc' := 63) (ls' := [some (.inr (some 95)), some (.inl a1), some (.inl (x2_35 + (strI A x4_35 a1))), some (.inl x3_35), some (.inl x4_35)]) (st' := [.inl x4_35, .inl a1, .inr (some 3), .inl x3_35]) (I' := I) rfl rfl ?_
          refine g_callV hC (c_X5_straight l D ads I A a1 x4_35) dX1_sizeOf_63 nm_X5_straight rfl rfl wl_X1_23 wi_X5_straight ws_X5_straight wn_X5 wc_X5_straight ⟨by decide, by decide⟩ (as := [.inl a1, .inl x4_35]) (rest := [.inl x3_35]) rfl (Nat.le_of_ble_eq_true rfl) ⟨Nat.le_refl _, Nat.le_refl _⟩ (k_qI ?_)
          refine g_blk hC _ bX1_sizeOf_66_71 (pc' := 71) (ls' := [some (.inr (some 95)), some (.inl a1), some (.inl (x2_35 + (strI A x4_35 a1))), some (.inl (x3_35 + (strI A a1 x4_35))), some (.inl (x4_35 + 1))]) (st' := []) (I' := I) rfl rfl ?_
          refine g_goto hC dX1_sizeOf_71 (tgt := 35) (by decide) ?_
          exact g_weak (ls1 := [some (.inr (some 95)), some (.inl a1), some (.inl (x2_35 + (strI A x4_35 a1))), some (.inl (x3_35 + (strI A a1 x4_35))), some (.inl (x4_35 + 1))]) rfl (And.intro rfl (And.intro rfl (And.intro rfl (And.intro rfl (And.intro rfl trivial))))) (ih35 (x2_35 + (strI A x4_35 a1)) (x3_35 + (strI A a1 x4_35)) (x4_35 + 1) hv.1 (Nat.lt_of_lt_of_le hv.2 (Nat.le_of_lt_succ hn35)))
    exact g_weak (ls1 := [some (.inr (some 95)), some (.inl a1), some (.inl 0), some (.inl 0), some (.inl 0)]) rfl (And.intro rfl (And.intro rfl (And.intro rfl (And.intro rfl (And.intro rfl trivial))))) (L35 _ 0 0 0 hi35 (Nat.lt_succ_self _))
  · have hv := hv2 hc
    clear hv1 hv2 hc
    refine g_blk hC _ bX1_sizeOf_7_19 (pc' := 19) (ls' := [some (.inr (some 95)), some (.inl a1), some (.inl (a1 - 100)), none, none]) (st' := [.inl 10, .inl (a1 - 100), .inr (some 3)]) (I' := I) rfl rfl ?_
    refine g_idiv hC dX1_sizeOf_19 (by decide) ?_
    refine g_blk hC _ bX1_sizeOf_20_23 (pc' := 23) (ls' := [some (.inr (some 95)), some (.inl a1), some (.inl (a1 - 100)), none, none]) (st' := [.inl 10, .inl (a1 - 100), .inl ((a1 - 100) / 10), .inr (some 3)]) (I' := I) rfl rfl ?_
    refine g_irem hC dX1_sizeOf_23 (by decide) ?_
    refine g_callV hC (c_X5_straight l D ads I A ((a1 - 100) / 10) ((a1 - 100) - (a1 - 100) / 10 * 10)) dX1_sizeOf_24 nm_X5_straight rfl rfl wl_X1_23 wi_X5_straight ws_X5_straight wn_X5 wc_X5_straight ⟨by decide, by decide⟩ (as := [.inl ((a1 - 100) / 10), .inl ((a1 - 100) - (a1 - 100) / 10 * 10)]) (rest := []) rfl (Nat.le_of_ble_eq_true rfl) ⟨Nat.le_refl _, Nat.le_refl _⟩ (k_qI ?_)
    exact g_reti hC hr rfl dX1_sizeOf_27 hv
set_option maxHeartbeats 4000000 in
set_option maxRecDepth 100000 in
theorem c_X1_sizeOf (l : Launch) (D : va_G) (ads : AD) (I A : HI) (a1 : Int32) (hp : szO0 a1) : Ct l yX1_sizeOf cX1_sizeOf 5 (some .int) 2 43 D ads shp [.inr (some 95), .inl a1] I A (qI (szO A a1) I A) := by
  sorry
theorem bX1_topOf_0_6 : okB cX1_topOf RX1 0 [(5, 0, 0, 0, 0), (23, 15, 1, 1, 0), (3, 1, 0, 0, 0), (3, 2, 0, 0, 0)] := And.intro ⟨_, dX1_topOf_0, rfl⟩ (And.intro ⟨dX1_topOf_1, fl_X1_15⟩ (And.intro ⟨_, dX1_topOf_4, rfl⟩ (And.intro ⟨_, dX1_topOf_5, rfl⟩ trivial)))
theorem bX1_topOf_9_17 : okB cX1_topOf RX1 9 [(8, 4, 0, 0, 0), (0, 0, 0, 0, 0), (8, 5, 0, 0, 0), (0, 0, 0, 0, 0), (8, 6, 0, 0, 0)] := And.intro dX1_topOf_9 (And.intro ⟨_, dX1_topOf_11, by decide⟩ (And.intro dX1_topOf_12 (And.intro ⟨_, dX1_topOf_14, by decide⟩ (And.intro dX1_topOf_15 trivial))))
theorem bX1_topOf_17_21 : okB cX1_topOf RX1 17 [(4, 6, 0, 0, 0), (4, 4, 0, 0, 0)] := And.intro dX1_topOf_17 (And.intro dX1_topOf_19 trivial)
theorem bX1_topOf_51_53 : okB cX1_topOf RX1 51 [(4, 5, 0, 0, 0)] := And.intro dX1_topOf_51 trivial
theorem bX1_topOf_24_34 : okB cX1_topOf RX1 24 [(4, 5, 0, 0, 0), (5, 0, 0, 0, 0), (5, 0, 0, 0, 0), (23, 15, 1, 1, 0), (3, 1, 0, 0, 0), (4, 6, 0, 0, 0)] := And.intro dX1_topOf_24 (And.intro ⟨_, dX1_topOf_26, rfl⟩ (And.intro ⟨_, dX1_topOf_27, rfl⟩ (And.intro ⟨dX1_topOf_28, fl_X1_15⟩ (And.intro ⟨_, dX1_topOf_31, rfl⟩ (And.intro dX1_topOf_32 trivial)))))
theorem bX1_topOf_40_48 : okB cX1_topOf RX1 40 [(3, 3, 0, 0, 0), (12, 0, 0, 0, 0), (12, 0, 0, 0, 0), (8, 5, 0, 0, 0), (11, 6, 0, 0, 1)] := And.intro ⟨_, dX1_topOf_40, rfl⟩ (And.intro dX1_topOf_41 (And.intro dX1_topOf_42 (And.intro dX1_topOf_43 (And.intro ⟨_, dX1_topOf_45, by decide⟩ trivial))))
set_option maxHeartbeats 4000000 in
set_option maxRecDepth 100000 in
theorem k_X1_topOf (l : Launch) (D : va_G) (ads : AD) (I A : HI) (a1 : Int32) (a2 : Int32) (a3 : Int32) (po : Option AV → HI → HI → Prop) (Iv17 : Int32 → Int32 → Prop) (mu17 : Int32 → Int32 → Nat)
    (hv : ((spO0 I A a1) ∧ (Iv17 0 0 ∧ ∀ (x5_17 : Int32) (x6_17 : Int32), Iv17 x5_17 x6_17 → (((spO I A a1 a2) ≤ x6_17 → po (some (.inl x5_17)) I A) ∧ (¬ (spO I A a1 a2) ≤ x6_17 → ((shO0 I A a1 x6_17) ∧ ((szO0 (shO I A a1 x6_17)) ∧ (Iv17 (x5_17 + ((szO A (shO I A a1 x6_17)) + a3)) (x6_17 + 1) ∧ mu17 (x5_17 + ((szO A (shO I A a1 x6_17)) + a3)) (x6_17 + 1) < mu17 x5_17 x6_17)))))))) : Ct l yX1_topOf cX1_topOf 7 (some .int) 4 87 D ads shp [.inr (some 95), .inl a1, .inl a2, .inl a3] I A po := by
  refine Ct_of (by decide) (Nat.le_of_ble_eq_true rfl) ?_
  intro p e s m args below meth c hC hr
  replace hC : CX p s m args meth c cX1_topOf 7 RX1 (AdS ads s.heap.size) := hC
  show Gm p l e s m args below meth c D ads 4 87 7 po I A 0 [some (.inr (some 95)), some (.inl a1), some (.inl a2), some (.inl a3), none, none, none] []
  refine g_blk hC _ bX1_topOf_0_6 (pc' := 6) (ls' := [some (.inr (some 95)), some (.inl a1), some (.inl a2), some (.inl a3), none, none, none]) (st' := [.inl a2, .inl a1, .inr (some 29)]) (I' := I) rfl rfl ?_
  obtain ⟨hp1, hv⟩ := hv
  refine g_callV hC (c_X6_spotOf l D ads I A a1 a2 hp1) dX1_topOf_6 nm_X6_spotOf rfl rfl wl_X1_34 wi_X6_spotOf ws_X6_spotOf wn_X6 wc_X6_spotOf ⟨by decide, by decide⟩ (as := [.inl a1, .inl a2]) (rest := []) rfl (Nat.le_of_ble_eq_true rfl) ⟨Nat.le_refl _, Nat.le_refl _⟩ (k_qI ?_)
  refine g_blk hC _ bX1_topOf_9_17 (pc' := 17) (ls' := [some (.inr (some 95)), some (.inl a1), some (.inl a2), some (.inl a3), some (.inl (spO I A a1 a2)), some (.inl 0), some (.inl 0)]) (st' := []) (I' := I) rfl rfl ?_
  obtain ⟨hi17, hb17⟩ := hv
  have L17 : ∀ (n : Nat) (x5_17 : Int32) (x6_17 : Int32), Iv17 x5_17 x6_17 → mu17 x5_17 x6_17 < n → Gm p l e s m args below meth c D ads 4 87 7 po I A 17 [some (.inr (some 95)), some (.inl a1), none, some (.inl a3), some (.inl (spO I A a1 a2)), some (.inl x5_17), some (.inl x6_17)] [] := by
    intro n
    induction n with
    | zero => intro x5_17 x6_17 _ hn; exact absurd hn (Nat.not_lt_zero _)
    | succ n ih17 =>
      intro x5_17 x6_17 hv hn17
      replace hv := hb17 x5_17 x6_17 hv
      skip
      refine g_blk hC _ bX1_topOf_17_21 (pc' := 21) (ls' := [some (.inr (some 95)), some (.inl a1), none, some (.inl a3), some (.inl (spO I A a1 a2)), some (.inl x5_17), some (.inl x6_17)]) (st' := [.inl (spO I A a1 a2), .inl x6_17]) (I' := I) rfl rfl ?_
      obtain ⟨hv1, hv2⟩ := hv
      refine g_cge hC dX1_topOf_21 (tgt := 51) (by decide) (fun hc => ?_) (fun hc => ?_)
      · have hv := hv1 hc
        clear hv1 hv2 hc
        refine g_blk hC _ bX1_topOf_51_53 (pc' := 53) (ls' := [some (.inr (some 95)), some (.inl a1), none, some (.inl a3), some (.inl (spO I A a1 a2)), some (.inl x5_17), some (.inl x6_17)]) (st' := [.inl x5_17]) (I' := I) rfl rfl ?_
        exact g_reti hC hr rfl dX1_topOf_53 hv
      · have hv := hv2 hc
        clear hv1 hv2 hc
        refine g_blk hC _ bX1_topOf_24_34 (pc' := 34) (ls' := [some (.inr (some 95)), some (.inl a1), none, some (.inl a3), some (.inl (spO I A a1 a2)), some (.inl x5_17), some (.inl x6_17)]) (st' := [.inl x6_17, .inl a1, .inr (some 29), .inr (some 95), .inl x5_17]) (I' := I) rfl rfl ?_
        obtain ⟨hp2, hv⟩ := hv
        refine g_callV hC (c_X6_shownAt l D ads I A a1 x6_17 hp2) dX1_topOf_34 nm_X6_shownAt rfl rfl wl_X1_39 wi_X6_shownAt ws_X6_shownAt wn_X6 wc_X6_shownAt ⟨by decide, by decide⟩ (as := [.inl a1, .inl x6_17]) (rest := [.inr (some 95), .inl x5_17]) rfl (Nat.le_of_ble_eq_true rfl) ⟨Nat.le_refl _, Nat.le_refl _⟩ (k_qI ?_)
        obtain ⟨hp3, hv⟩ := hv
        refine g_callV hC (c_X1_sizeOf l D ads I A (shO I A a1 x6_17) hp3) dX1_topOf_37 nm_X1_sizeOf rfl rfl wl_X1_42 wi_X1_sizeOf ws_X1_sizeOf wn_X1 wc_X1_sizeOf ⟨by decide, by decide⟩ (as := [.inl (shO I A a1 x6_17)]) (rest := [.inl x5_17]) rfl (Nat.le_of_ble_eq_true rfl) ⟨Nat.le_refl _, Nat.le_refl _⟩ (k_qI ?_)
        refine g_blk hC _ bX1_topOf_40_48 (pc' := 48) (ls' := [some (.inr (some 95)), some (.inl a1), none, some (.inl a3), some (.inl (spO I A a1 a2)), some (.inl (x5_17 + ((szO A (shO I A a1 x6_17)) + a3))), some (.inl (x6_17 + 1))]) (st' := []) (I' := I) rfl rfl ?_
        refine g_goto hC dX1_topOf_48 (tgt := 17) (by decide) ?_
        exact g_weak (ls1 := [some (.inr (some 95)), some (.inl a1), none, some (.inl a3), some (.inl (spO I A a1 a2)), some (.inl (x5_17 + ((szO A (shO I A a1 x6_17)) + a3))), some (.inl (x6_17 + 1))]) rfl (And.intro rfl (And.intro rfl (And.intro rfl (And.intro rfl (And.intro rfl (And.intro rfl trivial)))))) (ih17 (x5_17 + ((szO A (shO I A a1 x6_17)) + a3)) (x6_17 + 1) hv.1 (Nat.lt_of_lt_of_le hv.2 (Nat.le_of_lt_succ hn17)))
  exact g_weak (ls1 := [some (.inr (some 95)), some (.inl a1), none, some (.inl a3), some (.inl (spO I A a1 a2)), some (.inl 0), some (.inl 0)]) rfl (And.intro rfl (And.intro rfl (And.intro rfl (And.intro rfl (And.intro rfl (And.intro rfl trivial)))))) (L17 _ 0 0 hi17 (Nat.lt_succ_self _))
set_option maxHeartbeats 4000000 in
set_option maxRecDepth 100000 in
theorem c_X1_topOf (l : Launch) (D : va_G) (ads : AD) (I A : HI) (a1 : Int32) (a2 : Int32) (a3 : Int32) (hp : tpO0 I A a1) : Ct l yX1_topOf cX1_topOf 7 (some .int) 4 87 D ads shp [.inr (some 95), .inl a1, .inl a2, .inl a3] I A (qI (tpO I A a1 a2 a3) I A) := by
  sorry
theorem bX1_endOf_0_6 : okB cX1_endOf RX1 0 [(3, 3, 0, 0, 0), (5, 0, 0, 0, 0), (23, 9, 1, 0, 0), (3, 1, 0, 0, 0)] := And.intro ⟨_, dX1_endOf_0, rfl⟩ (And.intro ⟨_, dX1_endOf_1, rfl⟩ (And.intro ⟨dX1_endOf_2, fl_X1_9⟩ (And.intro ⟨_, dX1_endOf_5, rfl⟩ trivial)))
theorem bX1_endOf_14_23 : okB cX1_endOf RX1 14 [(5, 0, 0, 0, 0), (3, 3, 0, 0, 0), (5, 0, 0, 0, 0), (23, 9, 1, 0, 0), (3, 1, 0, 0, 0), (3, 2, 0, 0, 0), (3, 3, 0, 0, 0)] := And.intro ⟨_, dX1_endOf_14, rfl⟩ (And.intro ⟨_, dX1_endOf_15, rfl⟩ (And.intro ⟨_, dX1_endOf_16, rfl⟩ (And.intro ⟨dX1_endOf_17, fl_X1_9⟩ (And.intro ⟨_, dX1_endOf_20, rfl⟩ (And.intro ⟨_, dX1_endOf_21, rfl⟩ (And.intro ⟨_, dX1_endOf_22, rfl⟩ trivial))))))
theorem bX1_endOf_26_28 : okB cX1_endOf RX1 26 [(4, 4, 0, 0, 0)] := And.intro dX1_endOf_26 trivial
theorem bX1_endOf_31_39 : okB cX1_endOf RX1 31 [(8, 5, 0, 0, 0), (3, 3, 0, 0, 0), (5, 0, 0, 0, 0), (23, 9, 1, 0, 0), (3, 2, 0, 0, 0)] := And.intro dX1_endOf_31 (And.intro ⟨_, dX1_endOf_33, rfl⟩ (And.intro ⟨_, dX1_endOf_34, rfl⟩ (And.intro ⟨dX1_endOf_35, fl_X1_9⟩ (And.intro ⟨_, dX1_endOf_38, rfl⟩ trivial))))
theorem bX1_endOf_48_64 : okB cX1_endOf RX1 48 [(5, 0, 0, 0, 0), (23, 15, 1, 1, 0), (3, 3, 0, 0, 0), (0, 0, 0, 0, 1), (13, 0, 0, 0, 0), (5, 0, 0, 0, 0), (23, 9, 1, 0, 0), (3, 1, 0, 0, 0), (3, 2, 0, 0, 0), (3, 3, 0, 0, 0), (0, 0, 0, 0, 1), (13, 0, 0, 0, 0)] := And.intro ⟨_, dX1_endOf_48, rfl⟩ (And.intro ⟨dX1_endOf_49, fl_X1_15⟩ (And.intro ⟨_, dX1_endOf_52, rfl⟩ (And.intro ⟨_, dX1_endOf_53, by decide⟩ (And.intro dX1_endOf_54 (And.intro ⟨_, dX1_endOf_55, rfl⟩ (And.intro ⟨dX1_endOf_56, fl_X1_9⟩ (And.intro ⟨_, dX1_endOf_59, rfl⟩ (And.intro ⟨_, dX1_endOf_60, rfl⟩ (And.intro ⟨_, dX1_endOf_61, rfl⟩ (And.intro ⟨_, dX1_endOf_62, by decide⟩ (And.intro dX1_endOf_63 trivial)))))))))))
theorem bX1_endOf_70_75 : okB cX1_endOf RX1 70 [(8, 6, 0, 0, 0), (0, 0, 0, 0, 0), (8, 7, 0, 0, 0)] := And.intro dX1_endOf_70 (And.intro ⟨_, dX1_endOf_72, by decide⟩ (And.intro dX1_endOf_73 trivial))
theorem bX1_endOf_75_79 : okB cX1_endOf RX1 75 [(4, 7, 0, 0, 0), (1, 0, 0, 0, 10)] := And.intro dX1_endOf_75 (And.intro ⟨_, dX1_endOf_77, by decide⟩ trivial)
theorem bX1_endOf_140_142 : okB cX1_endOf RX1 140 [(4, 5, 0, 0, 0)] := And.intro dX1_endOf_140 trivial
theorem bX1_endOf_82_89 : okB cX1_endOf RX1 82 [(5, 0, 0, 0, 0), (23, 9, 1, 0, 0), (4, 7, 0, 0, 0), (3, 2, 0, 0, 0)] := And.intro ⟨_, dX1_endOf_82, rfl⟩ (And.intro ⟨dX1_endOf_83, fl_X1_9⟩ (And.intro dX1_endOf_86 (And.intro ⟨_, dX1_endOf_88, rfl⟩ trivial)))
theorem bX1_endOf_92_96 : okB cX1_endOf RX1 92 [(8, 8, 0, 0, 0), (4, 8, 0, 0, 0)] := And.intro dX1_endOf_92 (And.intro dX1_endOf_94 trivial)
theorem bX1_endOf_134_137 : okB cX1_endOf RX1 134 [(11, 7, 0, 0, 1)] := And.intro ⟨_, dX1_endOf_134, by decide⟩ trivial
theorem bX1_endOf_99_116 : okB cX1_endOf RX1 99 [(5, 0, 0, 0, 0), (23, 15, 1, 1, 0), (3, 3, 0, 0, 0), (0, 0, 0, 0, 1), (13, 0, 0, 0, 0), (5, 0, 0, 0, 0), (23, 9, 1, 0, 0), (4, 7, 0, 0, 0), (3, 2, 0, 0, 0), (3, 3, 0, 0, 0), (0, 0, 0, 0, 1), (13, 0, 0, 0, 0)] := And.intro ⟨_, dX1_endOf_99, rfl⟩ (And.intro ⟨dX1_endOf_100, fl_X1_15⟩ (And.intro ⟨_, dX1_endOf_103, rfl⟩ (And.intro ⟨_, dX1_endOf_104, by decide⟩ (And.intro dX1_endOf_105 (And.intro ⟨_, dX1_endOf_106, rfl⟩ (And.intro ⟨dX1_endOf_107, fl_X1_9⟩ (And.intro dX1_endOf_110 (And.intro ⟨_, dX1_endOf_112, rfl⟩ (And.intro ⟨_, dX1_endOf_113, rfl⟩ (And.intro ⟨_, dX1_endOf_114, by decide⟩ (And.intro dX1_endOf_115 trivial)))))))))))
theorem bX1_endOf_122_124 : okB cX1_endOf RX1 122 [(4, 6, 0, 0, 0)] := And.intro dX1_endOf_122 trivial
theorem bX1_endOf_127_137 : okB cX1_endOf RX1 127 [(4, 5, 0, 0, 0), (4, 8, 0, 0, 0), (12, 0, 0, 0, 0), (8, 5, 0, 0, 0), (11, 7, 0, 0, 1)] := And.intro dX1_endOf_127 (And.intro dX1_endOf_129 (And.intro dX1_endOf_131 (And.intro dX1_endOf_132 (And.intro ⟨_, dX1_endOf_134, by decide⟩ trivial))))
theorem bX1_endOf_45_47 : okB cX1_endOf RX1 45 [(4, 5, 0, 0, 0)] := And.intro dX1_endOf_45 trivial
theorem bX1_endOf_12_13 : okB cX1_endOf RX1 12 [(0, 0, 0, 0, (-1))] := And.intro ⟨_, dX1_endOf_12, by decide⟩ trivial
set_option maxHeartbeats 4000000 in
set_option maxRecDepth 100000 in
theorem k_X1_endOf (l : Launch) (D : va_G) (ads : AD) (I A : HI) (a1 : Int32) (a2 : Int32) (a3 : Int32) (a4 : Int32) (po : Option AV → HI → HI → Prop) (Iv75 : Int32 → Int32 → Prop) (mu75 : Int32 → Int32 → Nat)
    (hv : ((vp_in a1 10) ∧ ((¬ a3 = (A 11 a1.toNatClampNeg) → ((vp_in a1 10 ∧ vp_in a2 10) ∧ ((tpO0 I A a3) ∧ ((vp_in a2 10) ∧ ((a3 = (A 11 a2.toNatClampNeg) → ((vp_in a1 10 ∧ vp_in a2 10) ∧ ((spO0 I A (a3 - 1)) ∧ (Iv75 (tpO I A a3 (itmI (A 11) a1 a2 a3) a4) 0 ∧ ∀ (x5_75 : Int32) (x7_75 : Int32), Iv75 x5_75 x7_75 → ((10 ≤ x7_75 → po (some (.inl x5_75)) I A) ∧ (¬ 10 ≤ x7_75 → (((strI A x7_75 a2) ≤ 0 → (Iv75 x5_75 (x7_75 + 1) ∧ mu75 x5_75 (x7_75 + 1) < mu75 x5_75 x7_75)) ∧ (¬ (strI A x7_75 a2) ≤ 0 → ((vp_in x7_75 10 ∧ vp_in a2 10) ∧ ((spO0 I A (a3 - 1)) ∧ (((spO I A (a3 - 1) (itmI (A 11) a1 a2 (a3 - 1))) ≤ (spO I A (a3 - 1) (itmI (A 11) x7_75 a2 (a3 - 1))) → (Iv75 x5_75 (x7_75 + 1) ∧ mu75 x5_75 (x7_75 + 1) < mu75 x5_75 x7_75)) ∧ (¬ (spO I A (a3 - 1) (itmI (A 11) a1 a2 (a3 - 1))) ≤ (spO I A (a3 - 1) (itmI (A 11) x7_75 a2 (a3 - 1))) → (Iv75 (x5_75 + (strI A x7_75 a2)) (x7_75 + 1) ∧ mu75 (x5_75 + (strI A x7_75 a2)) (x7_75 + 1) < mu75 x5_75 x7_75))))))))))))) ∧ (¬ a3 = (A 11 a2.toNatClampNeg) → po (some (.inl (tpO I A a3 (itmI (A 11) a1 a2 a3) a4))) I A)))))) ∧ (a3 = (A 11 a1.toNatClampNeg) → po (some (.inl ((-1)))) I A)))) : Ct l yX1_endOf cX1_endOf 9 (some .int) 5 113 D ads shp [.inr (some 95), .inl a1, .inl a2, .inl a3, .inl a4] I A po := by
  refine Ct_of (by decide) (Nat.le_of_ble_eq_true rfl) ?_
  intro p e s m args below meth c hC hr
  replace hC : CX p s m args meth c cX1_endOf 9 RX1 (AdS ads s.heap.size) := hC
  show Gm p l e s m args below meth c D ads 5 113 9 po I A 0 [some (.inr (some 95)), some (.inl a1), some (.inl a2), some (.inl a3), some (.inl a4), none, none, none, none] []
  refine g_blk hC _ bX1_endOf_0_6 (pc' := 6) (ls' := [some (.inr (some 95)), some (.inl a1), some (.inl a2), some (.inl a3), some (.inl a4), none, none, none, none]) (st' := [.inl a1, .inr (some 3), .inl a3]) (I' := I) rfl rfl ?_
  obtain ⟨hp1, hv⟩ := hv
  refine g_callV hC (c_X5_layerOf l D ads I A a1 hp1) dX1_endOf_6 nm_X5_layerOf rfl rfl wl_X1_46 wi_X5_layerOf ws_X5_layerOf wn_X5 wc_X5_layerOf ⟨by decide, by decide⟩ (as := [.inl a1]) (rest := [.inl a3]) rfl (Nat.le_of_ble_eq_true rfl) ⟨Nat.le_refl _, Nat.le_refl _⟩ (k_qI ?_)
  obtain ⟨hv1, hv2⟩ := hv
  refine g_cne hC dX1_endOf_9 (tgt := 14) (by decide) (fun hc => ?_) (fun hc => ?_)
  · have hv := hv1 hc
    clear hv1 hv2 hc
    refine g_blk hC _ bX1_endOf_14_23 (pc' := 23) (ls' := [some (.inr (some 95)), some (.inl a1), some (.inl a2), some (.inl a3), some (.inl a4), none, none, none, none]) (st' := [.inl a3, .inl a2, .inl a1, .inr (some 3), .inl a3, .inr (some 95)]) (I' := I) rfl rfl ?_
    obtain ⟨hp2, hv⟩ := hv
    refine g_callV hC (c_X5_itemOf l D ads I A a1 a2 a3 hp2) dX1_endOf_23 nm_X5_itemOf rfl rfl wl_X1_49 wi_X5_itemOf ws_X5_itemOf wn_X5 wc_X5_itemOf ⟨by decide, by decide⟩ (as := [.inl a1, .inl a2, .inl a3]) (rest := [.inl a3, .inr (some 95)]) rfl (Nat.le_of_ble_eq_true rfl) ⟨Nat.le_refl _, Nat.le_refl _⟩ (k_qI ?_)
    refine g_blk hC _ bX1_endOf_26_28 (pc' := 28) (ls' := [some (.inr (some 95)), some (.inl a1), some (.inl a2), some (.inl a3), some (.inl a4), none, none, none, none]) (st' := [.inl a4, .inl (itmI (A 11) a1 a2 a3), .inl a3, .inr (some 95)]) (I' := I) rfl rfl ?_
    obtain ⟨hp3, hv⟩ := hv
    refine g_callV hC (c_X1_topOf l D ads I A a3 (itmI (A 11) a1 a2 a3) a4 hp3) dX1_endOf_28 nm_X1_topOf rfl rfl wl_X1_53 wi_X1_topOf ws_X1_topOf wn_X1 wc_X1_topOf ⟨by decide, by decide⟩ (as := [.inl a3, .inl (itmI (A 11) a1 a2 a3), .inl a4]) (rest := []) rfl (Nat.le_of_ble_eq_true rfl) ⟨Nat.le_refl _, Nat.le_refl _⟩ (k_qI ?_)
    refine g_blk hC _ bX1_endOf_31_39 (pc' := 39) (ls' := [some (.inr (some 95)), some (.inl a1), some (.inl a2), some (.inl a3), some (.inl a4), some (.inl (tpO I A a3 (itmI (A 11) a1 a2 a3) a4)), none, none, none]) (st' := [.inl a2, .inr (some 3), .inl a3]) (I' := I) rfl rfl ?_
    obtain ⟨hp4, hv⟩ := hv
    refine g_callV hC (c_X5_layerOf l D ads I A a2 hp4) dX1_endOf_39 nm_X5_layerOf rfl rfl wl_X1_46 wi_X5_layerOf ws_X5_layerOf wn_X5 wc_X5_layerOf ⟨by decide, by decide⟩ (as := [.inl a2]) (rest := [.inl a3]) rfl (Nat.le_of_ble_eq_true rfl) ⟨Nat.le_refl _, Nat.le_refl _⟩ (k_qI ?_)
    obtain ⟨hv1, hv2⟩ := hv
    refine g_ceq hC dX1_endOf_42 (tgt := 48) (by decide) (fun hc => ?_) (fun hc => ?_)
    · have hv := hv1 hc
      clear hv1 hv2 hc
      refine g_blk hC _ bX1_endOf_48_64 (pc' := 64) (ls' := [some (.inr (some 95)), some (.inl a1), some (.inl a2), some (.inl a3), some (.inl a4), some (.inl (tpO I A a3 (itmI (A 11) a1 a2 a3) a4)), none, none, none]) (st' := [.inl (a3 - 1), .inl a2, .inl a1, .inr (some 3), .inl (a3 - 1), .inr (some 29)]) (I' := I) rfl rfl ?_
      obtain ⟨hp5, hv⟩ := hv
      refine g_callV hC (c_X5_itemOf l D ads I A a1 a2 (a3 - 1) hp5) dX1_endOf_64 nm_X5_itemOf rfl rfl wl_X1_49 wi_X5_itemOf ws_X5_itemOf wn_X5 wc_X5_itemOf ⟨by decide, by decide⟩ (as := [.inl a1, .inl a2, .inl (a3 - 1)]) (rest := [.inl (a3 - 1), .inr (some 29)]) rfl (Nat.le_of_ble_eq_true rfl) ⟨Nat.le_refl _, Nat.le_refl _⟩ (k_qI ?_)
      obtain ⟨hp6, hv⟩ := hv
      refine g_callV hC (c_X6_spotOf l D ads I A (a3 - 1) (itmI (A 11) a1 a2 (a3 - 1)) hp6) dX1_endOf_67 nm_X6_spotOf rfl rfl wl_X1_34 wi_X6_spotOf ws_X6_spotOf wn_X6 wc_X6_spotOf ⟨by decide, by decide⟩ (as := [.inl (a3 - 1), .inl (itmI (A 11) a1 a2 (a3 - 1))]) (rest := []) rfl (Nat.le_of_ble_eq_true rfl) ⟨Nat.le_refl _, Nat.le_refl _⟩ (k_qI ?_)
      refine g_blk hC _ bX1_endOf_70_75 (pc' := 75) (ls' := [some (.inr (some 95)), some (.inl a1), some (.inl a2), some (.inl a3), some (.inl a4), some (.inl (tpO I A a3 (itmI (A 11) a1 a2 a3) a4)), some (.inl (spO I A (a3 - 1) (itmI (A 11) a1 a2 (a3 - 1)))), some (.inl 0), none]) (st' := []) (I' := I) rfl rfl ?_
      obtain ⟨hi75, hb75⟩ := hv
      have L75 : ∀ (n : Nat) (x5_75 : Int32) (x7_75 : Int32), Iv75 x5_75 x7_75 → mu75 x5_75 x7_75 < n → Gm p l e s m args below meth c D ads 5 113 9 po I A 75 [some (.inr (some 95)), none, some (.inl a2), some (.inl a3), none, some (.inl x5_75), some (.inl (spO I A (a3 - 1) (itmI (A 11) a1 a2 (a3 - 1)))), some (.inl x7_75), none] [] := by
        intro n
        induction n with
        | zero => intro x5_75 x7_75 _ hn; exact absurd hn (Nat.not_lt_zero _)
        | succ n ih75 =>
          intro x5_75 x7_75 hv hn75
          replace hv := hb75 x5_75 x7_75 hv
          skip
          refine g_blk hC _ bX1_endOf_75_79 (pc' := 79) (ls' := [some (.inr (some 95)), none, some (.inl a2), some (.inl a3), none, some (.inl x5_75), some (.inl (spO I A (a3 - 1) (itmI (A 11) a1 a2 (a3 - 1)))), some (.inl x7_75), none]) (st' := [.inl 10, .inl x7_75]) (I' := I) rfl rfl ?_
          obtain ⟨hv1, hv2⟩ := hv
          refine g_cge hC dX1_endOf_79 (tgt := 140) (by decide) (fun hc => ?_) (fun hc => ?_)
          · have hv := hv1 hc
            clear hv1 hv2 hc
            refine g_blk hC _ bX1_endOf_140_142 (pc' := 142) (ls' := [some (.inr (some 95)), none, some (.inl a2), some (.inl a3), none, some (.inl x5_75), some (.inl (spO I A (a3 - 1) (itmI (A 11) a1 a2 (a3 - 1)))), some (.inl x7_75), none]) (st' := [.inl x5_75]) (I' := I) rfl rfl ?_
            exact g_reti hC hr rfl dX1_endOf_142 hv
          · have hv := hv2 hc
            clear hv1 hv2 hc
            refine g_blk hC _ bX1_endOf_82_89 (pc' := 89) (ls' := [some (.inr (some 95)), none, some (.inl a2), some (.inl a3), none, some (.inl x5_75), some (.inl (spO I A (a3 - 1) (itmI (A 11) a1 a2 (a3 - 1)))), some (.inl x7_75), none]) (st' := [.inl a2, .inl x7_75, .inr (some 3)]) (I' := I) rfl rfl ?_
            refine g_callV hC (c_X5_straight l D ads I A x7_75 a2) dX1_endOf_89 nm_X5_straight rfl rfl wl_X1_23 wi_X5_straight ws_X5_straight wn_X5 wc_X5_straight ⟨by decide, by decide⟩ (as := [.inl x7_75, .inl a2]) (rest := []) rfl (Nat.le_of_ble_eq_true rfl) ⟨Nat.le_refl _, Nat.le_refl _⟩ (k_qI ?_)
            refine g_blk hC _ bX1_endOf_92_96 (pc' := 96) (ls' := [some (.inr (some 95)), none, some (.inl a2), some (.inl a3), none, some (.inl x5_75), some (.inl (spO I A (a3 - 1) (itmI (A 11) a1 a2 (a3 - 1)))), some (.inl x7_75), some (.inl (strI A x7_75 a2))]) (st' := [.inl (strI A x7_75 a2)]) (I' := I) rfl rfl ?_
            obtain ⟨hv1, hv2⟩ := hv
            refine g_ifle hC dX1_endOf_96 (tgt := 134) (by decide) (fun hc => ?_) (fun hc => ?_)
            · have hv := hv1 hc
              clear hv1 hv2 hc
              refine g_blk hC _ bX1_endOf_134_137 (pc' := 137) (ls' := [some (.inr (some 95)), none, some (.inl a2), some (.inl a3), none, some (.inl x5_75), some (.inl (spO I A (a3 - 1) (itmI (A 11) a1 a2 (a3 - 1)))), some (.inl (x7_75 + 1)), some (.inl (strI A x7_75 a2))]) (st' := []) (I' := I) rfl rfl ?_
              refine g_goto hC dX1_endOf_137 (tgt := 75) (by decide) ?_
              exact g_weak (ls1 := [some (.inr (some 95)), none, some (.inl a2), some (.inl a3), none, some (.inl x5_75), some (.inl (spO I A (a3 - 1) (itmI (A 11) a1 a2 (a3 - 1)))), some (.inl (x7_75 + 1)), none]) rfl (And.intro rfl (And.intro rfl (And.intro rfl (And.intro rfl (And.intro rfl (And.intro rfl trivial)))))) (ih75 x5_75 (x7_75 + 1) hv.1 (Nat.lt_of_lt_of_le hv.2 (Nat.le_of_lt_succ hn75)))
            · have hv := hv2 hc
              clear hv1 hv2 hc
              refine g_blk hC _ bX1_endOf_99_116 (pc' := 116) (ls' := [some (.inr (some 95)), none, some (.inl a2), some (.inl a3), none, some (.inl x5_75), some (.inl (spO I A (a3 - 1) (itmI (A 11) a1 a2 (a3 - 1)))), some (.inl x7_75), some (.inl (strI A x7_75 a2))]) (st' := [.inl (a3 - 1), .inl a2, .inl x7_75, .inr (some 3), .inl (a3 - 1), .inr (some 29)]) (I' := I) rfl rfl ?_
              obtain ⟨hp8, hv⟩ := hv
              refine g_callV hC (c_X5_itemOf l D ads I A x7_75 a2 (a3 - 1) hp8) dX1_endOf_116 nm_X5_itemOf rfl rfl wl_X1_49 wi_X5_itemOf ws_X5_itemOf wn_X5 wc_X5_itemOf ⟨by decide, by decide⟩ (as := [.inl x7_75, .inl a2, .inl (a3 - 1)]) (rest := [.inl (a3 - 1), .inr (some 29)]) rfl (Nat.le_of_ble_eq_true rfl) ⟨Nat.le_refl _, Nat.le_refl _⟩ (k_qI ?_)
              obtain ⟨hp9, hv⟩ := hv
              refine g_callV hC (c_X6_spotOf l D ads I A (a3 - 1) (itmI (A 11) x7_75 a2 (a3 - 1)) hp9) dX1_endOf_119 nm_X6_spotOf rfl rfl wl_X1_34 wi_X6_spotOf ws_X6_spotOf wn_X6 wc_X6_spotOf ⟨by decide, by decide⟩ (as := [.inl (a3 - 1), .inl (itmI (A 11) x7_75 a2 (a3 - 1))]) (rest := []) rfl (Nat.le_of_ble_eq_true rfl) ⟨Nat.le_refl _, Nat.le_refl _⟩ (k_qI ?_)
              refine g_blk hC _ bX1_endOf_122_124 (pc' := 124) (ls' := [some (.inr (some 95)), none, some (.inl a2), some (.inl a3), none, some (.inl x5_75), some (.inl (spO I A (a3 - 1) (itmI (A 11) a1 a2 (a3 - 1)))), some (.inl x7_75), some (.inl (strI A x7_75 a2))]) (st' := [.inl (spO I A (a3 - 1) (itmI (A 11) a1 a2 (a3 - 1))), .inl (spO I A (a3 - 1) (itmI (A 11) x7_75 a2 (a3 - 1)))]) (I' := I) rfl rfl ?_
              obtain ⟨hv1, hv2⟩ := hv
              refine g_cge hC dX1_endOf_124 (tgt := 134) (by decide) (fun hc => ?_) (fun hc => ?_)
              · have hv := hv1 hc
                clear hv1 hv2 hc
                refine g_blk hC _ bX1_endOf_134_137 (pc' := 137) (ls' := [some (.inr (some 95)), none, some (.inl a2), some (.inl a3), none, some (.inl x5_75), some (.inl (spO I A (a3 - 1) (itmI (A 11) a1 a2 (a3 - 1)))), some (.inl (x7_75 + 1)), some (.inl (strI A x7_75 a2))]) (st' := []) (I' := I) rfl rfl ?_
                refine g_goto hC dX1_endOf_137 (tgt := 75) (by decide) ?_
                exact g_weak (ls1 := [some (.inr (some 95)), none, some (.inl a2), some (.inl a3), none, some (.inl x5_75), some (.inl (spO I A (a3 - 1) (itmI (A 11) a1 a2 (a3 - 1)))), some (.inl (x7_75 + 1)), none]) rfl (And.intro rfl (And.intro rfl (And.intro rfl (And.intro rfl (And.intro rfl (And.intro rfl trivial)))))) (ih75 x5_75 (x7_75 + 1) hv.1 (Nat.lt_of_lt_of_le hv.2 (Nat.le_of_lt_succ hn75)))
              · have hv := hv2 hc
                clear hv1 hv2 hc
                refine g_blk hC _ bX1_endOf_127_137 (pc' := 137) (ls' := [some (.inr (some 95)), none, some (.inl a2), some (.inl a3), none, some (.inl (x5_75 + (strI A x7_75 a2))), some (.inl (spO I A (a3 - 1) (itmI (A 11) a1 a2 (a3 - 1)))), some (.inl (x7_75 + 1)), some (.inl (strI A x7_75 a2))]) (st' := []) (I' := I) rfl rfl ?_
                refine g_goto hC dX1_endOf_137 (tgt := 75) (by decide) ?_
                exact g_weak (ls1 := [some (.inr (some 95)), none, some (.inl a2), some (.inl a3), none, some (.inl (x5_75 + (strI A x7_75 a2))), some (.inl (spO I A (a3 - 1) (itmI (A 11) a1 a2 (a3 - 1)))), some (.inl (x7_75 + 1)), none]) rfl (And.intro rfl (And.intro rfl (And.intro rfl (And.intro rfl (And.intro rfl (And.intro rfl trivial)))))) (ih75 (x5_75 + (strI A x7_75 a2)) (x7_75 + 1) hv.1 (Nat.lt_of_lt_of_le hv.2 (Nat.le_of_lt_succ hn75)))
      exact g_weak (ls1 := [some (.inr (some 95)), none, some (.inl a2), some (.inl a3), none, some (.inl (tpO I A a3 (itmI (A 11) a1 a2 a3) a4)), some (.inl (spO I A (a3 - 1) (itmI (A 11) a1 a2 (a3 - 1)))), some (.inl 0), none]) rfl (And.intro rfl (And.intro rfl (And.intro rfl (And.intro rfl (And.intro rfl (And.intro rfl trivial)))))) (L75 _ (tpO I A a3 (itmI (A 11) a1 a2 a3) a4) 0 hi75 (Nat.lt_succ_self _))
    · have hv := hv2 hc
      clear hv1 hv2 hc
      refine g_blk hC _ bX1_endOf_45_47 (pc' := 47) (ls' := [some (.inr (some 95)), some (.inl a1), some (.inl a2), some (.inl a3), some (.inl a4), some (.inl (tpO I A a3 (itmI (A 11) a1 a2 a3) a4)), none, none, none]) (st' := [.inl (tpO I A a3 (itmI (A 11) a1 a2 a3) a4)]) (I' := I) rfl rfl ?_
      exact g_reti hC hr rfl dX1_endOf_47 hv
  · have hv := hv2 hc
    clear hv1 hv2 hc
    refine g_blk hC _ bX1_endOf_12_13 (pc' := 13) (ls' := [some (.inr (some 95)), some (.inl a1), some (.inl a2), some (.inl a3), some (.inl a4), none, none, none, none]) (st' := [.inl ((-1))]) (I' := I) rfl rfl ?_
    exact g_reti hC hr rfl dX1_endOf_13 hv
set_option maxHeartbeats 4000000 in
set_option maxRecDepth 100000 in
theorem c_X1_endOf (l : Launch) (D : va_G) (ads : AD) (I A : HI) (a1 : Int32) (a2 : Int32) (a3 : Int32) (a4 : Int32) (hp : enO0 I A a1 a2 a3) : Ct l yX1_endOf cX1_endOf 9 (some .int) 5 113 D ads shp [.inr (some 95), .inl a1, .inl a2, .inl a3, .inl a4] I A (qI (enO I A a1 a2 a3 a4) I A) := by
  sorry
theorem bX1_beginOf_0_6 : okB cX1_beginOf RX1 0 [(3, 3, 0, 0, 0), (5, 0, 0, 0, 0), (23, 9, 1, 0, 0), (3, 2, 0, 0, 0)] := And.intro ⟨_, dX1_beginOf_0, rfl⟩ (And.intro ⟨_, dX1_beginOf_1, rfl⟩ (And.intro ⟨dX1_beginOf_2, fl_X1_9⟩ (And.intro ⟨_, dX1_beginOf_5, rfl⟩ trivial)))
theorem bX1_beginOf_14_23 : okB cX1_beginOf RX1 14 [(5, 0, 0, 0, 0), (3, 3, 0, 0, 0), (5, 0, 0, 0, 0), (23, 9, 1, 0, 0), (3, 1, 0, 0, 0), (3, 2, 0, 0, 0), (3, 3, 0, 0, 0)] := And.intro ⟨_, dX1_beginOf_14, rfl⟩ (And.intro ⟨_, dX1_beginOf_15, rfl⟩ (And.intro ⟨_, dX1_beginOf_16, rfl⟩ (And.intro ⟨dX1_beginOf_17, fl_X1_9⟩ (And.intro ⟨_, dX1_beginOf_20, rfl⟩ (And.intro ⟨_, dX1_beginOf_21, rfl⟩ (And.intro ⟨_, dX1_beginOf_22, rfl⟩ trivial))))))
theorem bX1_beginOf_26_28 : okB cX1_beginOf RX1 26 [(4, 4, 0, 0, 0)] := And.intro dX1_beginOf_26 trivial
theorem bX1_beginOf_31_39 : okB cX1_beginOf RX1 31 [(8, 5, 0, 0, 0), (3, 3, 0, 0, 0), (5, 0, 0, 0, 0), (23, 9, 1, 0, 0), (3, 1, 0, 0, 0)] := And.intro dX1_beginOf_31 (And.intro ⟨_, dX1_beginOf_33, rfl⟩ (And.intro ⟨_, dX1_beginOf_34, rfl⟩ (And.intro ⟨dX1_beginOf_35, fl_X1_9⟩ (And.intro ⟨_, dX1_beginOf_38, rfl⟩ trivial))))
theorem bX1_beginOf_48_64 : okB cX1_beginOf RX1 48 [(5, 0, 0, 0, 0), (23, 15, 1, 1, 0), (3, 3, 0, 0, 0), (0, 0, 0, 0, 1), (12, 0, 0, 0, 0), (5, 0, 0, 0, 0), (23, 9, 1, 0, 0), (3, 1, 0, 0, 0), (3, 2, 0, 0, 0), (3, 3, 0, 0, 0), (0, 0, 0, 0, 1), (12, 0, 0, 0, 0)] := And.intro ⟨_, dX1_beginOf_48, rfl⟩ (And.intro ⟨dX1_beginOf_49, fl_X1_15⟩ (And.intro ⟨_, dX1_beginOf_52, rfl⟩ (And.intro ⟨_, dX1_beginOf_53, by decide⟩ (And.intro dX1_beginOf_54 (And.intro ⟨_, dX1_beginOf_55, rfl⟩ (And.intro ⟨dX1_beginOf_56, fl_X1_9⟩ (And.intro ⟨_, dX1_beginOf_59, rfl⟩ (And.intro ⟨_, dX1_beginOf_60, rfl⟩ (And.intro ⟨_, dX1_beginOf_61, rfl⟩ (And.intro ⟨_, dX1_beginOf_62, by decide⟩ (And.intro dX1_beginOf_63 trivial)))))))))))
theorem bX1_beginOf_70_75 : okB cX1_beginOf RX1 70 [(8, 6, 0, 0, 0), (0, 0, 0, 0, 0), (8, 7, 0, 0, 0)] := And.intro dX1_beginOf_70 (And.intro ⟨_, dX1_beginOf_72, by decide⟩ (And.intro dX1_beginOf_73 trivial))
theorem bX1_beginOf_75_79 : okB cX1_beginOf RX1 75 [(4, 7, 0, 0, 0), (1, 0, 0, 0, 10)] := And.intro dX1_beginOf_75 (And.intro ⟨_, dX1_beginOf_77, by decide⟩ trivial)
theorem bX1_beginOf_140_142 : okB cX1_beginOf RX1 140 [(4, 5, 0, 0, 0)] := And.intro dX1_beginOf_140 trivial
theorem bX1_beginOf_82_89 : okB cX1_beginOf RX1 82 [(5, 0, 0, 0, 0), (23, 9, 1, 0, 0), (3, 1, 0, 0, 0), (4, 7, 0, 0, 0)] := And.intro ⟨_, dX1_beginOf_82, rfl⟩ (And.intro ⟨dX1_beginOf_83, fl_X1_9⟩ (And.intro ⟨_, dX1_beginOf_86, rfl⟩ (And.intro dX1_beginOf_87 trivial)))
theorem bX1_beginOf_92_96 : okB cX1_beginOf RX1 92 [(8, 8, 0, 0, 0), (4, 8, 0, 0, 0)] := And.intro dX1_beginOf_92 (And.intro dX1_beginOf_94 trivial)
theorem bX1_beginOf_134_137 : okB cX1_beginOf RX1 134 [(11, 7, 0, 0, 1)] := And.intro ⟨_, dX1_beginOf_134, by decide⟩ trivial
theorem bX1_beginOf_99_116 : okB cX1_beginOf RX1 99 [(5, 0, 0, 0, 0), (23, 15, 1, 1, 0), (3, 3, 0, 0, 0), (0, 0, 0, 0, 1), (12, 0, 0, 0, 0), (5, 0, 0, 0, 0), (23, 9, 1, 0, 0), (3, 1, 0, 0, 0), (4, 7, 0, 0, 0), (3, 3, 0, 0, 0), (0, 0, 0, 0, 1), (12, 0, 0, 0, 0)] := And.intro ⟨_, dX1_beginOf_99, rfl⟩ (And.intro ⟨dX1_beginOf_100, fl_X1_15⟩ (And.intro ⟨_, dX1_beginOf_103, rfl⟩ (And.intro ⟨_, dX1_beginOf_104, by decide⟩ (And.intro dX1_beginOf_105 (And.intro ⟨_, dX1_beginOf_106, rfl⟩ (And.intro ⟨dX1_beginOf_107, fl_X1_9⟩ (And.intro ⟨_, dX1_beginOf_110, rfl⟩ (And.intro dX1_beginOf_111 (And.intro ⟨_, dX1_beginOf_113, rfl⟩ (And.intro ⟨_, dX1_beginOf_114, by decide⟩ (And.intro dX1_beginOf_115 trivial)))))))))))
theorem bX1_beginOf_122_124 : okB cX1_beginOf RX1 122 [(4, 6, 0, 0, 0)] := And.intro dX1_beginOf_122 trivial
theorem bX1_beginOf_127_137 : okB cX1_beginOf RX1 127 [(4, 5, 0, 0, 0), (4, 8, 0, 0, 0), (12, 0, 0, 0, 0), (8, 5, 0, 0, 0), (11, 7, 0, 0, 1)] := And.intro dX1_beginOf_127 (And.intro dX1_beginOf_129 (And.intro dX1_beginOf_131 (And.intro dX1_beginOf_132 (And.intro ⟨_, dX1_beginOf_134, by decide⟩ trivial))))
theorem bX1_beginOf_45_47 : okB cX1_beginOf RX1 45 [(4, 5, 0, 0, 0)] := And.intro dX1_beginOf_45 trivial
theorem bX1_beginOf_12_13 : okB cX1_beginOf RX1 12 [(0, 0, 0, 0, (-1))] := And.intro ⟨_, dX1_beginOf_12, by decide⟩ trivial
set_option maxHeartbeats 4000000 in
set_option maxRecDepth 100000 in
theorem k_X1_beginOf (l : Launch) (D : va_G) (ads : AD) (I A : HI) (a1 : Int32) (a2 : Int32) (a3 : Int32) (a4 : Int32) (po : Option AV → HI → HI → Prop) (Iv75 : Int32 → Int32 → Prop) (mu75 : Int32 → Int32 → Nat)
    (hv : ((vp_in a2 10) ∧ ((¬ a3 = (A 11 a2.toNatClampNeg) → ((vp_in a1 10 ∧ vp_in a2 10) ∧ ((tpO0 I A a3) ∧ ((vp_in a1 10) ∧ ((a3 = (A 11 a1.toNatClampNeg) → ((vp_in a1 10 ∧ vp_in a2 10) ∧ ((spO0 I A (a3 + 1)) ∧ (Iv75 (tpO I A a3 (itmI (A 11) a1 a2 a3) a4) 0 ∧ ∀ (x5_75 : Int32) (x7_75 : Int32), Iv75 x5_75 x7_75 → ((10 ≤ x7_75 → po (some (.inl x5_75)) I A) ∧ (¬ 10 ≤ x7_75 → (((strI A a1 x7_75) ≤ 0 → (Iv75 x5_75 (x7_75 + 1) ∧ mu75 x5_75 (x7_75 + 1) < mu75 x5_75 x7_75)) ∧ (¬ (strI A a1 x7_75) ≤ 0 → ((vp_in a1 10 ∧ vp_in x7_75 10) ∧ ((spO0 I A (a3 + 1)) ∧ (((spO I A (a3 + 1) (itmI (A 11) a1 a2 (a3 + 1))) ≤ (spO I A (a3 + 1) (itmI (A 11) a1 x7_75 (a3 + 1))) → (Iv75 x5_75 (x7_75 + 1) ∧ mu75 x5_75 (x7_75 + 1) < mu75 x5_75 x7_75)) ∧ (¬ (spO I A (a3 + 1) (itmI (A 11) a1 a2 (a3 + 1))) ≤ (spO I A (a3 + 1) (itmI (A 11) a1 x7_75 (a3 + 1))) → (Iv75 (x5_75 + (strI A a1 x7_75)) (x7_75 + 1) ∧ mu75 (x5_75 + (strI A a1 x7_75)) (x7_75 + 1) < mu75 x5_75 x7_75))))))))))))) ∧ (¬ a3 = (A 11 a1.toNatClampNeg) → po (some (.inl (tpO I A a3 (itmI (A 11) a1 a2 a3) a4))) I A)))))) ∧ (a3 = (A 11 a2.toNatClampNeg) → po (some (.inl ((-1)))) I A)))) : Ct l yX1_beginOf cX1_beginOf 9 (some .int) 5 113 D ads shp [.inr (some 95), .inl a1, .inl a2, .inl a3, .inl a4] I A po := by
  refine Ct_of (by decide) (Nat.le_of_ble_eq_true rfl) ?_
  intro p e s m args below meth c hC hr
  replace hC : CX p s m args meth c cX1_beginOf 9 RX1 (AdS ads s.heap.size) := hC
  show Gm p l e s m args below meth c D ads 5 113 9 po I A 0 [some (.inr (some 95)), some (.inl a1), some (.inl a2), some (.inl a3), some (.inl a4), none, none, none, none] []
  refine g_blk hC _ bX1_beginOf_0_6 (pc' := 6) (ls' := [some (.inr (some 95)), some (.inl a1), some (.inl a2), some (.inl a3), some (.inl a4), none, none, none, none]) (st' := [.inl a2, .inr (some 3), .inl a3]) (I' := I) rfl rfl ?_
  obtain ⟨hp1, hv⟩ := hv
  refine g_callV hC (c_X5_layerOf l D ads I A a2 hp1) dX1_beginOf_6 nm_X5_layerOf rfl rfl wl_X1_46 wi_X5_layerOf ws_X5_layerOf wn_X5 wc_X5_layerOf ⟨by decide, by decide⟩ (as := [.inl a2]) (rest := [.inl a3]) rfl (Nat.le_of_ble_eq_true rfl) ⟨Nat.le_refl _, Nat.le_refl _⟩ (k_qI ?_)
  obtain ⟨hv1, hv2⟩ := hv
  refine g_cne hC dX1_beginOf_9 (tgt := 14) (by decide) (fun hc => ?_) (fun hc => ?_)
  · have hv := hv1 hc
    clear hv1 hv2 hc
    refine g_blk hC _ bX1_beginOf_14_23 (pc' := 23) (ls' := [some (.inr (some 95)), some (.inl a1), some (.inl a2), some (.inl a3), some (.inl a4), none, none, none, none]) (st' := [.inl a3, .inl a2, .inl a1, .inr (some 3), .inl a3, .inr (some 95)]) (I' := I) rfl rfl ?_
    obtain ⟨hp2, hv⟩ := hv
    refine g_callV hC (c_X5_itemOf l D ads I A a1 a2 a3 hp2) dX1_beginOf_23 nm_X5_itemOf rfl rfl wl_X1_49 wi_X5_itemOf ws_X5_itemOf wn_X5 wc_X5_itemOf ⟨by decide, by decide⟩ (as := [.inl a1, .inl a2, .inl a3]) (rest := [.inl a3, .inr (some 95)]) rfl (Nat.le_of_ble_eq_true rfl) ⟨Nat.le_refl _, Nat.le_refl _⟩ (k_qI ?_)
    refine g_blk hC _ bX1_beginOf_26_28 (pc' := 28) (ls' := [some (.inr (some 95)), some (.inl a1), some (.inl a2), some (.inl a3), some (.inl a4), none, none, none, none]) (st' := [.inl a4, .inl (itmI (A 11) a1 a2 a3), .inl a3, .inr (some 95)]) (I' := I) rfl rfl ?_
    obtain ⟨hp3, hv⟩ := hv
    refine g_callV hC (c_X1_topOf l D ads I A a3 (itmI (A 11) a1 a2 a3) a4 hp3) dX1_beginOf_28 nm_X1_topOf rfl rfl wl_X1_53 wi_X1_topOf ws_X1_topOf wn_X1 wc_X1_topOf ⟨by decide, by decide⟩ (as := [.inl a3, .inl (itmI (A 11) a1 a2 a3), .inl a4]) (rest := []) rfl (Nat.le_of_ble_eq_true rfl) ⟨Nat.le_refl _, Nat.le_refl _⟩ (k_qI ?_)
    refine g_blk hC _ bX1_beginOf_31_39 (pc' := 39) (ls' := [some (.inr (some 95)), some (.inl a1), some (.inl a2), some (.inl a3), some (.inl a4), some (.inl (tpO I A a3 (itmI (A 11) a1 a2 a3) a4)), none, none, none]) (st' := [.inl a1, .inr (some 3), .inl a3]) (I' := I) rfl rfl ?_
    obtain ⟨hp4, hv⟩ := hv
    refine g_callV hC (c_X5_layerOf l D ads I A a1 hp4) dX1_beginOf_39 nm_X5_layerOf rfl rfl wl_X1_46 wi_X5_layerOf ws_X5_layerOf wn_X5 wc_X5_layerOf ⟨by decide, by decide⟩ (as := [.inl a1]) (rest := [.inl a3]) rfl (Nat.le_of_ble_eq_true rfl) ⟨Nat.le_refl _, Nat.le_refl _⟩ (k_qI ?_)
    obtain ⟨hv1, hv2⟩ := hv
    refine g_ceq hC dX1_beginOf_42 (tgt := 48) (by decide) (fun hc => ?_) (fun hc => ?_)
    · have hv := hv1 hc
      clear hv1 hv2 hc
      refine g_blk hC _ bX1_beginOf_48_64 (pc' := 64) (ls' := [some (.inr (some 95)), some (.inl a1), some (.inl a2), some (.inl a3), some (.inl a4), some (.inl (tpO I A a3 (itmI (A 11) a1 a2 a3) a4)), none, none, none]) (st' := [.inl (a3 + 1), .inl a2, .inl a1, .inr (some 3), .inl (a3 + 1), .inr (some 29)]) (I' := I) rfl rfl ?_
      obtain ⟨hp5, hv⟩ := hv
      refine g_callV hC (c_X5_itemOf l D ads I A a1 a2 (a3 + 1) hp5) dX1_beginOf_64 nm_X5_itemOf rfl rfl wl_X1_49 wi_X5_itemOf ws_X5_itemOf wn_X5 wc_X5_itemOf ⟨by decide, by decide⟩ (as := [.inl a1, .inl a2, .inl (a3 + 1)]) (rest := [.inl (a3 + 1), .inr (some 29)]) rfl (Nat.le_of_ble_eq_true rfl) ⟨Nat.le_refl _, Nat.le_refl _⟩ (k_qI ?_)
      obtain ⟨hp6, hv⟩ := hv
      refine g_callV hC (c_X6_spotOf l D ads I A (a3 + 1) (itmI (A 11) a1 a2 (a3 + 1)) hp6) dX1_beginOf_67 nm_X6_spotOf rfl rfl wl_X1_34 wi_X6_spotOf ws_X6_spotOf wn_X6 wc_X6_spotOf ⟨by decide, by decide⟩ (as := [.inl (a3 + 1), .inl (itmI (A 11) a1 a2 (a3 + 1))]) (rest := []) rfl (Nat.le_of_ble_eq_true rfl) ⟨Nat.le_refl _, Nat.le_refl _⟩ (k_qI ?_)
      refine g_blk hC _ bX1_beginOf_70_75 (pc' := 75) (ls' := [some (.inr (some 95)), some (.inl a1), some (.inl a2), some (.inl a3), some (.inl a4), some (.inl (tpO I A a3 (itmI (A 11) a1 a2 a3) a4)), some (.inl (spO I A (a3 + 1) (itmI (A 11) a1 a2 (a3 + 1)))), some (.inl 0), none]) (st' := []) (I' := I) rfl rfl ?_
      obtain ⟨hi75, hb75⟩ := hv
      have L75 : ∀ (n : Nat) (x5_75 : Int32) (x7_75 : Int32), Iv75 x5_75 x7_75 → mu75 x5_75 x7_75 < n → Gm p l e s m args below meth c D ads 5 113 9 po I A 75 [some (.inr (some 95)), some (.inl a1), none, some (.inl a3), none, some (.inl x5_75), some (.inl (spO I A (a3 + 1) (itmI (A 11) a1 a2 (a3 + 1)))), some (.inl x7_75), none] [] := by
        intro n
        induction n with
        | zero => intro x5_75 x7_75 _ hn; exact absurd hn (Nat.not_lt_zero _)
        | succ n ih75 =>
          intro x5_75 x7_75 hv hn75
          replace hv := hb75 x5_75 x7_75 hv
          skip
          refine g_blk hC _ bX1_beginOf_75_79 (pc' := 79) (ls' := [some (.inr (some 95)), some (.inl a1), none, some (.inl a3), none, some (.inl x5_75), some (.inl (spO I A (a3 + 1) (itmI (A 11) a1 a2 (a3 + 1)))), some (.inl x7_75), none]) (st' := [.inl 10, .inl x7_75]) (I' := I) rfl rfl ?_
          obtain ⟨hv1, hv2⟩ := hv
          refine g_cge hC dX1_beginOf_79 (tgt := 140) (by decide) (fun hc => ?_) (fun hc => ?_)
          · have hv := hv1 hc
            clear hv1 hv2 hc
            refine g_blk hC _ bX1_beginOf_140_142 (pc' := 142) (ls' := [some (.inr (some 95)), some (.inl a1), none, some (.inl a3), none, some (.inl x5_75), some (.inl (spO I A (a3 + 1) (itmI (A 11) a1 a2 (a3 + 1)))), some (.inl x7_75), none]) (st' := [.inl x5_75]) (I' := I) rfl rfl ?_
            exact g_reti hC hr rfl dX1_beginOf_142 hv
          · have hv := hv2 hc
            clear hv1 hv2 hc
            refine g_blk hC _ bX1_beginOf_82_89 (pc' := 89) (ls' := [some (.inr (some 95)), some (.inl a1), none, some (.inl a3), none, some (.inl x5_75), some (.inl (spO I A (a3 + 1) (itmI (A 11) a1 a2 (a3 + 1)))), some (.inl x7_75), none]) (st' := [.inl x7_75, .inl a1, .inr (some 3)]) (I' := I) rfl rfl ?_
            refine g_callV hC (c_X5_straight l D ads I A a1 x7_75) dX1_beginOf_89 nm_X5_straight rfl rfl wl_X1_23 wi_X5_straight ws_X5_straight wn_X5 wc_X5_straight ⟨by decide, by decide⟩ (as := [.inl a1, .inl x7_75]) (rest := []) rfl (Nat.le_of_ble_eq_true rfl) ⟨Nat.le_refl _, Nat.le_refl _⟩ (k_qI ?_)
            refine g_blk hC _ bX1_beginOf_92_96 (pc' := 96) (ls' := [some (.inr (some 95)), some (.inl a1), none, some (.inl a3), none, some (.inl x5_75), some (.inl (spO I A (a3 + 1) (itmI (A 11) a1 a2 (a3 + 1)))), some (.inl x7_75), some (.inl (strI A a1 x7_75))]) (st' := [.inl (strI A a1 x7_75)]) (I' := I) rfl rfl ?_
            obtain ⟨hv1, hv2⟩ := hv
            refine g_ifle hC dX1_beginOf_96 (tgt := 134) (by decide) (fun hc => ?_) (fun hc => ?_)
            · have hv := hv1 hc
              clear hv1 hv2 hc
              refine g_blk hC _ bX1_beginOf_134_137 (pc' := 137) (ls' := [some (.inr (some 95)), some (.inl a1), none, some (.inl a3), none, some (.inl x5_75), some (.inl (spO I A (a3 + 1) (itmI (A 11) a1 a2 (a3 + 1)))), some (.inl (x7_75 + 1)), some (.inl (strI A a1 x7_75))]) (st' := []) (I' := I) rfl rfl ?_
              refine g_goto hC dX1_beginOf_137 (tgt := 75) (by decide) ?_
              exact g_weak (ls1 := [some (.inr (some 95)), some (.inl a1), none, some (.inl a3), none, some (.inl x5_75), some (.inl (spO I A (a3 + 1) (itmI (A 11) a1 a2 (a3 + 1)))), some (.inl (x7_75 + 1)), none]) rfl (And.intro rfl (And.intro rfl (And.intro rfl (And.intro rfl (And.intro rfl (And.intro rfl trivial)))))) (ih75 x5_75 (x7_75 + 1) hv.1 (Nat.lt_of_lt_of_le hv.2 (Nat.le_of_lt_succ hn75)))
            · have hv := hv2 hc
              clear hv1 hv2 hc
              refine g_blk hC _ bX1_beginOf_99_116 (pc' := 116) (ls' := [some (.inr (some 95)), some (.inl a1), none, some (.inl a3), none, some (.inl x5_75), some (.inl (spO I A (a3 + 1) (itmI (A 11) a1 a2 (a3 + 1)))), some (.inl x7_75), some (.inl (strI A a1 x7_75))]) (st' := [.inl (a3 + 1), .inl x7_75, .inl a1, .inr (some 3), .inl (a3 + 1), .inr (some 29)]) (I' := I) rfl rfl ?_
              obtain ⟨hp8, hv⟩ := hv
              refine g_callV hC (c_X5_itemOf l D ads I A a1 x7_75 (a3 + 1) hp8) dX1_beginOf_116 nm_X5_itemOf rfl rfl wl_X1_49 wi_X5_itemOf ws_X5_itemOf wn_X5 wc_X5_itemOf ⟨by decide, by decide⟩ (as := [.inl a1, .inl x7_75, .inl (a3 + 1)]) (rest := [.inl (a3 + 1), .inr (some 29)]) rfl (Nat.le_of_ble_eq_true rfl) ⟨Nat.le_refl _, Nat.le_refl _⟩ (k_qI ?_)
              obtain ⟨hp9, hv⟩ := hv
              refine g_callV hC (c_X6_spotOf l D ads I A (a3 + 1) (itmI (A 11) a1 x7_75 (a3 + 1)) hp9) dX1_beginOf_119 nm_X6_spotOf rfl rfl wl_X1_34 wi_X6_spotOf ws_X6_spotOf wn_X6 wc_X6_spotOf ⟨by decide, by decide⟩ (as := [.inl (a3 + 1), .inl (itmI (A 11) a1 x7_75 (a3 + 1))]) (rest := []) rfl (Nat.le_of_ble_eq_true rfl) ⟨Nat.le_refl _, Nat.le_refl _⟩ (k_qI ?_)
              refine g_blk hC _ bX1_beginOf_122_124 (pc' := 124) (ls' := [some (.inr (some 95)), some (.inl a1), none, some (.inl a3), none, some (.inl x5_75), some (.inl (spO I A (a3 + 1) (itmI (A 11) a1 a2 (a3 + 1)))), some (.inl x7_75), some (.inl (strI A a1 x7_75))]) (st' := [.inl (spO I A (a3 + 1) (itmI (A 11) a1 a2 (a3 + 1))), .inl (spO I A (a3 + 1) (itmI (A 11) a1 x7_75 (a3 + 1)))]) (I' := I) rfl rfl ?_
              obtain ⟨hv1, hv2⟩ := hv
              refine g_cge hC dX1_beginOf_124 (tgt := 134) (by decide) (fun hc => ?_) (fun hc => ?_)
              · have hv := hv1 hc
                clear hv1 hv2 hc
                refine g_blk hC _ bX1_beginOf_134_137 (pc' := 137) (ls' := [some (.inr (some 95)), some (.inl a1), none, some (.inl a3), none, some (.inl x5_75), some (.inl (spO I A (a3 + 1) (itmI (A 11) a1 a2 (a3 + 1)))), some (.inl (x7_75 + 1)), some (.inl (strI A a1 x7_75))]) (st' := []) (I' := I) rfl rfl ?_
                refine g_goto hC dX1_beginOf_137 (tgt := 75) (by decide) ?_
                exact g_weak (ls1 := [some (.inr (some 95)), some (.inl a1), none, some (.inl a3), none, some (.inl x5_75), some (.inl (spO I A (a3 + 1) (itmI (A 11) a1 a2 (a3 + 1)))), some (.inl (x7_75 + 1)), none]) rfl (And.intro rfl (And.intro rfl (And.intro rfl (And.intro rfl (And.intro rfl (And.intro rfl trivial)))))) (ih75 x5_75 (x7_75 + 1) hv.1 (Nat.lt_of_lt_of_le hv.2 (Nat.le_of_lt_succ hn75)))
              · have hv := hv2 hc
                clear hv1 hv2 hc
                refine g_blk hC _ bX1_beginOf_127_137 (pc' := 137) (ls' := [some (.inr (some 95)), some (.inl a1), none, some (.inl a3), none, some (.inl (x5_75 + (strI A a1 x7_75))), some (.inl (spO I A (a3 + 1) (itmI (A 11) a1 a2 (a3 + 1)))), some (.inl (x7_75 + 1)), some (.inl (strI A a1 x7_75))]) (st' := []) (I' := I) rfl rfl ?_
                refine g_goto hC dX1_beginOf_137 (tgt := 75) (by decide) ?_
                exact g_weak (ls1 := [some (.inr (some 95)), some (.inl a1), none, some (.inl a3), none, some (.inl (x5_75 + (strI A a1 x7_75))), some (.inl (spO I A (a3 + 1) (itmI (A 11) a1 a2 (a3 + 1)))), some (.inl (x7_75 + 1)), none]) rfl (And.intro rfl (And.intro rfl (And.intro rfl (And.intro rfl (And.intro rfl (And.intro rfl trivial)))))) (ih75 (x5_75 + (strI A a1 x7_75)) (x7_75 + 1) hv.1 (Nat.lt_of_lt_of_le hv.2 (Nat.le_of_lt_succ hn75)))
      exact g_weak (ls1 := [some (.inr (some 95)), some (.inl a1), none, some (.inl a3), none, some (.inl (tpO I A a3 (itmI (A 11) a1 a2 a3) a4)), some (.inl (spO I A (a3 + 1) (itmI (A 11) a1 a2 (a3 + 1)))), some (.inl 0), none]) rfl (And.intro rfl (And.intro rfl (And.intro rfl (And.intro rfl (And.intro rfl (And.intro rfl trivial)))))) (L75 _ (tpO I A a3 (itmI (A 11) a1 a2 a3) a4) 0 hi75 (Nat.lt_succ_self _))
    · have hv := hv2 hc
      clear hv1 hv2 hc
      refine g_blk hC _ bX1_beginOf_45_47 (pc' := 47) (ls' := [some (.inr (some 95)), some (.inl a1), some (.inl a2), some (.inl a3), some (.inl a4), some (.inl (tpO I A a3 (itmI (A 11) a1 a2 a3) a4)), none, none, none]) (st' := [.inl (tpO I A a3 (itmI (A 11) a1 a2 a3) a4)]) (I' := I) rfl rfl ?_
      exact g_reti hC hr rfl dX1_beginOf_47 hv
  · have hv := hv2 hc
    clear hv1 hv2 hc
    refine g_blk hC _ bX1_beginOf_12_13 (pc' := 13) (ls' := [some (.inr (some 95)), some (.inl a1), some (.inl a2), some (.inl a3), some (.inl a4), none, none, none, none]) (st' := [.inl ((-1))]) (I' := I) rfl rfl ?_
    exact g_reti hC hr rfl dX1_beginOf_13 hv
set_option maxHeartbeats 4000000 in
set_option maxRecDepth 100000 in
theorem c_X1_beginOf (l : Launch) (D : va_G) (ads : AD) (I A : HI) (a1 : Int32) (a2 : Int32) (a3 : Int32) (a4 : Int32) (hp : bgO0 I A a1 a2 a3) : Ct l yX1_beginOf cX1_beginOf 9 (some .int) 5 113 D ads shp [.inr (some 95), .inl a1, .inl a2, .inl a3, .inl a4] I A (qI (bgO I A a1 a2 a3 a4) I A) := by
  sorry
