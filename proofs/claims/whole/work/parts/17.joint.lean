/-! Joint -/
def pLk (A : HI) (f g x : Int32) : HI := if f < 0 ∨ 5 ≤ f ∨ g < 0 ∨ 5 ≤ g then A else up2 A 69 (f * 5 + g).toNatClampNeg x
def gLi0 (A : HI) (l : Int32) : Prop := True
def gLi (A : HI) (l : Int32) (A' : HI) : Prop := True
def beg0 (A : HI) (l : Int32) : Prop := True
def beg (I A : HI) (l q : Int32) (I' A' : HI) : Prop := True
def exN0 (A : HI) (l x : Int32) : Prop := True
def exN (I A : HI) (l x : Int32) (I' A' : HI) : Prop := True
theorem bX3_base_0_4 : okB cX3_base RX3 0 [(5, 0, 0, 0, 0), (23, 18, 3, 5, 0)] := And.intro ⟨_, dX3_base_0, rfl⟩ (And.intro ⟨dX3_base_1, fl_X3_18⟩ trivial)
set_option maxHeartbeats 4000000 in
set_option maxRecDepth 100000 in
theorem k_X3_base (l : Launch) (D : va_G) (ads : AD) (I A : HI) (po : Option AV → HI → HI → Prop)
    (hv : po (some (.inl (I 68 5))) I A) : Ct l yX3_base cX3_base 1 (some .int) 0 0 D ads shp [.inr (some 68)] I A po := by
  refine Ct_of (by decide) (Nat.le_of_ble_eq_true rfl) ?_
  intro p e s m args below meth c hC hr
  replace hC : CX p s m args meth c cX3_base 1 RX3 (AdS ads s.heap.size) := hC
  show Gm p l e s m args below meth c D ads 0 0 1 po I A 0 [some (.inr (some 68))] []
  refine g_blk hC _ bX3_base_0_4 (pc' := 4) (ls' := [some (.inr (some 68))]) (st' := [.inl (I 68 5)]) (I' := I) rfl rfl ?_
  exact g_reti hC hr rfl dX3_base_4 hv
set_option maxHeartbeats 4000000 in
set_option maxRecDepth 100000 in
theorem c_X3_base (l : Launch) (D : va_G) (ads : AD) (I A : HI) : Ct l yX3_base cX3_base 1 (some .int) 0 0 D ads shp [.inr (some 68)] I A (qI (I 68 5) I A) := by
  sorry
theorem bX3_gains_0_4 : okB cX3_gains RX3 0 [(5, 0, 0, 0, 0), (23, 15, 3, 4, 0)] := And.intro ⟨_, dX3_gains_0, rfl⟩ (And.intro ⟨dX3_gains_1, fl_X3_15⟩ trivial)
set_option maxHeartbeats 4000000 in
set_option maxRecDepth 100000 in
theorem k_X3_gains (l : Launch) (D : va_G) (ads : AD) (I A : HI) (po : Option AV → HI → HI → Prop)
    (hv : po (some (.inr (some 70))) I A) : Ct l yX3_gains cX3_gains 1 (some (.array .int)) 0 0 D ads shp [.inr (some 68)] I A po := by
  refine Ct_of (by decide) (Nat.le_of_ble_eq_true rfl) ?_
  intro p e s m args below meth c hC hr
  replace hC : CX p s m args meth c cX3_gains 1 RX3 (AdS ads s.heap.size) := hC
  show Gm p l e s m args below meth c D ads 0 0 1 po I A 0 [some (.inr (some 68))] []
  refine g_blk hC _ bX3_gains_0_4 (pc' := 4) (ls' := [some (.inr (some 68))]) (st' := [.inr (some 70)]) (I' := I) rfl rfl ?_
  exact g_reta hC hr (Or.inr ⟨_, rfl⟩) dX3_gains_4 hv
set_option maxHeartbeats 4000000 in
set_option maxRecDepth 100000 in
theorem c_X3_gains (l : Launch) (D : va_G) (ads : AD) (I A : HI) : Ct l yX3_gains cX3_gains 1 (some (.array .int)) 0 0 D ads shp [.inr (some 68)] I A (qR (70) I A) := by
  sorry
theorem bX3_crossing_0_7 : okB cX3_crossing RX3 0 [(5, 0, 0, 0, 0), (23, 9, 3, 3, 0), (3, 1, 0, 0, 0), (4, 4, 0, 0, 0)] := And.intro ⟨_, dX3_crossing_0, rfl⟩ (And.intro ⟨dX3_crossing_1, fl_X3_9⟩ (And.intro ⟨_, dX3_crossing_4, rfl⟩ (And.intro dX3_crossing_5 trivial)))
theorem bX3_crossing_11_17 : okB cX3_crossing RX3 11 [(5, 0, 0, 0, 0), (23, 9, 3, 3, 0), (3, 2, 0, 0, 0), (3, 3, 0, 0, 0)] := And.intro ⟨_, dX3_crossing_11, rfl⟩ (And.intro ⟨dX3_crossing_12, fl_X3_9⟩ (And.intro ⟨_, dX3_crossing_15, rfl⟩ (And.intro ⟨_, dX3_crossing_16, rfl⟩ trivial)))
theorem bX3_crossing_21_22 : okB cX3_crossing RX3 21 [(14, 0, 0, 0, 0)] := And.intro dX3_crossing_21 trivial
set_option maxHeartbeats 4000000 in
set_option maxRecDepth 100000 in
theorem k_X3_crossing (l : Launch) (D : va_G) (ads : AD) (I A : HI) (a1 : Int32) (a2 : Int32) (a3 : Int32) (a4 : Int32) (po : Option AV → HI → HI → Prop)
    (hv : (vp_in (a1 * 5 + a4) 25 ∧ (vp_in (a2 * 5 + a3) 25 ∧ po (some (.inl ((A 69 (a1 * 5 + a4).toNatClampNeg) * (A 69 (a2 * 5 + a3).toNatClampNeg)))) I A))) : Ct l yX3_crossing cX3_crossing 5 (some .int) 1 21 D ads shp [.inr (some 68), .inl a1, .inl a2, .inl a3, .inl a4] I A po := by
  refine Ct_of (by decide) (Nat.le_of_ble_eq_true rfl) ?_
  intro p e s m args below meth c hC hr
  replace hC : CX p s m args meth c cX3_crossing 5 RX3 (AdS ads s.heap.size) := hC
  show Gm p l e s m args below meth c D ads 1 21 5 po I A 0 [some (.inr (some 68)), some (.inl a1), some (.inl a2), some (.inl a3), some (.inl a4)] []
  refine g_blk hC _ bX3_crossing_0_7 (pc' := 7) (ls' := [some (.inr (some 68)), some (.inl a1), some (.inl a2), some (.inl a3), some (.inl a4)]) (st' := [.inl a4, .inl a1, .inr (some 69)]) (I' := I) rfl rfl ?_
  refine g_callN (host := RX8) hC (c_X8_pair l D ads I A a1 a4) dX3_crossing_7 nm_X8_pair (List.mem_of_getElem? (i := 4) rfl) wt_X8_pair wn_X8 wc_X8_pair ⟨by decide, by decide⟩ (as := [.inl a1, .inl a4]) (rest := [.inr (some 69)]) rfl (Nat.le_of_ble_eq_true rfl) ⟨Nat.le_refl _, Nat.le_refl _⟩ (k_qI ?_)
  obtain ⟨hi, hv⟩ := hv
  refine g_iald hC dX3_crossing_10 (rfl) hi ?_
  clear hi
  refine g_blk hC _ bX3_crossing_11_17 (pc' := 17) (ls' := [some (.inr (some 68)), some (.inl a1), some (.inl a2), some (.inl a3), some (.inl a4)]) (st' := [.inl a3, .inl a2, .inr (some 69), .inl (A 69 (a1 * 5 + a4).toNatClampNeg)]) (I' := I) rfl rfl ?_
  refine g_callN (host := RX8) hC (c_X8_pair l D ads I A a2 a3) dX3_crossing_17 nm_X8_pair (List.mem_of_getElem? (i := 4) rfl) wt_X8_pair wn_X8 wc_X8_pair ⟨by decide, by decide⟩ (as := [.inl a2, .inl a3]) (rest := [.inr (some 69), .inl (A 69 (a1 * 5 + a4).toNatClampNeg)]) rfl (Nat.le_of_ble_eq_true rfl) ⟨Nat.le_refl _, Nat.le_refl _⟩ (k_qI ?_)
  obtain ⟨hi, hv⟩ := hv
  refine g_iald hC dX3_crossing_20 (rfl) hi ?_
  clear hi
  refine g_blk hC _ bX3_crossing_21_22 (pc' := 22) (ls' := [some (.inr (some 68)), some (.inl a1), some (.inl a2), some (.inl a3), some (.inl a4)]) (st' := [.inl ((A 69 (a1 * 5 + a4).toNatClampNeg) * (A 69 (a2 * 5 + a3).toNatClampNeg))]) (I' := I) rfl rfl ?_
  exact g_reti hC hr rfl dX3_crossing_22 hv
set_option maxHeartbeats 4000000 in
set_option maxRecDepth 100000 in
theorem c_X3_crossing (l : Launch) (D : va_G) (ads : AD) (I A : HI) (a1 : Int32) (a2 : Int32) (a3 : Int32) (a4 : Int32) (hp : vp_in (a1 * 5 + a4) 25 ∧ vp_in (a2 * 5 + a3) 25) : Ct l yX3_crossing cX3_crossing 5 (some .int) 1 21 D ads shp [.inr (some 68), .inl a1, .inl a2, .inl a3, .inl a4] I A (qI (A 69 (a1 * 5 + a4).toNatClampNeg * A 69 (a2 * 5 + a3).toNatClampNeg) I A) := by
  sorry
theorem bX3_putLink_0_1 : okB cX3_putLink RX3 0 [(3, 1, 0, 0, 0)] := And.intro ⟨_, dX3_putLink_0, rfl⟩ trivial
theorem bX3_putLink_4_6 : okB cX3_putLink RX3 4 [(3, 1, 0, 0, 0), (0, 0, 0, 0, 5)] := And.intro ⟨_, dX3_putLink_4, rfl⟩ (And.intro ⟨_, dX3_putLink_5, by decide⟩ trivial)
theorem bX3_putLink_9_10 : okB cX3_putLink RX3 9 [(3, 2, 0, 0, 0)] := And.intro ⟨_, dX3_putLink_9, rfl⟩ trivial
theorem bX3_putLink_13_15 : okB cX3_putLink RX3 13 [(3, 2, 0, 0, 0), (0, 0, 0, 0, 5)] := And.intro ⟨_, dX3_putLink_13, rfl⟩ (And.intro ⟨_, dX3_putLink_14, by decide⟩ trivial)
theorem bX3_putLink_18_24 : okB cX3_putLink RX3 18 [(5, 0, 0, 0, 0), (23, 9, 3, 3, 0), (3, 1, 0, 0, 0), (3, 2, 0, 0, 0)] := And.intro ⟨_, dX3_putLink_18, rfl⟩ (And.intro ⟨dX3_putLink_19, fl_X3_9⟩ (And.intro ⟨_, dX3_putLink_22, rfl⟩ (And.intro ⟨_, dX3_putLink_23, rfl⟩ trivial)))
theorem bX3_putLink_27_28 : okB cX3_putLink RX3 27 [(3, 3, 0, 0, 0)] := And.intro ⟨_, dX3_putLink_27, rfl⟩ trivial
set_option maxHeartbeats 4000000 in
set_option maxRecDepth 100000 in
theorem k_X3_putLink (l : Launch) (D : va_G) (ads : AD) (I A : HI) (a1 : Int32) (a2 : Int32) (a3 : Int32) (po : Option AV → HI → HI → Prop)
    (hv : ((a1 < 0 → po none I A) ∧ (¬ a1 < 0 → ((5 ≤ a1 → po none I A) ∧ (¬ 5 ≤ a1 → ((a2 < 0 → po none I A) ∧ (¬ a2 < 0 → ((5 ≤ a2 → po none I A) ∧ (¬ 5 ≤ a2 → (vp_in (a1 * 5 + a2) 25 ∧ po none I (up2 A 69 (a1 * 5 + a2).toNatClampNeg a3))))))))))) : Ct l yX3_putLink cX3_putLink 4 none 1 21 D ads shp [.inr (some 68), .inl a1, .inl a2, .inl a3] I A po := by
  refine Ct_of (by decide) (Nat.le_of_ble_eq_true rfl) ?_
  intro p e s m args below meth c hC hr
  replace hC : CX p s m args meth c cX3_putLink 4 RX3 (AdS ads s.heap.size) := hC
  show Gm p l e s m args below meth c D ads 1 21 4 po I A 0 [some (.inr (some 68)), some (.inl a1), some (.inl a2), some (.inl a3)] []
  refine g_blk hC _ bX3_putLink_0_1 (pc' := 1) (ls' := [some (.inr (some 68)), some (.inl a1), some (.inl a2), some (.inl a3)]) (st' := [.inl a1]) (I' := I) rfl rfl ?_
  obtain ⟨hv1, hv2⟩ := hv
  refine g_iflt hC dX3_putLink_1 (tgt := 29) (by decide) (fun hc => ?_) (fun hc => ?_)
  · have hv := hv1 hc
    clear hv1 hv2 hc
    exact g_retv hC hr dX3_putLink_29 hv
  · have hv := hv2 hc
    clear hv1 hv2 hc
    refine g_blk hC _ bX3_putLink_4_6 (pc' := 6) (ls' := [some (.inr (some 68)), some (.inl a1), some (.inl a2), some (.inl a3)]) (st' := [.inl 5, .inl a1]) (I' := I) rfl rfl ?_
    obtain ⟨hv1, hv2⟩ := hv
    refine g_cge hC dX3_putLink_6 (tgt := 29) (by decide) (fun hc => ?_) (fun hc => ?_)
    · have hv := hv1 hc
      clear hv1 hv2 hc
      exact g_retv hC hr dX3_putLink_29 hv
    · have hv := hv2 hc
      clear hv1 hv2 hc
      refine g_blk hC _ bX3_putLink_9_10 (pc' := 10) (ls' := [some (.inr (some 68)), some (.inl a1), some (.inl a2), some (.inl a3)]) (st' := [.inl a2]) (I' := I) rfl rfl ?_
      obtain ⟨hv1, hv2⟩ := hv
      refine g_iflt hC dX3_putLink_10 (tgt := 29) (by decide) (fun hc => ?_) (fun hc => ?_)
      · have hv := hv1 hc
        clear hv1 hv2 hc
        exact g_retv hC hr dX3_putLink_29 hv
      · have hv := hv2 hc
        clear hv1 hv2 hc
        refine g_blk hC _ bX3_putLink_13_15 (pc' := 15) (ls' := [some (.inr (some 68)), some (.inl a1), some (.inl a2), some (.inl a3)]) (st' := [.inl 5, .inl a2]) (I' := I) rfl rfl ?_
        obtain ⟨hv1, hv2⟩ := hv
        refine g_cge hC dX3_putLink_15 (tgt := 29) (by decide) (fun hc => ?_) (fun hc => ?_)
        · have hv := hv1 hc
          clear hv1 hv2 hc
          exact g_retv hC hr dX3_putLink_29 hv
        · have hv := hv2 hc
          clear hv1 hv2 hc
          refine g_blk hC _ bX3_putLink_18_24 (pc' := 24) (ls' := [some (.inr (some 68)), some (.inl a1), some (.inl a2), some (.inl a3)]) (st' := [.inl a2, .inl a1, .inr (some 69)]) (I' := I) rfl rfl ?_
          refine g_callN (host := RX8) hC (c_X8_pair l D ads I A a1 a2) dX3_putLink_24 nm_X8_pair (List.mem_of_getElem? (i := 4) rfl) wt_X8_pair wn_X8 wc_X8_pair ⟨by decide, by decide⟩ (as := [.inl a1, .inl a2]) (rest := [.inr (some 69)]) rfl (Nat.le_of_ble_eq_true rfl) ⟨Nat.le_refl _, Nat.le_refl _⟩ (k_qI ?_)
          refine g_blk hC _ bX3_putLink_27_28 (pc' := 28) (ls' := [some (.inr (some 68)), some (.inl a1), some (.inl a2), some (.inl a3)]) (st' := [.inl a3, .inl (a1 * 5 + a2), .inr (some 69)]) (I' := I) rfl rfl ?_
          obtain ⟨hi, hv⟩ := hv
          refine g_iast hC dX3_putLink_28 (rfl) hi ?_
          clear hi
          exact g_retv hC hr dX3_putLink_29 hv
set_option maxHeartbeats 4000000 in
set_option maxRecDepth 100000 in
theorem c_X3_putLink (l : Launch) (D : va_G) (ads : AD) (I A : HI) (a1 : Int32) (a2 : Int32) (a3 : Int32) : Ct l yX3_putLink cX3_putLink 4 none 1 21 D ads shp [.inr (some 68), .inl a1, .inl a2, .inl a3] I A (qN I (pLk A a1 a2 a3)) := by
  sorry
theorem bX3_gatherLinks_0_5 : okB cX3_gatherLinks RX3 0 [(5, 0, 0, 0, 0), (23, 9, 3, 3, 0), (0, 0, 0, 0, 0)] := And.intro ⟨_, dX3_gatherLinks_0, rfl⟩ (And.intro ⟨dX3_gatherLinks_1, fl_X3_9⟩ (And.intro ⟨_, dX3_gatherLinks_4, by decide⟩ trivial))
theorem bX3_gatherLinks_8_10 : okB cX3_gatherLinks RX3 8 [(0, 0, 0, 0, 0), (7, 2, 0, 0, 0)] := And.intro ⟨_, dX3_gatherLinks_8, by decide⟩ (And.intro ⟨_, dX3_gatherLinks_9, rfl⟩ trivial)
theorem bX3_gatherLinks_10_13 : okB cX3_gatherLinks RX3 10 [(3, 2, 0, 0, 0), (1, 0, 0, 0, 10)] := And.intro ⟨_, dX3_gatherLinks_10, rfl⟩ (And.intro ⟨_, dX3_gatherLinks_11, by decide⟩ trivial)
theorem bX3_gatherLinks_16_18 : okB cX3_gatherLinks RX3 16 [(0, 0, 0, 0, 0), (7, 3, 0, 0, 0)] := And.intro ⟨_, dX3_gatherLinks_16, by decide⟩ (And.intro ⟨_, dX3_gatherLinks_17, rfl⟩ trivial)
theorem bX3_gatherLinks_18_21 : okB cX3_gatherLinks RX3 18 [(3, 3, 0, 0, 0), (1, 0, 0, 0, 10)] := And.intro ⟨_, dX3_gatherLinks_18, rfl⟩ (And.intro ⟨_, dX3_gatherLinks_19, by decide⟩ trivial)
theorem bX3_gatherLinks_104_107 : okB cX3_gatherLinks RX3 104 [(11, 2, 0, 0, 1)] := And.intro ⟨_, dX3_gatherLinks_104, by decide⟩ trivial
theorem bX3_gatherLinks_24_31 : okB cX3_gatherLinks RX3 24 [(5, 0, 0, 0, 0), (23, 22, 3, 0, 0), (3, 2, 0, 0, 0), (3, 3, 0, 0, 0), (3, 1, 0, 0, 0)] := And.intro ⟨_, dX3_gatherLinks_24, rfl⟩ (And.intro ⟨dX3_gatherLinks_25, fl_X3_22⟩ (And.intro ⟨_, dX3_gatherLinks_28, rfl⟩ (And.intro ⟨_, dX3_gatherLinks_29, rfl⟩ (And.intro ⟨_, dX3_gatherLinks_30, rfl⟩ trivial))))
theorem bX3_gatherLinks_98_101 : okB cX3_gatherLinks RX3 98 [(11, 3, 0, 0, 1)] := And.intro ⟨_, dX3_gatherLinks_98, by decide⟩ trivial
theorem bX3_gatherLinks_37_49 : okB cX3_gatherLinks RX3 37 [(5, 0, 0, 0, 0), (23, 26, 3, 1, 0), (3, 1, 0, 0, 0), (5, 0, 0, 0, 0), (23, 22, 3, 0, 0), (3, 2, 0, 0, 0), (3, 3, 0, 0, 0), (3, 1, 0, 0, 0)] := And.intro ⟨_, dX3_gatherLinks_37, rfl⟩ (And.intro ⟨dX3_gatherLinks_38, fl_X3_26⟩ (And.intro ⟨_, dX3_gatherLinks_41, rfl⟩ (And.intro ⟨_, dX3_gatherLinks_42, rfl⟩ (And.intro ⟨dX3_gatherLinks_43, fl_X3_22⟩ (And.intro ⟨_, dX3_gatherLinks_46, rfl⟩ (And.intro ⟨_, dX3_gatherLinks_47, rfl⟩ (And.intro ⟨_, dX3_gatherLinks_48, rfl⟩ trivial)))))))
theorem bX3_gatherLinks_55_73 : okB cX3_gatherLinks RX3 55 [(8, 4, 0, 0, 0), (5, 0, 0, 0, 0), (23, 26, 3, 1, 0), (3, 1, 0, 0, 0), (0, 0, 0, 0, 1), (12, 0, 0, 0, 0), (5, 0, 0, 0, 0), (23, 22, 3, 0, 0), (3, 2, 0, 0, 0), (3, 3, 0, 0, 0), (3, 1, 0, 0, 0), (0, 0, 0, 0, 1), (12, 0, 0, 0, 0)] := And.intro dX3_gatherLinks_55 (And.intro ⟨_, dX3_gatherLinks_57, rfl⟩ (And.intro ⟨dX3_gatherLinks_58, fl_X3_26⟩ (And.intro ⟨_, dX3_gatherLinks_61, rfl⟩ (And.intro ⟨_, dX3_gatherLinks_62, by decide⟩ (And.intro dX3_gatherLinks_63 (And.intro ⟨_, dX3_gatherLinks_64, rfl⟩ (And.intro ⟨dX3_gatherLinks_65, fl_X3_22⟩ (And.intro ⟨_, dX3_gatherLinks_68, rfl⟩ (And.intro ⟨_, dX3_gatherLinks_69, rfl⟩ (And.intro ⟨_, dX3_gatherLinks_70, rfl⟩ (And.intro ⟨_, dX3_gatherLinks_71, by decide⟩ (And.intro dX3_gatherLinks_72 trivial))))))))))))
theorem bX3_gatherLinks_79_92 : okB cX3_gatherLinks RX3 79 [(8, 5, 0, 0, 0), (5, 0, 0, 0, 0), (4, 4, 0, 0, 0), (4, 5, 0, 0, 0), (5, 0, 0, 0, 0), (23, 22, 3, 0, 0), (3, 2, 0, 0, 0), (3, 3, 0, 0, 0)] := And.intro dX3_gatherLinks_79 (And.intro ⟨_, dX3_gatherLinks_81, rfl⟩ (And.intro dX3_gatherLinks_82 (And.intro dX3_gatherLinks_84 (And.intro ⟨_, dX3_gatherLinks_86, rfl⟩ (And.intro ⟨dX3_gatherLinks_87, fl_X3_22⟩ (And.intro ⟨_, dX3_gatherLinks_90, rfl⟩ (And.intro ⟨_, dX3_gatherLinks_91, rfl⟩ trivial)))))))
set_option maxHeartbeats 4000000 in
set_option maxRecDepth 100000 in
theorem k_X3_gatherLinks (l : Launch) (D : va_G) (ads : AD) (I A : HI) (a1 : Int32) (po : Option AV → HI → HI → Prop) (Iv10 : Int32 → HI → Prop) (mu10 : Int32 → HI → Nat) (Iv18 : Int32 → HI → Int32 → HI → Prop) (mu18 : Int32 → HI → Int32 → HI → Nat)
    (hv : (Iv10 0 (filA A 69 25 (0 : Int32)) ∧ ∀ (x2_10 : Int32) (A_10 : HI), Iv10 x2_10 A_10 → ((10 ≤ x2_10 → po none I A_10) ∧ (¬ 10 ≤ x2_10 → (Iv18 x2_10 A_10 0 A_10 ∧ ∀ (x3_18 : Int32) (A_18 : HI), Iv18 x2_10 A_10 x3_18 A_18 → ((10 ≤ x3_18 → (Iv10 (x2_10 + 1) A_18 ∧ mu10 (x2_10 + 1) A_18 < mu10 x2_10 A_10)) ∧ (¬ 10 ≤ x3_18 → ((vp_in x2_10 10 ∧ vp_in x3_18 10) ∧ (((lnkI A_18 x2_10 x3_18 a1) = 0 → (Iv18 x2_10 A_10 (x3_18 + 1) A_18 ∧ mu18 x2_10 A_10 (x3_18 + 1) A_18 < mu18 x2_10 A_10 x3_18 A_18)) ∧ (¬ (lnkI A_18 x2_10 x3_18 a1) = 0 → ((vp_in x2_10 10 ∧ vp_in x3_18 10) ∧ ((vp_in a1 10 ∧ A_18 25 a1.toNatClampNeg ≤ 26) ∧ ((vp_in x2_10 10 ∧ vp_in x3_18 10) ∧ ((vp_in (a1 + 1) 10 ∧ A_18 25 (a1 + 1).toNatClampNeg ≤ 26) ∧ (Iv18 x2_10 A_10 (x3_18 + 1) (pLk A_18 (ixO (A_18 (15 + a1.toNatClampNeg)) (A_18 25 a1.toNatClampNeg).toNatClampNeg (itmI (A_18 11) x2_10 x3_18 a1)) (ixO (A_18 (15 + (a1 + 1).toNatClampNeg)) (A_18 25 (a1 + 1).toNatClampNeg).toNatClampNeg (itmI (A_18 11) x2_10 x3_18 (a1 + 1))) (strI A_18 x2_10 x3_18)) ∧ mu18 x2_10 A_10 (x3_18 + 1) (pLk A_18 (ixO (A_18 (15 + a1.toNatClampNeg)) (A_18 25 a1.toNatClampNeg).toNatClampNeg (itmI (A_18 11) x2_10 x3_18 a1)) (ixO (A_18 (15 + (a1 + 1).toNatClampNeg)) (A_18 25 (a1 + 1).toNatClampNeg).toNatClampNeg (itmI (A_18 11) x2_10 x3_18 (a1 + 1))) (strI A_18 x2_10 x3_18)) < mu18 x2_10 A_10 x3_18 A_18))))))))))))))) : Ct l yX3_gatherLinks cX3_gatherLinks 6 none 2 44 D ads shp [.inr (some 68), .inl a1] I A po := by
  refine Ct_of (by decide) (Nat.le_of_ble_eq_true rfl) ?_
  intro p e s m args below meth c hC hr
  replace hC : CX p s m args meth c cX3_gatherLinks 6 RX3 (AdS ads s.heap.size) := hC
  show Gm p l e s m args below meth c D ads 2 44 6 po I A 0 [some (.inr (some 68)), some (.inl a1), none, none, none, none] []
  refine g_blk hC _ bX3_gatherLinks_0_5 (pc' := 5) (ls' := [some (.inr (some 68)), some (.inl a1), none, none, none, none]) (st' := [.inl 0, .inr (some 69)]) (I' := I) rfl rfl ?_
  refine g_callS hC (c_J7_fill_53178 l D ads I A 69 (0 : Int32) 25 (rfl) (by decide)) dX3_gatherLinks_5 nm_J7_fill_53178 wl_X3_34 wt_J7_fill_53178 wn_J7 wc_J7_fill_53178 ⟨by decide, by decide⟩ (as := [.inr (some 69), .inl 0]) (rest := []) rfl (Nat.le_of_ble_eq_true rfl) ⟨Nat.le_refl _, Nat.le_refl _⟩ (k_qN ?_)
  refine g_blk hC _ bX3_gatherLinks_8_10 (pc' := 10) (ls' := [some (.inr (some 68)), some (.inl a1), some (.inl 0), none, none, none]) (st' := []) (I' := I) rfl rfl ?_
  obtain ⟨hi10, hb10⟩ := hv
  have L10 : ∀ (n : Nat) (x2_10 : Int32) (A_10 : HI), Iv10 x2_10 A_10 → mu10 x2_10 A_10 < n → Gm p l e s m args below meth c D ads 2 44 6 po I A_10 10 [some (.inr (some 68)), some (.inl a1), some (.inl x2_10), none, none, none] [] := by
    intro n
    induction n with
    | zero => intro x2_10 A_10 _ hn; exact absurd hn (Nat.not_lt_zero _)
    | succ n ih10 =>
      intro x2_10 A_10 hv hn10
      replace hv := hb10 x2_10 A_10 hv
      skip
      refine g_blk hC _ bX3_gatherLinks_10_13 (pc' := 13) (ls' := [some (.inr (some 68)), some (.inl a1), some (.inl x2_10), none, none, none]) (st' := [.inl 10, .inl x2_10]) (I' := I) rfl rfl ?_
      obtain ⟨hv1, hv2⟩ := hv
      refine g_cge hC dX3_gatherLinks_13 (tgt := 110) (by decide) (fun hc => ?_) (fun hc => ?_)
      · have hv := hv1 hc
        clear hv1 hv2 hc
        exact g_retv hC hr dX3_gatherLinks_110 hv
      · have hv := hv2 hc
        clear hv1 hv2 hc
        refine g_blk hC _ bX3_gatherLinks_16_18 (pc' := 18) (ls' := [some (.inr (some 68)), some (.inl a1), some (.inl x2_10), some (.inl 0), none, none]) (st' := []) (I' := I) rfl rfl ?_
        obtain ⟨hi18, hb18⟩ := hv
        have L18 : ∀ (n : Nat) (x3_18 : Int32) (A_18 : HI), Iv18 x2_10 A_10 x3_18 A_18 → mu18 x2_10 A_10 x3_18 A_18 < n → Gm p l e s m args below meth c D ads 2 44 6 po I A_18 18 [some (.inr (some 68)), some (.inl a1), some (.inl x2_10), some (.inl x3_18), none, none] [] := by
          intro n
          induction n with
          | zero => intro x3_18 A_18 _ hn; exact absurd hn (Nat.not_lt_zero _)
          | succ n ih18 =>
            intro x3_18 A_18 hv hn18
            replace hv := hb18 x3_18 A_18 hv
            skip
            refine g_blk hC _ bX3_gatherLinks_18_21 (pc' := 21) (ls' := [some (.inr (some 68)), some (.inl a1), some (.inl x2_10), some (.inl x3_18), none, none]) (st' := [.inl 10, .inl x3_18]) (I' := I) rfl rfl ?_
            obtain ⟨hv1, hv2⟩ := hv
            refine g_cge hC dX3_gatherLinks_21 (tgt := 104) (by decide) (fun hc => ?_) (fun hc => ?_)
            · have hv := hv1 hc
              clear hv1 hv2 hc
              refine g_blk hC _ bX3_gatherLinks_104_107 (pc' := 107) (ls' := [some (.inr (some 68)), some (.inl a1), some (.inl (x2_10 + 1)), some (.inl x3_18), none, none]) (st' := []) (I' := I) rfl rfl ?_
              refine g_goto hC dX3_gatherLinks_107 (tgt := 10) (by decide) ?_
              exact g_weak (ls1 := [some (.inr (some 68)), some (.inl a1), some (.inl (x2_10 + 1)), none, none, none]) rfl (And.intro rfl (And.intro rfl (And.intro rfl trivial))) (ih10 (x2_10 + 1) A_18 hv.1 (Nat.lt_of_lt_of_le hv.2 (Nat.le_of_lt_succ hn10)))
            · have hv := hv2 hc
              clear hv1 hv2 hc
              refine g_blk hC _ bX3_gatherLinks_24_31 (pc' := 31) (ls' := [some (.inr (some 68)), some (.inl a1), some (.inl x2_10), some (.inl x3_18), none, none]) (st' := [.inl a1, .inl x3_18, .inl x2_10, .inr (some 3)]) (I' := I) rfl rfl ?_
              obtain ⟨hp2, hv⟩ := hv
              refine g_callV hC (c_X5_links l D ads I A_18 x2_10 x3_18 a1 hp2) dX3_gatherLinks_31 nm_X5_links rfl rfl wl_X3_40 wi_X5_links ws_X5_links wn_X5 wc_X5_links ⟨by decide, by decide⟩ (as := [.inl x2_10, .inl x3_18, .inl a1]) (rest := []) rfl (Nat.le_of_ble_eq_true rfl) ⟨Nat.le_refl _, Nat.le_refl _⟩ (k_qI ?_)
              obtain ⟨hv1, hv2⟩ := hv
              refine g_ifeq hC dX3_gatherLinks_34 (tgt := 98) (by decide) (fun hc => ?_) (fun hc => ?_)
              · have hv := hv1 hc
                clear hv1 hv2 hc
                refine g_blk hC _ bX3_gatherLinks_98_101 (pc' := 101) (ls' := [some (.inr (some 68)), some (.inl a1), some (.inl x2_10), some (.inl (x3_18 + 1)), none, none]) (st' := []) (I' := I) rfl rfl ?_
                refine g_goto hC dX3_gatherLinks_101 (tgt := 18) (by decide) ?_
                exact g_weak (ls1 := [some (.inr (some 68)), some (.inl a1), some (.inl x2_10), some (.inl (x3_18 + 1)), none, none]) rfl (And.intro rfl (And.intro rfl (And.intro rfl (And.intro rfl trivial)))) (ih18 (x3_18 + 1) A_18 hv.1 (Nat.lt_of_lt_of_le hv.2 (Nat.le_of_lt_succ hn18)))
              · have hv := hv2 hc
                clear hv1 hv2 hc
                refine g_blk hC _ bX3_gatherLinks_37_49 (pc' := 49) (ls' := [some (.inr (some 68)), some (.inl a1), some (.inl x2_10), some (.inl x3_18), none, none]) (st' := [.inl a1, .inl x3_18, .inl x2_10, .inr (some 3), .inl a1, .inr (some 13)]) (I' := I) rfl rfl ?_
                obtain ⟨hp3, hv⟩ := hv
                refine g_callV hC (c_X5_itemOf l D ads I A_18 x2_10 x3_18 a1 hp3) dX3_gatherLinks_49 nm_X5_itemOf rfl rfl wl_X3_45 wi_X5_itemOf ws_X5_itemOf wn_X5 wc_X5_itemOf ⟨by decide, by decide⟩ (as := [.inl x2_10, .inl x3_18, .inl a1]) (rest := [.inl a1, .inr (some 13)]) rfl (Nat.le_of_ble_eq_true rfl) ⟨Nat.le_refl _, Nat.le_refl _⟩ (k_qI ?_)
                obtain ⟨hp4, hv⟩ := hv
                refine g_callV hC (c_X7_indexOf l D ads I A_18 a1 (itmI (A_18 11) x2_10 x3_18 a1) hp4) dX3_gatherLinks_52 nm_X7_indexOf rfl rfl wl_X3_49 wi_X7_indexOf ws_X7_indexOf wn_X7 wc_X7_indexOf ⟨by decide, by decide⟩ (as := [.inl a1, .inl (itmI (A_18 11) x2_10 x3_18 a1)]) (rest := []) rfl (Nat.le_of_ble_eq_true rfl) ⟨Nat.le_refl _, Nat.le_refl _⟩ (k_qI ?_)
                refine g_blk hC _ bX3_gatherLinks_55_73 (pc' := 73) (ls' := [some (.inr (some 68)), some (.inl a1), some (.inl x2_10), some (.inl x3_18), some (.inl (ixO (A_18 (15 + a1.toNatClampNeg)) (A_18 25 a1.toNatClampNeg).toNatClampNeg (itmI (A_18 11) x2_10 x3_18 a1))), none]) (st' := [.inl (a1 + 1), .inl x3_18, .inl x2_10, .inr (some 3), .inl (a1 + 1), .inr (some 13)]) (I' := I) rfl rfl ?_
                obtain ⟨hp5, hv⟩ := hv
                refine g_callV hC (c_X5_itemOf l D ads I A_18 x2_10 x3_18 (a1 + 1) hp5) dX3_gatherLinks_73 nm_X5_itemOf rfl rfl wl_X3_45 wi_X5_itemOf ws_X5_itemOf wn_X5 wc_X5_itemOf ⟨by decide, by decide⟩ (as := [.inl x2_10, .inl x3_18, .inl (a1 + 1)]) (rest := [.inl (a1 + 1), .inr (some 13)]) rfl (Nat.le_of_ble_eq_true rfl) ⟨Nat.le_refl _, Nat.le_refl _⟩ (k_qI ?_)
                obtain ⟨hp6, hv⟩ := hv
                refine g_callV hC (c_X7_indexOf l D ads I A_18 (a1 + 1) (itmI (A_18 11) x2_10 x3_18 (a1 + 1)) hp6) dX3_gatherLinks_76 nm_X7_indexOf rfl rfl wl_X3_49 wi_X7_indexOf ws_X7_indexOf wn_X7 wc_X7_indexOf ⟨by decide, by decide⟩ (as := [.inl (a1 + 1), .inl (itmI (A_18 11) x2_10 x3_18 (a1 + 1))]) (rest := []) rfl (Nat.le_of_ble_eq_true rfl) ⟨Nat.le_refl _, Nat.le_refl _⟩ (k_qI ?_)
                refine g_blk hC _ bX3_gatherLinks_79_92 (pc' := 92) (ls' := [some (.inr (some 68)), some (.inl a1), some (.inl x2_10), some (.inl x3_18), some (.inl (ixO (A_18 (15 + a1.toNatClampNeg)) (A_18 25 a1.toNatClampNeg).toNatClampNeg (itmI (A_18 11) x2_10 x3_18 a1))), some (.inl (ixO (A_18 (15 + (a1 + 1).toNatClampNeg)) (A_18 25 (a1 + 1).toNatClampNeg).toNatClampNeg (itmI (A_18 11) x2_10 x3_18 (a1 + 1))))]) (st' := [.inl x3_18, .inl x2_10, .inr (some 3), .inl (ixO (A_18 (15 + (a1 + 1).toNatClampNeg)) (A_18 25 (a1 + 1).toNatClampNeg).toNatClampNeg (itmI (A_18 11) x2_10 x3_18 (a1 + 1))), .inl (ixO (A_18 (15 + a1.toNatClampNeg)) (A_18 25 a1.toNatClampNeg).toNatClampNeg (itmI (A_18 11) x2_10 x3_18 a1)), .inr (some 68)]) (I' := I) rfl rfl ?_
                refine g_callV hC (c_X5_straight l D ads I A_18 x2_10 x3_18) dX3_gatherLinks_92 nm_X5_straight rfl rfl wl_X3_55 wi_X5_straight ws_X5_straight wn_X5 wc_X5_straight ⟨by decide, by decide⟩ (as := [.inl x2_10, .inl x3_18]) (rest := [.inl (ixO (A_18 (15 + (a1 + 1).toNatClampNeg)) (A_18 25 (a1 + 1).toNatClampNeg).toNatClampNeg (itmI (A_18 11) x2_10 x3_18 (a1 + 1))), .inl (ixO (A_18 (15 + a1.toNatClampNeg)) (A_18 25 a1.toNatClampNeg).toNatClampNeg (itmI (A_18 11) x2_10 x3_18 a1)), .inr (some 68)]) rfl (Nat.le_of_ble_eq_true rfl) ⟨Nat.le_refl _, Nat.le_refl _⟩ (k_qI ?_)
                refine g_callV hC (c_X3_putLink l D ads I A_18 (ixO (A_18 (15 + a1.toNatClampNeg)) (A_18 25 a1.toNatClampNeg).toNatClampNeg (itmI (A_18 11) x2_10 x3_18 a1)) (ixO (A_18 (15 + (a1 + 1).toNatClampNeg)) (A_18 25 (a1 + 1).toNatClampNeg).toNatClampNeg (itmI (A_18 11) x2_10 x3_18 (a1 + 1))) (strI A_18 x2_10 x3_18)) dX3_gatherLinks_95 nm_X3_putLink rfl rfl wl_X3_58 wi_X3_putLink ws_X3_putLink wn_X3 wc_X3_putLink ⟨by decide, by decide⟩ (as := [.inl (ixO (A_18 (15 + a1.toNatClampNeg)) (A_18 25 a1.toNatClampNeg).toNatClampNeg (itmI (A_18 11) x2_10 x3_18 a1)), .inl (ixO (A_18 (15 + (a1 + 1).toNatClampNeg)) (A_18 25 (a1 + 1).toNatClampNeg).toNatClampNeg (itmI (A_18 11) x2_10 x3_18 (a1 + 1))), .inl (strI A_18 x2_10 x3_18)]) (rest := []) rfl (Nat.le_of_ble_eq_true rfl) ⟨Nat.le_refl _, Nat.le_refl _⟩ (k_qN ?_)
                refine g_blk hC _ bX3_gatherLinks_98_101 (pc' := 101) (ls' := [some (.inr (some 68)), some (.inl a1), some (.inl x2_10), some (.inl (x3_18 + 1)), some (.inl (ixO (A_18 (15 + a1.toNatClampNeg)) (A_18 25 a1.toNatClampNeg).toNatClampNeg (itmI (A_18 11) x2_10 x3_18 a1))), some (.inl (ixO (A_18 (15 + (a1 + 1).toNatClampNeg)) (A_18 25 (a1 + 1).toNatClampNeg).toNatClampNeg (itmI (A_18 11) x2_10 x3_18 (a1 + 1))))]) (st' := []) (I' := I) rfl rfl ?_
                refine g_goto hC dX3_gatherLinks_101 (tgt := 18) (by decide) ?_
                exact g_weak (ls1 := [some (.inr (some 68)), some (.inl a1), some (.inl x2_10), some (.inl (x3_18 + 1)), none, none]) rfl (And.intro rfl (And.intro rfl (And.intro rfl (And.intro rfl trivial)))) (ih18 (x3_18 + 1) (pLk A_18 (ixO (A_18 (15 + a1.toNatClampNeg)) (A_18 25 a1.toNatClampNeg).toNatClampNeg (itmI (A_18 11) x2_10 x3_18 a1)) (ixO (A_18 (15 + (a1 + 1).toNatClampNeg)) (A_18 25 (a1 + 1).toNatClampNeg).toNatClampNeg (itmI (A_18 11) x2_10 x3_18 (a1 + 1))) (strI A_18 x2_10 x3_18)) hv.1 (Nat.lt_of_lt_of_le hv.2 (Nat.le_of_lt_succ hn18)))
        exact g_weak (ls1 := [some (.inr (some 68)), some (.inl a1), some (.inl x2_10), some (.inl 0), none, none]) rfl (And.intro rfl (And.intro rfl (And.intro rfl (And.intro rfl trivial)))) (L18 _ 0 A_10 hi18 (Nat.lt_succ_self _))
  exact g_weak (ls1 := [some (.inr (some 68)), some (.inl a1), some (.inl 0), none, none, none]) rfl (And.intro rfl (And.intro rfl (And.intro rfl trivial))) (L10 _ 0 (filA A 69 25 (0 : Int32)) hi10 (Nat.lt_succ_self _))
set_option maxHeartbeats 4000000 in
set_option maxRecDepth 100000 in
theorem c_X3_gatherLinks (l : Launch) (D : va_G) (ads : AD) (I A : HI) (a1 : Int32) (hp : gLi0 A a1) : Ct l yX3_gatherLinks cX3_gatherLinks 6 none 2 44 D ads shp [.inr (some 68), .inl a1] I A (qV (fun I' A' => I' = I ∧ gLi A a1 A')) := by
  sorry
theorem bX3_begin_0_5 : okB cX3_begin RX3 0 [(5, 0, 0, 0, 0), (23, 26, 3, 1, 0), (3, 1, 0, 0, 0)] := And.intro ⟨_, dX3_begin_0, rfl⟩ (And.intro ⟨dX3_begin_1, fl_X3_26⟩ (And.intro ⟨_, dX3_begin_4, rfl⟩ trivial))
theorem bX3_begin_8_16 : okB cX3_begin RX3 8 [(7, 3, 0, 0, 0), (5, 0, 0, 0, 0), (23, 26, 3, 1, 0), (3, 1, 0, 0, 0), (0, 0, 0, 0, 1), (12, 0, 0, 0, 0)] := And.intro ⟨_, dX3_begin_8, rfl⟩ (And.intro ⟨_, dX3_begin_9, rfl⟩ (And.intro ⟨dX3_begin_10, fl_X3_26⟩ (And.intro ⟨_, dX3_begin_13, rfl⟩ (And.intro ⟨_, dX3_begin_14, by decide⟩ (And.intro dX3_begin_15 trivial)))))
theorem bX3_begin_19_29 : okB cX3_begin RX3 19 [(8, 4, 0, 0, 0), (5, 0, 0, 0, 0), (0, 0, 0, 0, 0), (24, 18, 3, 5, 0), (0, 0, 0, 0, 0), (8, 5, 0, 0, 0)] := And.intro dX3_begin_19 (And.intro ⟨_, dX3_begin_21, rfl⟩ (And.intro ⟨_, dX3_begin_22, by decide⟩ (And.intro ⟨dX3_begin_23, fl_X3_18, rfl, rfl⟩ (And.intro ⟨_, dX3_begin_26, by decide⟩ (And.intro dX3_begin_27 trivial)))))
theorem bX3_begin_29_32 : okB cX3_begin RX3 29 [(4, 5, 0, 0, 0), (3, 3, 0, 0, 0)] := And.intro dX3_begin_29 (And.intro ⟨_, dX3_begin_31, rfl⟩ trivial)
theorem bX3_begin_35_41 : okB cX3_begin RX3 35 [(4, 5, 0, 0, 0), (0, 0, 0, 0, 1), (12, 0, 0, 0, 0), (8, 6, 0, 0, 0)] := And.intro dX3_begin_35 (And.intro ⟨_, dX3_begin_37, by decide⟩ (And.intro dX3_begin_38 (And.intro dX3_begin_39 trivial)))
theorem bX3_begin_41_44 : okB cX3_begin RX3 41 [(4, 6, 0, 0, 0), (3, 3, 0, 0, 0)] := And.intro dX3_begin_41 (And.intro ⟨_, dX3_begin_43, rfl⟩ trivial)
theorem bX3_begin_221_224 : okB cX3_begin RX3 221 [(11, 5, 0, 0, 1)] := And.intro ⟨_, dX3_begin_221, by decide⟩ trivial
theorem bX3_begin_47_54 : okB cX3_begin RX3 47 [(5, 0, 0, 0, 0), (23, 26, 3, 1, 0), (3, 1, 0, 0, 0), (4, 5, 0, 0, 0)] := And.intro ⟨_, dX3_begin_47, rfl⟩ (And.intro ⟨dX3_begin_48, fl_X3_26⟩ (And.intro ⟨_, dX3_begin_51, rfl⟩ (And.intro dX3_begin_52 trivial)))
theorem bX3_begin_57_66 : okB cX3_begin RX3 57 [(8, 7, 0, 0, 0), (5, 0, 0, 0, 0), (23, 26, 3, 1, 0), (3, 1, 0, 0, 0), (4, 6, 0, 0, 0)] := And.intro dX3_begin_57 (And.intro ⟨_, dX3_begin_59, rfl⟩ (And.intro ⟨dX3_begin_60, fl_X3_26⟩ (And.intro ⟨_, dX3_begin_63, rfl⟩ (And.intro dX3_begin_64 trivial))))
theorem bX3_begin_69_80 : okB cX3_begin RX3 69 [(8, 8, 0, 0, 0), (3, 2, 0, 0, 0), (5, 0, 0, 0, 0), (23, 30, 3, 2, 0), (4, 7, 0, 0, 0), (4, 8, 0, 0, 0)] := And.intro dX3_begin_69 (And.intro ⟨_, dX3_begin_71, rfl⟩ (And.intro ⟨_, dX3_begin_72, rfl⟩ (And.intro ⟨dX3_begin_73, fl_X3_30⟩ (And.intro dX3_begin_76 (And.intro dX3_begin_78 trivial)))))
theorem bX3_begin_83_95 : okB cX3_begin RX3 83 [(14, 0, 0, 0, 0), (8, 9, 0, 0, 0), (3, 2, 0, 0, 0), (5, 0, 0, 0, 0), (23, 30, 3, 2, 0), (4, 8, 0, 0, 0), (4, 7, 0, 0, 0)] := And.intro dX3_begin_83 (And.intro dX3_begin_84 (And.intro ⟨_, dX3_begin_86, rfl⟩ (And.intro ⟨_, dX3_begin_87, rfl⟩ (And.intro ⟨dX3_begin_88, fl_X3_30⟩ (And.intro dX3_begin_91 (And.intro dX3_begin_93 trivial))))))
theorem bX3_begin_98_104 : okB cX3_begin RX3 98 [(14, 0, 0, 0, 0), (8, 10, 0, 0, 0), (0, 0, 0, 0, 0), (8, 11, 0, 0, 0)] := And.intro dX3_begin_98 (And.intro dX3_begin_99 (And.intro ⟨_, dX3_begin_101, by decide⟩ (And.intro dX3_begin_102 trivial)))
theorem bX3_begin_104_108 : okB cX3_begin RX3 104 [(4, 11, 0, 0, 0), (4, 4, 0, 0, 0)] := And.intro dX3_begin_104 (And.intro dX3_begin_106 trivial)
theorem bX3_begin_170_189 : okB cX3_begin RX3 170 [(5, 0, 0, 0, 0), (20, 0, 0, 0, 0), (23, 18, 3, 5, 0), (4, 9, 0, 0, 0), (12, 0, 0, 0, 0), (24, 18, 3, 5, 0), (5, 0, 0, 0, 0), (23, 15, 3, 4, 0), (4, 5, 0, 0, 0), (4, 6, 0, 0, 0)] := And.intro ⟨_, dX3_begin_170, rfl⟩ (And.intro dX3_begin_171 (And.intro ⟨dX3_begin_172, fl_X3_18⟩ (And.intro dX3_begin_175 (And.intro dX3_begin_177 (And.intro ⟨dX3_begin_178, fl_X3_18, rfl, rfl⟩ (And.intro ⟨_, dX3_begin_181, rfl⟩ (And.intro ⟨dX3_begin_182, fl_X3_15⟩ (And.intro dX3_begin_185 (And.intro dX3_begin_187 trivial)))))))))
theorem bX3_begin_192_197 : okB cX3_begin RX3 192 [(4, 10, 0, 0, 0), (4, 9, 0, 0, 0), (13, 0, 0, 0, 0)] := And.intro dX3_begin_192 (And.intro dX3_begin_194 (And.intro dX3_begin_196 trivial))
theorem bX3_begin_198_206 : okB cX3_begin RX3 198 [(5, 0, 0, 0, 0), (23, 15, 3, 4, 0), (4, 6, 0, 0, 0), (4, 5, 0, 0, 0)] := And.intro ⟨_, dX3_begin_198, rfl⟩ (And.intro ⟨dX3_begin_199, fl_X3_15⟩ (And.intro dX3_begin_202 (And.intro dX3_begin_204 trivial)))
theorem bX3_begin_209_214 : okB cX3_begin RX3 209 [(4, 9, 0, 0, 0), (4, 10, 0, 0, 0), (13, 0, 0, 0, 0)] := And.intro dX3_begin_209 (And.intro dX3_begin_211 (And.intro dX3_begin_213 trivial))
theorem bX3_begin_215_218 : okB cX3_begin RX3 215 [(11, 6, 0, 0, 1)] := And.intro ⟨_, dX3_begin_215, by decide⟩ trivial
theorem bX3_begin_111_117 : okB cX3_begin RX3 111 [(4, 11, 0, 0, 0), (0, 0, 0, 0, 1), (12, 0, 0, 0, 0), (8, 12, 0, 0, 0)] := And.intro dX3_begin_111 (And.intro ⟨_, dX3_begin_113, by decide⟩ (And.intro dX3_begin_114 (And.intro dX3_begin_115 trivial)))
theorem bX3_begin_117_121 : okB cX3_begin RX3 117 [(4, 12, 0, 0, 0), (4, 4, 0, 0, 0)] := And.intro dX3_begin_117 (And.intro dX3_begin_119 trivial)
theorem bX3_begin_164_167 : okB cX3_begin RX3 164 [(11, 11, 0, 0, 1)] := And.intro ⟨_, dX3_begin_164, by decide⟩ trivial
theorem bX3_begin_124_135 : okB cX3_begin RX3 124 [(4, 9, 0, 0, 0), (5, 0, 0, 0, 0), (4, 5, 0, 0, 0), (4, 6, 0, 0, 0), (4, 11, 0, 0, 0), (4, 12, 0, 0, 0)] := And.intro dX3_begin_124 (And.intro ⟨_, dX3_begin_126, rfl⟩ (And.intro dX3_begin_127 (And.intro dX3_begin_129 (And.intro dX3_begin_131 (And.intro dX3_begin_133 trivial)))))
theorem bX3_begin_138_152 : okB cX3_begin RX3 138 [(12, 0, 0, 0, 0), (8, 9, 0, 0, 0), (4, 10, 0, 0, 0), (5, 0, 0, 0, 0), (4, 6, 0, 0, 0), (4, 5, 0, 0, 0), (4, 11, 0, 0, 0), (4, 12, 0, 0, 0)] := And.intro dX3_begin_138 (And.intro dX3_begin_139 (And.intro dX3_begin_141 (And.intro ⟨_, dX3_begin_143, rfl⟩ (And.intro dX3_begin_144 (And.intro dX3_begin_146 (And.intro dX3_begin_148 (And.intro dX3_begin_150 trivial)))))))
theorem bX3_begin_155_161 : okB cX3_begin RX3 155 [(12, 0, 0, 0, 0), (8, 10, 0, 0, 0), (11, 12, 0, 0, 1)] := And.intro dX3_begin_155 (And.intro dX3_begin_156 (And.intro ⟨_, dX3_begin_158, by decide⟩ trivial))
set_option maxHeartbeats 4000000 in
set_option maxRecDepth 100000 in
theorem k_X3_begin (l : Launch) (D : va_G) (ads : AD) (I A : HI) (a1 : Int32) (a2 : Int32) (po : Option AV → HI → HI → Prop) (Iv29 : Int32 → HI → HI → Prop) (mu29 : Int32 → HI → HI → Nat) (Iv41 : Int32 → HI → HI → Int32 → HI → HI → Prop) (mu41 : Int32 → HI → HI → Int32 → HI → HI → Nat) (Iv104 : Int32 → HI → HI → Int32 → HI → HI → Int32 → Int32 → Int32 → Prop) (mu104 : Int32 → HI → HI → Int32 → HI → HI → Int32 → Int32 → Int32 → Nat) (Iv117 : Int32 → HI → HI → Int32 → HI → HI → Int32 → Int32 → Int32 → Int32 → Int32 → Int32 → Prop) (mu117 : Int32 → HI → HI → Int32 → HI → HI → Int32 → Int32 → Int32 → Int32 → Int32 → Int32 → Nat)
    (hv : ((vp_in a1 11) ∧ ((vp_in (a1 + 1) 11) ∧ (Iv29 0 (up2 I 68 5 0) A ∧ ∀ (x5_29 : Int32) (I_29 : HI) (A_29 : HI), Iv29 x5_29 I_29 A_29 → (((A 25 a1.toNatClampNeg) ≤ x5_29 → po none I_29 A_29) ∧ (¬ (A 25 a1.toNatClampNeg) ≤ x5_29 → (Iv41 x5_29 I_29 A_29 (x5_29 + 1) I_29 A_29 ∧ ∀ (x6_41 : Int32) (I_41 : HI) (A_41 : HI), Iv41 x5_29 I_29 A_29 x6_41 I_41 A_41 → (((A 25 a1.toNatClampNeg) ≤ x6_41 → (Iv29 (x5_29 + 1) I_41 A_41 ∧ mu29 (x5_29 + 1) I_41 A_41 < mu29 x5_29 I_29 A_29)) ∧ (¬ (A 25 a1.toNatClampNeg) ≤ x6_41 → ((vp_in a1 10 ∧ vp_in x5_29 26) ∧ ((vp_in a1 10 ∧ vp_in x6_41 26) ∧ (Iv104 x5_29 I_29 A_29 x6_41 I_41 A_41 (a2 * (mvI (A_41 27) (A_41 28) (A_41 (15 + a1.toNatClampNeg) x5_29.toNatClampNeg) (A_41 (15 + a1.toNatClampNeg) x6_41.toNatClampNeg))) (a2 * (mvI (A_41 27) (A_41 28) (A_41 (15 + a1.toNatClampNeg) x6_41.toNatClampNeg) (A_41 (15 + a1.toNatClampNeg) x5_29.toNatClampNeg))) 0 ∧ ∀ (x9_104 : Int32) (x10_104 : Int32) (x11_104 : Int32), Iv104 x5_29 I_29 A_29 x6_41 I_41 A_41 x9_104 x10_104 x11_104 → (((A 25 (a1 + 1).toNatClampNeg) ≤ x11_104 → (vp_in (x5_29 * 5 + x6_41) 25 ∧ (vp_in (x6_41 * 5 + x5_29) 25 ∧ (Iv41 x5_29 I_29 A_29 (x6_41 + 1) (up2 I_41 68 5 ((I_41 68 5) + x9_104)) (up2 (up2 A_41 70 (x5_29 * 5 + x6_41).toNatClampNeg (x10_104 - x9_104)) 70 (x6_41 * 5 + x5_29).toNatClampNeg (x9_104 - x10_104)) ∧ mu41 x5_29 I_29 A_29 (x6_41 + 1) (up2 I_41 68 5 ((I_41 68 5) + x9_104)) (up2 (up2 A_41 70 (x5_29 * 5 + x6_41).toNatClampNeg (x10_104 - x9_104)) 70 (x6_41 * 5 + x5_29).toNatClampNeg (x9_104 - x10_104)) < mu41 x5_29 I_29 A_29 x6_41 I_41 A_41)))) ∧ (¬ (A 25 (a1 + 1).toNatClampNeg) ≤ x11_104 → (Iv117 x5_29 I_29 A_29 x6_41 I_41 A_41 x9_104 x10_104 x11_104 x9_104 x10_104 (x11_104 + 1) ∧ ∀ (x9_117 : Int32) (x10_117 : Int32) (x12_117 : Int32), Iv117 x5_29 I_29 A_29 x6_41 I_41 A_41 x9_104 x10_104 x11_104 x9_117 x10_117 x12_117 → (((A 25 (a1 + 1).toNatClampNeg) ≤ x12_117 → (Iv104 x5_29 I_29 A_29 x6_41 I_41 A_41 x9_117 x10_117 (x11_104 + 1) ∧ mu104 x5_29 I_29 A_29 x6_41 I_41 A_41 x9_117 x10_117 (x11_104 + 1) < mu104 x5_29 I_29 A_29 x6_41 I_41 A_41 x9_104 x10_104 x11_104)) ∧ (¬ (A 25 (a1 + 1).toNatClampNeg) ≤ x12_117 → ((vp_in (x5_29 * 5 + x12_117) 25 ∧ vp_in (x6_41 * 5 + x11_104) 25) ∧ ((vp_in (x6_41 * 5 + x12_117) 25 ∧ vp_in (x5_29 * 5 + x11_104) 25) ∧ (Iv117 x5_29 I_29 A_29 x6_41 I_41 A_41 x9_104 x10_104 x11_104 (x9_117 + (A_41 69 (x5_29 * 5 + x12_117).toNatClampNeg * A_41 69 (x6_41 * 5 + x11_104).toNatClampNeg)) (x10_117 + (A_41 69 (x6_41 * 5 + x12_117).toNatClampNeg * A_41 69 (x5_29 * 5 + x11_104).toNatClampNeg)) (x12_117 + 1) ∧ mu117 x5_29 I_29 A_29 x6_41 I_41 A_41 x9_104 x10_104 x11_104 (x9_117 + (A_41 69 (x5_29 * 5 + x12_117).toNatClampNeg * A_41 69 (x6_41 * 5 + x11_104).toNatClampNeg)) (x10_117 + (A_41 69 (x6_41 * 5 + x12_117).toNatClampNeg * A_41 69 (x5_29 * 5 + x11_104).toNatClampNeg)) (x12_117 + 1) < mu117 x5_29 I_29 A_29 x6_41 I_41 A_41 x9_104 x10_104 x11_104 x9_117 x10_117 x12_117)))))))))))))))))))) : Ct l yX3_begin cX3_begin 13 none 2 45 D ads shp [.inr (some 68), .inl a1, .inl a2] I A po := by
  refine Ct_of (by decide) (Nat.le_of_ble_eq_true rfl) ?_
  intro p e s m args below meth c hC hr
  replace hC : CX p s m args meth c cX3_begin 13 RX3 (AdS ads s.heap.size) := hC
  show Gm p l e s m args below meth c D ads 2 45 13 po I A 0 [some (.inr (some 68)), some (.inl a1), some (.inl a2), none, none, none, none, none, none, none, none, none, none] []
  refine g_blk hC _ bX3_begin_0_5 (pc' := 5) (ls' := [some (.inr (some 68)), some (.inl a1), some (.inl a2), none, none, none, none, none, none, none, none, none, none]) (st' := [.inl a1, .inr (some 13)]) (I' := I) rfl rfl ?_
  obtain ⟨hp1, hv⟩ := hv
  refine g_callV hC (c_X7_countIn l D ads I A a1 hp1) dX3_begin_5 nm_X7_countIn rfl rfl wl_X3_62 wi_X7_countIn ws_X7_countIn wn_X7 wc_X7_countIn ⟨by decide, by decide⟩ (as := [.inl a1]) (rest := []) rfl (Nat.le_of_ble_eq_true rfl) ⟨Nat.le_refl _, Nat.le_refl _⟩ (k_qI ?_)
  refine g_blk hC _ bX3_begin_8_16 (pc' := 16) (ls' := [some (.inr (some 68)), some (.inl a1), some (.inl a2), some (.inl (A 25 a1.toNatClampNeg)), none, none, none, none, none, none, none, none, none]) (st' := [.inl (a1 + 1), .inr (some 13)]) (I' := I) rfl rfl ?_
  obtain ⟨hp2, hv⟩ := hv
  refine g_callV hC (c_X7_countIn l D ads I A (a1 + 1) hp2) dX3_begin_16 nm_X7_countIn rfl rfl wl_X3_62 wi_X7_countIn ws_X7_countIn wn_X7 wc_X7_countIn ⟨by decide, by decide⟩ (as := [.inl (a1 + 1)]) (rest := []) rfl (Nat.le_of_ble_eq_true rfl) ⟨Nat.le_refl _, Nat.le_refl _⟩ (k_qI ?_)
  refine g_blk hC _ bX3_begin_19_29 (pc' := 29) (ls' := [some (.inr (some 68)), some (.inl a1), some (.inl a2), some (.inl (A 25 a1.toNatClampNeg)), some (.inl (A 25 (a1 + 1).toNatClampNeg)), some (.inl 0), none, none, none, none, none, none, none]) (st' := []) (I' := up2 I 68 5 0) rfl rfl ?_
  obtain ⟨hi29, hb29⟩ := hv
  have L29 : ∀ (n : Nat) (x5_29 : Int32) (I_29 : HI) (A_29 : HI), Iv29 x5_29 I_29 A_29 → mu29 x5_29 I_29 A_29 < n → Gm p l e s m args below meth c D ads 2 45 13 po I_29 A_29 29 [some (.inr (some 68)), some (.inl a1), some (.inl a2), some (.inl (A 25 a1.toNatClampNeg)), some (.inl (A 25 (a1 + 1).toNatClampNeg)), some (.inl x5_29), none, none, none, none, none, none, none] [] := by
    intro n
    induction n with
    | zero => intro x5_29 I_29 A_29 _ hn; exact absurd hn (Nat.not_lt_zero _)
    | succ n ih29 =>
      intro x5_29 I_29 A_29 hv hn29
      replace hv := hb29 x5_29 I_29 A_29 hv
      skip
      refine g_blk hC _ bX3_begin_29_32 (pc' := 32) (ls' := [some (.inr (some 68)), some (.inl a1), some (.inl a2), some (.inl (A 25 a1.toNatClampNeg)), some (.inl (A 25 (a1 + 1).toNatClampNeg)), some (.inl x5_29), none, none, none, none, none, none, none]) (st' := [.inl (A 25 a1.toNatClampNeg), .inl x5_29]) (I' := I_29) rfl rfl ?_
      obtain ⟨hv1, hv2⟩ := hv
      refine g_cge hC dX3_begin_32 (tgt := 227) (by decide) (fun hc => ?_) (fun hc => ?_)
      · have hv := hv1 hc
        clear hv1 hv2 hc
        exact g_retv hC hr dX3_begin_227 hv
      · have hv := hv2 hc
        clear hv1 hv2 hc
        refine g_blk hC _ bX3_begin_35_41 (pc' := 41) (ls' := [some (.inr (some 68)), some (.inl a1), some (.inl a2), some (.inl (A 25 a1.toNatClampNeg)), some (.inl (A 25 (a1 + 1).toNatClampNeg)), some (.inl x5_29), some (.inl (x5_29 + 1)), none, none, none, none, none, none]) (st' := []) (I' := I_29) rfl rfl ?_
        obtain ⟨hi41, hb41⟩ := hv
        have L41 : ∀ (n : Nat) (x6_41 : Int32) (I_41 : HI) (A_41 : HI), Iv41 x5_29 I_29 A_29 x6_41 I_41 A_41 → mu41 x5_29 I_29 A_29 x6_41 I_41 A_41 < n → Gm p l e s m args below meth c D ads 2 45 13 po I_41 A_41 41 [some (.inr (some 68)), some (.inl a1), some (.inl a2), some (.inl (A 25 a1.toNatClampNeg)), some (.inl (A 25 (a1 + 1).toNatClampNeg)), some (.inl x5_29), some (.inl x6_41), none, none, none, none, none, none] [] := by
          intro n
          induction n with
          | zero => intro x6_41 I_41 A_41 _ hn; exact absurd hn (Nat.not_lt_zero _)
          | succ n ih41 =>
            intro x6_41 I_41 A_41 hv hn41
            replace hv := hb41 x6_41 I_41 A_41 hv
            skip
            refine g_blk hC _ bX3_begin_41_44 (pc' := 44) (ls' := [some (.inr (some 68)), some (.inl a1), some (.inl a2), some (.inl (A 25 a1.toNatClampNeg)), some (.inl (A 25 (a1 + 1).toNatClampNeg)), some (.inl x5_29), some (.inl x6_41), none, none, none, none, none, none]) (st' := [.inl (A 25 a1.toNatClampNeg), .inl x6_41]) (I' := I_41) rfl rfl ?_
            obtain ⟨hv1, hv2⟩ := hv
            refine g_cge hC dX3_begin_44 (tgt := 221) (by decide) (fun hc => ?_) (fun hc => ?_)
            · have hv := hv1 hc
              clear hv1 hv2 hc
              refine g_blk hC _ bX3_begin_221_224 (pc' := 224) (ls' := [some (.inr (some 68)), some (.inl a1), some (.inl a2), some (.inl (A 25 a1.toNatClampNeg)), some (.inl (A 25 (a1 + 1).toNatClampNeg)), some (.inl (x5_29 + 1)), some (.inl x6_41), none, none, none, none, none, none]) (st' := []) (I' := I_41) rfl rfl ?_
              refine g_goto hC dX3_begin_224 (tgt := 29) (by decide) ?_
              exact g_weak (ls1 := [some (.inr (some 68)), some (.inl a1), some (.inl a2), some (.inl (A 25 a1.toNatClampNeg)), some (.inl (A 25 (a1 + 1).toNatClampNeg)), some (.inl (x5_29 + 1)), none, none, none, none, none, none, none]) rfl (And.intro rfl (And.intro rfl (And.intro rfl (And.intro rfl (And.intro rfl (And.intro rfl trivial)))))) (ih29 (x5_29 + 1) I_41 A_41 hv.1 (Nat.lt_of_lt_of_le hv.2 (Nat.le_of_lt_succ hn29)))
            · have hv := hv2 hc
              clear hv1 hv2 hc
              refine g_blk hC _ bX3_begin_47_54 (pc' := 54) (ls' := [some (.inr (some 68)), some (.inl a1), some (.inl a2), some (.inl (A 25 a1.toNatClampNeg)), some (.inl (A 25 (a1 + 1).toNatClampNeg)), some (.inl x5_29), some (.inl x6_41), none, none, none, none, none, none]) (st' := [.inl x5_29, .inl a1, .inr (some 13)]) (I' := I_41) rfl rfl ?_
              obtain ⟨hp3, hv⟩ := hv
              refine g_callV hC (c_X7_numberAt l D ads I_41 A_41 a1 x5_29 hp3) dX3_begin_54 nm_X7_numberAt rfl rfl wl_X3_66 wi_X7_numberAt ws_X7_numberAt wn_X7 wc_X7_numberAt ⟨by decide, by decide⟩ (as := [.inl a1, .inl x5_29]) (rest := []) rfl (Nat.le_of_ble_eq_true rfl) ⟨Nat.le_refl _, Nat.le_refl _⟩ (k_qI ?_)
              refine g_blk hC _ bX3_begin_57_66 (pc' := 66) (ls' := [some (.inr (some 68)), some (.inl a1), some (.inl a2), some (.inl (A 25 a1.toNatClampNeg)), some (.inl (A 25 (a1 + 1).toNatClampNeg)), some (.inl x5_29), some (.inl x6_41), some (.inl (A_41 (15 + a1.toNatClampNeg) x5_29.toNatClampNeg)), none, none, none, none, none]) (st' := [.inl x6_41, .inl a1, .inr (some 13)]) (I' := I_41) rfl rfl ?_
              obtain ⟨hp4, hv⟩ := hv
              refine g_callV hC (c_X7_numberAt l D ads I_41 A_41 a1 x6_41 hp4) dX3_begin_66 nm_X7_numberAt rfl rfl wl_X3_66 wi_X7_numberAt ws_X7_numberAt wn_X7 wc_X7_numberAt ⟨by decide, by decide⟩ (as := [.inl a1, .inl x6_41]) (rest := []) rfl (Nat.le_of_ble_eq_true rfl) ⟨Nat.le_refl _, Nat.le_refl _⟩ (k_qI ?_)
              refine g_blk hC _ bX3_begin_69_80 (pc' := 80) (ls' := [some (.inr (some 68)), some (.inl a1), some (.inl a2), some (.inl (A 25 a1.toNatClampNeg)), some (.inl (A 25 (a1 + 1).toNatClampNeg)), some (.inl x5_29), some (.inl x6_41), some (.inl (A_41 (15 + a1.toNatClampNeg) x5_29.toNatClampNeg)), some (.inl (A_41 (15 + a1.toNatClampNeg) x6_41.toNatClampNeg)), none, none, none, none]) (st' := [.inl (A_41 (15 + a1.toNatClampNeg) x6_41.toNatClampNeg), .inl (A_41 (15 + a1.toNatClampNeg) x5_29.toNatClampNeg), .inr (some 26), .inl a2]) (I' := I_41) rfl rfl ?_
              refine g_callV hC (c_X4_moves l D ads I_41 A_41 (A_41 (15 + a1.toNatClampNeg) x5_29.toNatClampNeg) (A_41 (15 + a1.toNatClampNeg) x6_41.toNatClampNeg)) dX3_begin_80 nm_X4_moves rfl rfl wl_X3_69 wi_X4_moves ws_X4_moves wn_X4 wc_X4_moves ⟨by decide, by decide⟩ (as := [.inl (A_41 (15 + a1.toNatClampNeg) x5_29.toNatClampNeg), .inl (A_41 (15 + a1.toNatClampNeg) x6_41.toNatClampNeg)]) (rest := [.inl a2]) rfl (Nat.le_of_ble_eq_true rfl) ⟨Nat.le_refl _, Nat.le_refl _⟩ (k_qI ?_)
              refine g_blk hC _ bX3_begin_83_95 (pc' := 95) (ls' := [some (.inr (some 68)), some (.inl a1), some (.inl a2), some (.inl (A 25 a1.toNatClampNeg)), some (.inl (A 25 (a1 + 1).toNatClampNeg)), some (.inl x5_29), some (.inl x6_41), some (.inl (A_41 (15 + a1.toNatClampNeg) x5_29.toNatClampNeg)), some (.inl (A_41 (15 + a1.toNatClampNeg) x6_41.toNatClampNeg)), some (.inl (a2 * (mvI (A_41 27) (A_41 28) (A_41 (15 + a1.toNatClampNeg) x5_29.toNatClampNeg) (A_41 (15 + a1.toNatClampNeg) x6_41.toNatClampNeg)))), none, none, none]) (st' := [.inl (A_41 (15 + a1.toNatClampNeg) x5_29.toNatClampNeg), .inl (A_41 (15 + a1.toNatClampNeg) x6_41.toNatClampNeg), .inr (some 26), .inl a2]) (I' := I_41) rfl rfl ?_
              refine g_callV hC (c_X4_moves l D ads I_41 A_41 (A_41 (15 + a1.toNatClampNeg) x6_41.toNatClampNeg) (A_41 (15 + a1.toNatClampNeg) x5_29.toNatClampNeg)) dX3_begin_95 nm_X4_moves rfl rfl wl_X3_69 wi_X4_moves ws_X4_moves wn_X4 wc_X4_moves ⟨by decide, by decide⟩ (as := [.inl (A_41 (15 + a1.toNatClampNeg) x6_41.toNatClampNeg), .inl (A_41 (15 + a1.toNatClampNeg) x5_29.toNatClampNeg)]) (rest := [.inl a2]) rfl (Nat.le_of_ble_eq_true rfl) ⟨Nat.le_refl _, Nat.le_refl _⟩ (k_qI ?_)
              refine g_blk hC _ bX3_begin_98_104 (pc' := 104) (ls' := [some (.inr (some 68)), some (.inl a1), some (.inl a2), some (.inl (A 25 a1.toNatClampNeg)), some (.inl (A 25 (a1 + 1).toNatClampNeg)), some (.inl x5_29), some (.inl x6_41), some (.inl (A_41 (15 + a1.toNatClampNeg) x5_29.toNatClampNeg)), some (.inl (A_41 (15 + a1.toNatClampNeg) x6_41.toNatClampNeg)), some (.inl (a2 * (mvI (A_41 27) (A_41 28) (A_41 (15 + a1.toNatClampNeg) x5_29.toNatClampNeg) (A_41 (15 + a1.toNatClampNeg) x6_41.toNatClampNeg)))), some (.inl (a2 * (mvI (A_41 27) (A_41 28) (A_41 (15 + a1.toNatClampNeg) x6_41.toNatClampNeg) (A_41 (15 + a1.toNatClampNeg) x5_29.toNatClampNeg)))), some (.inl 0), none]) (st' := []) (I' := I_41) rfl rfl ?_
              obtain ⟨hi104, hb104⟩ := hv
              have L104 : ∀ (n : Nat) (x9_104 : Int32) (x10_104 : Int32) (x11_104 : Int32), Iv104 x5_29 I_29 A_29 x6_41 I_41 A_41 x9_104 x10_104 x11_104 → mu104 x5_29 I_29 A_29 x6_41 I_41 A_41 x9_104 x10_104 x11_104 < n → Gm p l e s m args below meth c D ads 2 45 13 po I_41 A_41 104 [some (.inr (some 68)), some (.inl a1), some (.inl a2), some (.inl (A 25 a1.toNatClampNeg)), some (.inl (A 25 (a1 + 1).toNatClampNeg)), some (.inl x5_29), some (.inl x6_41), none, none, some (.inl x9_104), some (.inl x10_104), some (.inl x11_104), none] [] := by
                intro n
                induction n with
                | zero => intro x9_104 x10_104 x11_104 _ hn; exact absurd hn (Nat.not_lt_zero _)
                | succ n ih104 =>
                  intro x9_104 x10_104 x11_104 hv hn104
                  replace hv := hb104 x9_104 x10_104 x11_104 hv
                  skip
                  refine g_blk hC _ bX3_begin_104_108 (pc' := 108) (ls' := [some (.inr (some 68)), some (.inl a1), some (.inl a2), some (.inl (A 25 a1.toNatClampNeg)), some (.inl (A 25 (a1 + 1).toNatClampNeg)), some (.inl x5_29), some (.inl x6_41), none, none, some (.inl x9_104), some (.inl x10_104), some (.inl x11_104), none]) (st' := [.inl (A 25 (a1 + 1).toNatClampNeg), .inl x11_104]) (I' := I_41) rfl rfl ?_
                  obtain ⟨hv1, hv2⟩ := hv
                  refine g_cge hC dX3_begin_108 (tgt := 170) (by decide) (fun hc => ?_) (fun hc => ?_)
                  · have hv := hv1 hc
                    clear hv1 hv2 hc
                    refine g_blk hC _ bX3_begin_170_189 (pc' := 189) (ls' := [some (.inr (some 68)), some (.inl a1), some (.inl a2), some (.inl (A 25 a1.toNatClampNeg)), some (.inl (A 25 (a1 + 1).toNatClampNeg)), some (.inl x5_29), some (.inl x6_41), none, none, some (.inl x9_104), some (.inl x10_104), some (.inl x11_104), none]) (st' := [.inl x6_41, .inl x5_29, .inr (some 70)]) (I' := up2 I_41 68 5 ((I_41 68 5) + x9_104)) rfl rfl ?_
                    refine g_callN (host := RX8) hC (c_X8_pair l D ads (up2 I_41 68 5 ((I_41 68 5) + x9_104)) A_41 x5_29 x6_41) dX3_begin_189 nm_X8_pair (List.mem_of_getElem? (i := 4) rfl) wt_X8_pair wn_X8 wc_X8_pair ⟨by decide, by decide⟩ (as := [.inl x5_29, .inl x6_41]) (rest := [.inr (some 70)]) rfl (Nat.le_of_ble_eq_true rfl) ⟨Nat.le_refl _, Nat.le_refl _⟩ (k_qI ?_)
                    refine g_blk hC _ bX3_begin_192_197 (pc' := 197) (ls' := [some (.inr (some 68)), some (.inl a1), some (.inl a2), some (.inl (A 25 a1.toNatClampNeg)), some (.inl (A 25 (a1 + 1).toNatClampNeg)), some (.inl x5_29), some (.inl x6_41), none, none, some (.inl x9_104), some (.inl x10_104), some (.inl x11_104), none]) (st' := [.inl (x10_104 - x9_104), .inl (x5_29 * 5 + x6_41), .inr (some 70)]) (I' := up2 I_41 68 5 ((I_41 68 5) + x9_104)) rfl rfl ?_
                    obtain ⟨hi, hv⟩ := hv
                    refine g_iast hC dX3_begin_197 (rfl) hi ?_
                    clear hi
                    refine g_blk hC _ bX3_begin_198_206 (pc' := 206) (ls' := [some (.inr (some 68)), some (.inl a1), some (.inl a2), some (.inl (A 25 a1.toNatClampNeg)), some (.inl (A 25 (a1 + 1).toNatClampNeg)), some (.inl x5_29), some (.inl x6_41), none, none, some (.inl x9_104), some (.inl x10_104), some (.inl x11_104), none]) (st' := [.inl x5_29, .inl x6_41, .inr (some 70)]) (I' := up2 I_41 68 5 ((I_41 68 5) + x9_104)) rfl rfl ?_
                    refine g_callN (host := RX8) hC (c_X8_pair l D ads (up2 I_41 68 5 ((I_41 68 5) + x9_104)) (up2 A_41 70 (x5_29 * 5 + x6_41).toNatClampNeg (x10_104 - x9_104)) x6_41 x5_29) dX3_begin_206 nm_X8_pair (List.mem_of_getElem? (i := 4) rfl) wt_X8_pair wn_X8 wc_X8_pair ⟨by decide, by decide⟩ (as := [.inl x6_41, .inl x5_29]) (rest := [.inr (some 70)]) rfl (Nat.le_of_ble_eq_true rfl) ⟨Nat.le_refl _, Nat.le_refl _⟩ (k_qI ?_)
                    refine g_blk hC _ bX3_begin_209_214 (pc' := 214) (ls' := [some (.inr (some 68)), some (.inl a1), some (.inl a2), some (.inl (A 25 a1.toNatClampNeg)), some (.inl (A 25 (a1 + 1).toNatClampNeg)), some (.inl x5_29), some (.inl x6_41), none, none, some (.inl x9_104), some (.inl x10_104), some (.inl x11_104), none]) (st' := [.inl (x9_104 - x10_104), .inl (x6_41 * 5 + x5_29), .inr (some 70)]) (I' := up2 I_41 68 5 ((I_41 68 5) + x9_104)) rfl rfl ?_
                    obtain ⟨hi, hv⟩ := hv
                    refine g_iast hC dX3_begin_214 (rfl) hi ?_
                    clear hi
                    refine g_blk hC _ bX3_begin_215_218 (pc' := 218) (ls' := [some (.inr (some 68)), some (.inl a1), some (.inl a2), some (.inl (A 25 a1.toNatClampNeg)), some (.inl (A 25 (a1 + 1).toNatClampNeg)), some (.inl x5_29), some (.inl (x6_41 + 1)), none, none, some (.inl x9_104), some (.inl x10_104), some (.inl x11_104), none]) (st' := []) (I' := up2 I_41 68 5 ((I_41 68 5) + x9_104)) rfl rfl ?_
                    refine g_goto hC dX3_begin_218 (tgt := 41) (by decide) ?_
                    exact g_weak (ls1 := [some (.inr (some 68)), some (.inl a1), some (.inl a2), some (.inl (A 25 a1.toNatClampNeg)), some (.inl (A 25 (a1 + 1).toNatClampNeg)), some (.inl x5_29), some (.inl (x6_41 + 1)), none, none, none, none, none, none]) rfl (And.intro rfl (And.intro rfl (And.intro rfl (And.intro rfl (And.intro rfl (And.intro rfl (And.intro rfl trivial))))))) (ih41 (x6_41 + 1) (up2 I_41 68 5 ((I_41 68 5) + x9_104)) (up2 (up2 A_41 70 (x5_29 * 5 + x6_41).toNatClampNeg (x10_104 - x9_104)) 70 (x6_41 * 5 + x5_29).toNatClampNeg (x9_104 - x10_104)) hv.1 (Nat.lt_of_lt_of_le hv.2 (Nat.le_of_lt_succ hn41)))
                  · have hv := hv2 hc
                    clear hv1 hv2 hc
                    refine g_blk hC _ bX3_begin_111_117 (pc' := 117) (ls' := [some (.inr (some 68)), some (.inl a1), some (.inl a2), some (.inl (A 25 a1.toNatClampNeg)), some (.inl (A 25 (a1 + 1).toNatClampNeg)), some (.inl x5_29), some (.inl x6_41), none, none, some (.inl x9_104), some (.inl x10_104), some (.inl x11_104), some (.inl (x11_104 + 1))]) (st' := []) (I' := I_41) rfl rfl ?_
                    obtain ⟨hi117, hb117⟩ := hv
                    have L117 : ∀ (n : Nat) (x9_117 : Int32) (x10_117 : Int32) (x12_117 : Int32), Iv117 x5_29 I_29 A_29 x6_41 I_41 A_41 x9_104 x10_104 x11_104 x9_117 x10_117 x12_117 → mu117 x5_29 I_29 A_29 x6_41 I_41 A_41 x9_104 x10_104 x11_104 x9_117 x10_117 x12_117 < n → Gm p l e s m args below meth c D ads 2 45 13 po I_41 A_41 117 [some (.inr (some 68)), some (.inl a1), some (.inl a2), some (.inl (A 25 a1.toNatClampNeg)), some (.inl (A 25 (a1 + 1).toNatClampNeg)), some (.inl x5_29), some (.inl x6_41), none, none, some (.inl x9_117), some (.inl x10_117), some (.inl x11_104), some (.inl x12_117)] [] := by
                      intro n
                      induction n with
                      | zero => intro x9_117 x10_117 x12_117 _ hn; exact absurd hn (Nat.not_lt_zero _)
                      | succ n ih117 =>
                        intro x9_117 x10_117 x12_117 hv hn117
                        replace hv := hb117 x9_117 x10_117 x12_117 hv
                        skip
                        refine g_blk hC _ bX3_begin_117_121 (pc' := 121) (ls' := [some (.inr (some 68)), some (.inl a1), some (.inl a2), some (.inl (A 25 a1.toNatClampNeg)), some (.inl (A 25 (a1 + 1).toNatClampNeg)), some (.inl x5_29), some (.inl x6_41), none, none, some (.inl x9_117), some (.inl x10_117), some (.inl x11_104), some (.inl x12_117)]) (st' := [.inl (A 25 (a1 + 1).toNatClampNeg), .inl x12_117]) (I' := I_41) rfl rfl ?_
                        obtain ⟨hv1, hv2⟩ := hv
                        refine g_cge hC dX3_begin_121 (tgt := 164) (by decide) (fun hc => ?_) (fun hc => ?_)
                        · have hv := hv1 hc
                          clear hv1 hv2 hc
                          refine g_blk hC _ bX3_begin_164_167 (pc' := 167) (ls' := [some (.inr (some 68)), some (.inl a1), some (.inl a2), some (.inl (A 25 a1.toNatClampNeg)), some (.inl (A 25 (a1 + 1).toNatClampNeg)), some (.inl x5_29), some (.inl x6_41), none, none, some (.inl x9_117), some (.inl x10_117), some (.inl (x11_104 + 1)), some (.inl x12_117)]) (st' := []) (I' := I_41) rfl rfl ?_
                          refine g_goto hC dX3_begin_167 (tgt := 104) (by decide) ?_
                          exact g_weak (ls1 := [some (.inr (some 68)), some (.inl a1), some (.inl a2), some (.inl (A 25 a1.toNatClampNeg)), some (.inl (A 25 (a1 + 1).toNatClampNeg)), some (.inl x5_29), some (.inl x6_41), none, none, some (.inl x9_117), some (.inl x10_117), some (.inl (x11_104 + 1)), none]) rfl (And.intro rfl (And.intro rfl (And.intro rfl (And.intro rfl (And.intro rfl (And.intro rfl (And.intro rfl (And.intro rfl (And.intro rfl (And.intro rfl trivial)))))))))) (ih104 x9_117 x10_117 (x11_104 + 1) hv.1 (Nat.lt_of_lt_of_le hv.2 (Nat.le_of_lt_succ hn104)))
                        · have hv := hv2 hc
                          clear hv1 hv2 hc
                          refine g_blk hC _ bX3_begin_124_135 (pc' := 135) (ls' := [some (.inr (some 68)), some (.inl a1), some (.inl a2), some (.inl (A 25 a1.toNatClampNeg)), some (.inl (A 25 (a1 + 1).toNatClampNeg)), some (.inl x5_29), some (.inl x6_41), none, none, some (.inl x9_117), some (.inl x10_117), some (.inl x11_104), some (.inl x12_117)]) (st' := [.inl x12_117, .inl x11_104, .inl x6_41, .inl x5_29, .inr (some 68), .inl x9_117]) (I' := I_41) rfl rfl ?_
                          obtain ⟨hp9, hv⟩ := hv
                          refine g_callV hC (c_X3_crossing l D ads I_41 A_41 x5_29 x6_41 x11_104 x12_117 hp9) dX3_begin_135 nm_X3_crossing rfl rfl wl_X3_74 wi_X3_crossing ws_X3_crossing wn_X3 wc_X3_crossing ⟨by decide, by decide⟩ (as := [.inl x5_29, .inl x6_41, .inl x11_104, .inl x12_117]) (rest := [.inl x9_117]) rfl (Nat.le_of_ble_eq_true rfl) ⟨Nat.le_refl _, Nat.le_refl _⟩ (k_qI ?_)
                          refine g_blk hC _ bX3_begin_138_152 (pc' := 152) (ls' := [some (.inr (some 68)), some (.inl a1), some (.inl a2), some (.inl (A 25 a1.toNatClampNeg)), some (.inl (A 25 (a1 + 1).toNatClampNeg)), some (.inl x5_29), some (.inl x6_41), none, none, some (.inl (x9_117 + (A_41 69 (x5_29 * 5 + x12_117).toNatClampNeg * A_41 69 (x6_41 * 5 + x11_104).toNatClampNeg))), some (.inl x10_117), some (.inl x11_104), some (.inl x12_117)]) (st' := [.inl x12_117, .inl x11_104, .inl x5_29, .inl x6_41, .inr (some 68), .inl x10_117]) (I' := I_41) rfl rfl ?_
                          obtain ⟨hp10, hv⟩ := hv
                          refine g_callV hC (c_X3_crossing l D ads I_41 A_41 x6_41 x5_29 x11_104 x12_117 hp10) dX3_begin_152 nm_X3_crossing rfl rfl wl_X3_74 wi_X3_crossing ws_X3_crossing wn_X3 wc_X3_crossing ⟨by decide, by decide⟩ (as := [.inl x6_41, .inl x5_29, .inl x11_104, .inl x12_117]) (rest := [.inl x10_117]) rfl (Nat.le_of_ble_eq_true rfl) ⟨Nat.le_refl _, Nat.le_refl _⟩ (k_qI ?_)
                          refine g_blk hC _ bX3_begin_155_161 (pc' := 161) (ls' := [some (.inr (some 68)), some (.inl a1), some (.inl a2), some (.inl (A 25 a1.toNatClampNeg)), some (.inl (A 25 (a1 + 1).toNatClampNeg)), some (.inl x5_29), some (.inl x6_41), none, none, some (.inl (x9_117 + (A_41 69 (x5_29 * 5 + x12_117).toNatClampNeg * A_41 69 (x6_41 * 5 + x11_104).toNatClampNeg))), some (.inl (x10_117 + (A_41 69 (x6_41 * 5 + x12_117).toNatClampNeg * A_41 69 (x5_29 * 5 + x11_104).toNatClampNeg))), some (.inl x11_104), some (.inl (x12_117 + 1))]) (st' := []) (I' := I_41) rfl rfl ?_
                          refine g_goto hC dX3_begin_161 (tgt := 117) (by decide) ?_
                          exact g_weak (ls1 := [some (.inr (some 68)), some (.inl a1), some (.inl a2), some (.inl (A 25 a1.toNatClampNeg)), some (.inl (A 25 (a1 + 1).toNatClampNeg)), some (.inl x5_29), some (.inl x6_41), none, none, some (.inl (x9_117 + (A_41 69 (x5_29 * 5 + x12_117).toNatClampNeg * A_41 69 (x6_41 * 5 + x11_104).toNatClampNeg))), some (.inl (x10_117 + (A_41 69 (x6_41 * 5 + x12_117).toNatClampNeg * A_41 69 (x5_29 * 5 + x11_104).toNatClampNeg))), some (.inl x11_104), some (.inl (x12_117 + 1))]) rfl (And.intro rfl (And.intro rfl (And.intro rfl (And.intro rfl (And.intro rfl (And.intro rfl (And.intro rfl (And.intro rfl (And.intro rfl (And.intro rfl (And.intro rfl trivial))))))))))) (ih117 (x9_117 + (A_41 69 (x5_29 * 5 + x12_117).toNatClampNeg * A_41 69 (x6_41 * 5 + x11_104).toNatClampNeg)) (x10_117 + (A_41 69 (x6_41 * 5 + x12_117).toNatClampNeg * A_41 69 (x5_29 * 5 + x11_104).toNatClampNeg)) (x12_117 + 1) hv.1 (Nat.lt_of_lt_of_le hv.2 (Nat.le_of_lt_succ hn117)))
                    exact g_weak (ls1 := [some (.inr (some 68)), some (.inl a1), some (.inl a2), some (.inl (A 25 a1.toNatClampNeg)), some (.inl (A 25 (a1 + 1).toNatClampNeg)), some (.inl x5_29), some (.inl x6_41), none, none, some (.inl x9_104), some (.inl x10_104), some (.inl x11_104), some (.inl (x11_104 + 1))]) rfl (And.intro rfl (And.intro rfl (And.intro rfl (And.intro rfl (And.intro rfl (And.intro rfl (And.intro rfl (And.intro rfl (And.intro rfl (And.intro rfl (And.intro rfl trivial))))))))))) (L117 _ x9_104 x10_104 (x11_104 + 1) hi117 (Nat.lt_succ_self _))
              exact g_weak (ls1 := [some (.inr (some 68)), some (.inl a1), some (.inl a2), some (.inl (A 25 a1.toNatClampNeg)), some (.inl (A 25 (a1 + 1).toNatClampNeg)), some (.inl x5_29), some (.inl x6_41), none, none, some (.inl (a2 * (mvI (A_41 27) (A_41 28) (A_41 (15 + a1.toNatClampNeg) x5_29.toNatClampNeg) (A_41 (15 + a1.toNatClampNeg) x6_41.toNatClampNeg)))), some (.inl (a2 * (mvI (A_41 27) (A_41 28) (A_41 (15 + a1.toNatClampNeg) x6_41.toNatClampNeg) (A_41 (15 + a1.toNatClampNeg) x5_29.toNatClampNeg)))), some (.inl 0), none]) rfl (And.intro rfl (And.intro rfl (And.intro rfl (And.intro rfl (And.intro rfl (And.intro rfl (And.intro rfl (And.intro rfl (And.intro rfl (And.intro rfl trivial)))))))))) (L104 _ (a2 * (mvI (A_41 27) (A_41 28) (A_41 (15 + a1.toNatClampNeg) x5_29.toNatClampNeg) (A_41 (15 + a1.toNatClampNeg) x6_41.toNatClampNeg))) (a2 * (mvI (A_41 27) (A_41 28) (A_41 (15 + a1.toNatClampNeg) x6_41.toNatClampNeg) (A_41 (15 + a1.toNatClampNeg) x5_29.toNatClampNeg))) 0 hi104 (Nat.lt_succ_self _))
        exact g_weak (ls1 := [some (.inr (some 68)), some (.inl a1), some (.inl a2), some (.inl (A 25 a1.toNatClampNeg)), some (.inl (A 25 (a1 + 1).toNatClampNeg)), some (.inl x5_29), some (.inl (x5_29 + 1)), none, none, none, none, none, none]) rfl (And.intro rfl (And.intro rfl (And.intro rfl (And.intro rfl (And.intro rfl (And.intro rfl (And.intro rfl trivial))))))) (L41 _ (x5_29 + 1) I_29 A_29 hi41 (Nat.lt_succ_self _))
  exact g_weak (ls1 := [some (.inr (some 68)), some (.inl a1), some (.inl a2), some (.inl (A 25 a1.toNatClampNeg)), some (.inl (A 25 (a1 + 1).toNatClampNeg)), some (.inl 0), none, none, none, none, none, none, none]) rfl (And.intro rfl (And.intro rfl (And.intro rfl (And.intro rfl (And.intro rfl (And.intro rfl trivial)))))) (L29 _ 0 (up2 I 68 5 0) A hi29 (Nat.lt_succ_self _))
set_option maxHeartbeats 4000000 in
set_option maxRecDepth 100000 in
theorem c_X3_begin (l : Launch) (D : va_G) (ads : AD) (I A : HI) (a1 : Int32) (a2 : Int32) (hp : beg0 A a1) : Ct l yX3_begin cX3_begin 13 none 2 45 D ads shp [.inr (some 68), .inl a1, .inl a2] I A (qV (fun I' A' => beg I A a1 a2 I' A')) := by
  sorry
theorem bX3_exchangeNext_0_2 : okB cX3_exchangeNext RX3 0 [(3, 2, 0, 0, 0), (0, 0, 0, 0, 5)] := And.intro ⟨_, dX3_exchangeNext_0, rfl⟩ (And.intro ⟨_, dX3_exchangeNext_1, by decide⟩ trivial)
theorem bX3_exchangeNext_3_6 : okB cX3_exchangeNext RX3 3 [(7, 3, 0, 0, 0), (3, 2, 0, 0, 0), (0, 0, 0, 0, 5)] := And.intro ⟨_, dX3_exchangeNext_3, rfl⟩ (And.intro ⟨_, dX3_exchangeNext_4, rfl⟩ (And.intro ⟨_, dX3_exchangeNext_5, by decide⟩ trivial))
theorem bX3_exchangeNext_7_14 : okB cX3_exchangeNext RX3 7 [(8, 4, 0, 0, 0), (5, 0, 0, 0, 0), (23, 26, 3, 1, 0), (3, 1, 0, 0, 0)] := And.intro dX3_exchangeNext_7 (And.intro ⟨_, dX3_exchangeNext_9, rfl⟩ (And.intro ⟨dX3_exchangeNext_10, fl_X3_26⟩ (And.intro ⟨_, dX3_exchangeNext_13, rfl⟩ trivial)))
theorem bX3_exchangeNext_17_22 : okB cX3_exchangeNext RX3 17 [(8, 5, 0, 0, 0), (0, 0, 0, 0, 0), (8, 6, 0, 0, 0)] := And.intro dX3_exchangeNext_17 (And.intro ⟨_, dX3_exchangeNext_19, by decide⟩ (And.intro dX3_exchangeNext_20 trivial))
theorem bX3_exchangeNext_22_26 : okB cX3_exchangeNext RX3 22 [(4, 6, 0, 0, 0), (4, 5, 0, 0, 0)] := And.intro dX3_exchangeNext_22 (And.intro dX3_exchangeNext_24 trivial)
theorem bX3_exchangeNext_29_35 : okB cX3_exchangeNext RX3 29 [(4, 6, 0, 0, 0), (0, 0, 0, 0, 1), (12, 0, 0, 0, 0), (8, 7, 0, 0, 0)] := And.intro dX3_exchangeNext_29 (And.intro ⟨_, dX3_exchangeNext_31, by decide⟩ (And.intro dX3_exchangeNext_32 (And.intro dX3_exchangeNext_33 trivial)))
theorem bX3_exchangeNext_35_39 : okB cX3_exchangeNext RX3 35 [(4, 7, 0, 0, 0), (4, 5, 0, 0, 0)] := And.intro dX3_exchangeNext_35 (And.intro dX3_exchangeNext_37 trivial)
theorem bX3_exchangeNext_122_125 : okB cX3_exchangeNext RX3 122 [(11, 6, 0, 0, 1)] := And.intro ⟨_, dX3_exchangeNext_122, by decide⟩ trivial
theorem bX3_exchangeNext_42_50 : okB cX3_exchangeNext RX3 42 [(5, 0, 0, 0, 0), (4, 6, 0, 0, 0), (4, 7, 0, 0, 0), (4, 4, 0, 0, 0), (3, 3, 0, 0, 0)] := And.intro ⟨_, dX3_exchangeNext_42, rfl⟩ (And.intro dX3_exchangeNext_43 (And.intro dX3_exchangeNext_45 (And.intro dX3_exchangeNext_47 (And.intro ⟨_, dX3_exchangeNext_49, rfl⟩ trivial))))
theorem bX3_exchangeNext_53_61 : okB cX3_exchangeNext RX3 53 [(5, 0, 0, 0, 0), (4, 6, 0, 0, 0), (4, 7, 0, 0, 0), (3, 3, 0, 0, 0), (4, 4, 0, 0, 0)] := And.intro ⟨_, dX3_exchangeNext_53, rfl⟩ (And.intro dX3_exchangeNext_54 (And.intro dX3_exchangeNext_56 (And.intro ⟨_, dX3_exchangeNext_58, rfl⟩ (And.intro dX3_exchangeNext_59 trivial))))
theorem bX3_exchangeNext_64_86 : okB cX3_exchangeNext RX3 64 [(13, 0, 0, 0, 0), (8, 8, 0, 0, 0), (5, 0, 0, 0, 0), (20, 0, 0, 0, 0), (23, 18, 3, 5, 0), (4, 8, 0, 0, 0), (12, 0, 0, 0, 0), (24, 18, 3, 5, 0), (5, 0, 0, 0, 0), (23, 15, 3, 4, 0), (4, 6, 0, 0, 0), (4, 7, 0, 0, 0)] := And.intro dX3_exchangeNext_64 (And.intro dX3_exchangeNext_65 (And.intro ⟨_, dX3_exchangeNext_67, rfl⟩ (And.intro dX3_exchangeNext_68 (And.intro ⟨dX3_exchangeNext_69, fl_X3_18⟩ (And.intro dX3_exchangeNext_72 (And.intro dX3_exchangeNext_74 (And.intro ⟨dX3_exchangeNext_75, fl_X3_18, rfl, rfl⟩ (And.intro ⟨_, dX3_exchangeNext_78, rfl⟩ (And.intro ⟨dX3_exchangeNext_79, fl_X3_15⟩ (And.intro dX3_exchangeNext_82 (And.intro dX3_exchangeNext_84 trivial)))))))))))
theorem bX3_exchangeNext_89_90 : okB cX3_exchangeNext RX3 89 [(22, 0, 0, 0, 0)] := And.intro dX3_exchangeNext_89 trivial
theorem bX3_exchangeNext_91_96 : okB cX3_exchangeNext RX3 91 [(0, 0, 0, 0, 2), (4, 8, 0, 0, 0), (14, 0, 0, 0, 0), (13, 0, 0, 0, 0)] := And.intro ⟨_, dX3_exchangeNext_91, by decide⟩ (And.intro dX3_exchangeNext_92 (And.intro dX3_exchangeNext_94 (And.intro dX3_exchangeNext_95 trivial)))
theorem bX3_exchangeNext_97_105 : okB cX3_exchangeNext RX3 97 [(5, 0, 0, 0, 0), (23, 15, 3, 4, 0), (4, 7, 0, 0, 0), (4, 6, 0, 0, 0)] := And.intro ⟨_, dX3_exchangeNext_97, rfl⟩ (And.intro ⟨dX3_exchangeNext_98, fl_X3_15⟩ (And.intro dX3_exchangeNext_101 (And.intro dX3_exchangeNext_103 trivial)))
theorem bX3_exchangeNext_108_109 : okB cX3_exchangeNext RX3 108 [(22, 0, 0, 0, 0)] := And.intro dX3_exchangeNext_108 trivial
theorem bX3_exchangeNext_110_115 : okB cX3_exchangeNext RX3 110 [(0, 0, 0, 0, 2), (4, 8, 0, 0, 0), (14, 0, 0, 0, 0), (12, 0, 0, 0, 0)] := And.intro ⟨_, dX3_exchangeNext_110, by decide⟩ (And.intro dX3_exchangeNext_111 (And.intro dX3_exchangeNext_113 (And.intro dX3_exchangeNext_114 trivial)))
theorem bX3_exchangeNext_116_119 : okB cX3_exchangeNext RX3 116 [(11, 7, 0, 0, 1)] := And.intro ⟨_, dX3_exchangeNext_116, by decide⟩ trivial
set_option maxHeartbeats 4000000 in
set_option maxRecDepth 100000 in
theorem k_X3_exchangeNext (l : Launch) (D : va_G) (ads : AD) (I A : HI) (a1 : Int32) (a2 : Int32) (po : Option AV → HI → HI → Prop) (Iv22 : Int32 → HI → HI → Prop) (mu22 : Int32 → HI → HI → Nat) (Iv35 : Int32 → HI → HI → Int32 → HI → HI → Prop) (mu35 : Int32 → HI → HI → Int32 → HI → HI → Nat)
    (hv : ((vp_in a1 11) ∧ (Iv22 0 I A ∧ ∀ (x6_22 : Int32) (I_22 : HI) (A_22 : HI), Iv22 x6_22 I_22 A_22 → (((A 25 a1.toNatClampNeg) ≤ x6_22 → po none I_22 A_22) ∧ (¬ (A 25 a1.toNatClampNeg) ≤ x6_22 → (Iv35 x6_22 I_22 A_22 (x6_22 + 1) I_22 A_22 ∧ ∀ (x7_35 : Int32) (I_35 : HI) (A_35 : HI), Iv35 x6_22 I_22 A_22 x7_35 I_35 A_35 → (((A 25 a1.toNatClampNeg) ≤ x7_35 → (Iv22 (x6_22 + 1) I_35 A_35 ∧ mu22 (x6_22 + 1) I_35 A_35 < mu22 x6_22 I_22 A_22)) ∧ (¬ (A 25 a1.toNatClampNeg) ≤ x7_35 → ((vp_in (x6_22 * 5 + (a2 / 5)) 25 ∧ vp_in (x7_35 * 5 + (a2 - a2 / 5 * 5)) 25) ∧ ((vp_in (x6_22 * 5 + (a2 - a2 / 5 * 5)) 25 ∧ vp_in (x7_35 * 5 + (a2 / 5)) 25) ∧ (vp_in (x6_22 * 5 + x7_35) 25 ∧ (vp_in (x6_22 * 5 + x7_35) 25 ∧ (vp_in (x7_35 * 5 + x6_22) 25 ∧ (vp_in (x7_35 * 5 + x6_22) 25 ∧ (Iv35 x6_22 I_22 A_22 (x7_35 + 1) (up2 I_35 68 5 ((I_35 68 5) + ((A_35 69 (x6_22 * 5 + (a2 / 5)).toNatClampNeg * A_35 69 (x7_35 * 5 + (a2 - a2 / 5 * 5)).toNatClampNeg) - (A_35 69 (x6_22 * 5 + (a2 - a2 / 5 * 5)).toNatClampNeg * A_35 69 (x7_35 * 5 + (a2 / 5)).toNatClampNeg)))) (up2 (up2 A_35 70 (x6_22 * 5 + x7_35).toNatClampNeg ((A_35 70 (x6_22 * 5 + x7_35).toNatClampNeg) - (2 * ((A_35 69 (x6_22 * 5 + (a2 / 5)).toNatClampNeg * A_35 69 (x7_35 * 5 + (a2 - a2 / 5 * 5)).toNatClampNeg) - (A_35 69 (x6_22 * 5 + (a2 - a2 / 5 * 5)).toNatClampNeg * A_35 69 (x7_35 * 5 + (a2 / 5)).toNatClampNeg))))) 70 (x7_35 * 5 + x6_22).toNatClampNeg (((up2 A_35 70 (x6_22 * 5 + x7_35).toNatClampNeg ((A_35 70 (x6_22 * 5 + x7_35).toNatClampNeg) - (2 * ((A_35 69 (x6_22 * 5 + (a2 / 5)).toNatClampNeg * A_35 69 (x7_35 * 5 + (a2 - a2 / 5 * 5)).toNatClampNeg) - (A_35 69 (x6_22 * 5 + (a2 - a2 / 5 * 5)).toNatClampNeg * A_35 69 (x7_35 * 5 + (a2 / 5)).toNatClampNeg))))) 70 (x7_35 * 5 + x6_22).toNatClampNeg) + (2 * ((A_35 69 (x6_22 * 5 + (a2 / 5)).toNatClampNeg * A_35 69 (x7_35 * 5 + (a2 - a2 / 5 * 5)).toNatClampNeg) - (A_35 69 (x6_22 * 5 + (a2 - a2 / 5 * 5)).toNatClampNeg * A_35 69 (x7_35 * 5 + (a2 / 5)).toNatClampNeg))))) ∧ mu35 x6_22 I_22 A_22 (x7_35 + 1) (up2 I_35 68 5 ((I_35 68 5) + ((A_35 69 (x6_22 * 5 + (a2 / 5)).toNatClampNeg * A_35 69 (x7_35 * 5 + (a2 - a2 / 5 * 5)).toNatClampNeg) - (A_35 69 (x6_22 * 5 + (a2 - a2 / 5 * 5)).toNatClampNeg * A_35 69 (x7_35 * 5 + (a2 / 5)).toNatClampNeg)))) (up2 (up2 A_35 70 (x6_22 * 5 + x7_35).toNatClampNeg ((A_35 70 (x6_22 * 5 + x7_35).toNatClampNeg) - (2 * ((A_35 69 (x6_22 * 5 + (a2 / 5)).toNatClampNeg * A_35 69 (x7_35 * 5 + (a2 - a2 / 5 * 5)).toNatClampNeg) - (A_35 69 (x6_22 * 5 + (a2 - a2 / 5 * 5)).toNatClampNeg * A_35 69 (x7_35 * 5 + (a2 / 5)).toNatClampNeg))))) 70 (x7_35 * 5 + x6_22).toNatClampNeg (((up2 A_35 70 (x6_22 * 5 + x7_35).toNatClampNeg ((A_35 70 (x6_22 * 5 + x7_35).toNatClampNeg) - (2 * ((A_35 69 (x6_22 * 5 + (a2 / 5)).toNatClampNeg * A_35 69 (x7_35 * 5 + (a2 - a2 / 5 * 5)).toNatClampNeg) - (A_35 69 (x6_22 * 5 + (a2 - a2 / 5 * 5)).toNatClampNeg * A_35 69 (x7_35 * 5 + (a2 / 5)).toNatClampNeg))))) 70 (x7_35 * 5 + x6_22).toNatClampNeg) + (2 * ((A_35 69 (x6_22 * 5 + (a2 / 5)).toNatClampNeg * A_35 69 (x7_35 * 5 + (a2 - a2 / 5 * 5)).toNatClampNeg) - (A_35 69 (x6_22 * 5 + (a2 - a2 / 5 * 5)).toNatClampNeg * A_35 69 (x7_35 * 5 + (a2 / 5)).toNatClampNeg))))) < mu35 x6_22 I_22 A_22 x7_35 I_35 A_35))))))))))))))) : Ct l yX3_exchangeNext cX3_exchangeNext 9 none 2 45 D ads shp [.inr (some 68), .inl a1, .inl a2] I A po := by
  refine Ct_of (by decide) (Nat.le_of_ble_eq_true rfl) ?_
  intro p e s m args below meth c hC hr
  replace hC : CX p s m args meth c cX3_exchangeNext 9 RX3 (AdS ads s.heap.size) := hC
  show Gm p l e s m args below meth c D ads 2 45 9 po I A 0 [some (.inr (some 68)), some (.inl a1), some (.inl a2), none, none, none, none, none, none] []
  refine g_blk hC _ bX3_exchangeNext_0_2 (pc' := 2) (ls' := [some (.inr (some 68)), some (.inl a1), some (.inl a2), none, none, none, none, none, none]) (st' := [.inl 5, .inl a2]) (I' := I) rfl rfl ?_
  refine g_idiv hC dX3_exchangeNext_2 (by decide) ?_
  refine g_blk hC _ bX3_exchangeNext_3_6 (pc' := 6) (ls' := [some (.inr (some 68)), some (.inl a1), some (.inl a2), some (.inl (a2 / 5)), none, none, none, none, none]) (st' := [.inl 5, .inl a2]) (I' := I) rfl rfl ?_
  refine g_irem hC dX3_exchangeNext_6 (by decide) ?_
  refine g_blk hC _ bX3_exchangeNext_7_14 (pc' := 14) (ls' := [some (.inr (some 68)), some (.inl a1), some (.inl a2), some (.inl (a2 / 5)), some (.inl (a2 - a2 / 5 * 5)), none, none, none, none]) (st' := [.inl a1, .inr (some 13)]) (I' := I) rfl rfl ?_
  obtain ⟨hp1, hv⟩ := hv
  refine g_callV hC (c_X7_countIn l D ads I A a1 hp1) dX3_exchangeNext_14 nm_X7_countIn rfl rfl wl_X3_62 wi_X7_countIn ws_X7_countIn wn_X7 wc_X7_countIn ⟨by decide, by decide⟩ (as := [.inl a1]) (rest := []) rfl (Nat.le_of_ble_eq_true rfl) ⟨Nat.le_refl _, Nat.le_refl _⟩ (k_qI ?_)
  refine g_blk hC _ bX3_exchangeNext_17_22 (pc' := 22) (ls' := [some (.inr (some 68)), some (.inl a1), some (.inl a2), some (.inl (a2 / 5)), some (.inl (a2 - a2 / 5 * 5)), some (.inl (A 25 a1.toNatClampNeg)), some (.inl 0), none, none]) (st' := []) (I' := I) rfl rfl ?_
  obtain ⟨hi22, hb22⟩ := hv
  have L22 : ∀ (n : Nat) (x6_22 : Int32) (I_22 : HI) (A_22 : HI), Iv22 x6_22 I_22 A_22 → mu22 x6_22 I_22 A_22 < n → Gm p l e s m args below meth c D ads 2 45 9 po I_22 A_22 22 [some (.inr (some 68)), none, none, some (.inl (a2 / 5)), some (.inl (a2 - a2 / 5 * 5)), some (.inl (A 25 a1.toNatClampNeg)), some (.inl x6_22), none, none] [] := by
    intro n
    induction n with
    | zero => intro x6_22 I_22 A_22 _ hn; exact absurd hn (Nat.not_lt_zero _)
    | succ n ih22 =>
      intro x6_22 I_22 A_22 hv hn22
      replace hv := hb22 x6_22 I_22 A_22 hv
      skip
      refine g_blk hC _ bX3_exchangeNext_22_26 (pc' := 26) (ls' := [some (.inr (some 68)), none, none, some (.inl (a2 / 5)), some (.inl (a2 - a2 / 5 * 5)), some (.inl (A 25 a1.toNatClampNeg)), some (.inl x6_22), none, none]) (st' := [.inl (A 25 a1.toNatClampNeg), .inl x6_22]) (I' := I_22) rfl rfl ?_
      obtain ⟨hv1, hv2⟩ := hv
      refine g_cge hC dX3_exchangeNext_26 (tgt := 128) (by decide) (fun hc => ?_) (fun hc => ?_)
      · have hv := hv1 hc
        clear hv1 hv2 hc
        exact g_retv hC hr dX3_exchangeNext_128 hv
      · have hv := hv2 hc
        clear hv1 hv2 hc
        refine g_blk hC _ bX3_exchangeNext_29_35 (pc' := 35) (ls' := [some (.inr (some 68)), none, none, some (.inl (a2 / 5)), some (.inl (a2 - a2 / 5 * 5)), some (.inl (A 25 a1.toNatClampNeg)), some (.inl x6_22), some (.inl (x6_22 + 1)), none]) (st' := []) (I' := I_22) rfl rfl ?_
        obtain ⟨hi35, hb35⟩ := hv
        have L35 : ∀ (n : Nat) (x7_35 : Int32) (I_35 : HI) (A_35 : HI), Iv35 x6_22 I_22 A_22 x7_35 I_35 A_35 → mu35 x6_22 I_22 A_22 x7_35 I_35 A_35 < n → Gm p l e s m args below meth c D ads 2 45 9 po I_35 A_35 35 [some (.inr (some 68)), none, none, some (.inl (a2 / 5)), some (.inl (a2 - a2 / 5 * 5)), some (.inl (A 25 a1.toNatClampNeg)), some (.inl x6_22), some (.inl x7_35), none] [] := by
          intro n
          induction n with
          | zero => intro x7_35 I_35 A_35 _ hn; exact absurd hn (Nat.not_lt_zero _)
          | succ n ih35 =>
            intro x7_35 I_35 A_35 hv hn35
            replace hv := hb35 x7_35 I_35 A_35 hv
            skip
            refine g_blk hC _ bX3_exchangeNext_35_39 (pc' := 39) (ls' := [some (.inr (some 68)), none, none, some (.inl (a2 / 5)), some (.inl (a2 - a2 / 5 * 5)), some (.inl (A 25 a1.toNatClampNeg)), some (.inl x6_22), some (.inl x7_35), none]) (st' := [.inl (A 25 a1.toNatClampNeg), .inl x7_35]) (I' := I_35) rfl rfl ?_
            obtain ⟨hv1, hv2⟩ := hv
            refine g_cge hC dX3_exchangeNext_39 (tgt := 122) (by decide) (fun hc => ?_) (fun hc => ?_)
            · have hv := hv1 hc
              clear hv1 hv2 hc
              refine g_blk hC _ bX3_exchangeNext_122_125 (pc' := 125) (ls' := [some (.inr (some 68)), none, none, some (.inl (a2 / 5)), some (.inl (a2 - a2 / 5 * 5)), some (.inl (A 25 a1.toNatClampNeg)), some (.inl (x6_22 + 1)), some (.inl x7_35), none]) (st' := []) (I' := I_35) rfl rfl ?_
              refine g_goto hC dX3_exchangeNext_125 (tgt := 22) (by decide) ?_
              exact g_weak (ls1 := [some (.inr (some 68)), none, none, some (.inl (a2 / 5)), some (.inl (a2 - a2 / 5 * 5)), some (.inl (A 25 a1.toNatClampNeg)), some (.inl (x6_22 + 1)), none, none]) rfl (And.intro rfl (And.intro rfl (And.intro rfl (And.intro rfl (And.intro rfl trivial))))) (ih22 (x6_22 + 1) I_35 A_35 hv.1 (Nat.lt_of_lt_of_le hv.2 (Nat.le_of_lt_succ hn22)))
            · have hv := hv2 hc
              clear hv1 hv2 hc
              refine g_blk hC _ bX3_exchangeNext_42_50 (pc' := 50) (ls' := [some (.inr (some 68)), none, none, some (.inl (a2 / 5)), some (.inl (a2 - a2 / 5 * 5)), some (.inl (A 25 a1.toNatClampNeg)), some (.inl x6_22), some (.inl x7_35), none]) (st' := [.inl (a2 / 5), .inl (a2 - a2 / 5 * 5), .inl x7_35, .inl x6_22, .inr (some 68)]) (I' := I_35) rfl rfl ?_
              obtain ⟨hp2, hv⟩ := hv
              refine g_callV hC (c_X3_crossing l D ads I_35 A_35 x6_22 x7_35 (a2 - a2 / 5 * 5) (a2 / 5) hp2) dX3_exchangeNext_50 nm_X3_crossing rfl rfl wl_X3_74 wi_X3_crossing ws_X3_crossing wn_X3 wc_X3_crossing ⟨by decide, by decide⟩ (as := [.inl x6_22, .inl x7_35, .inl (a2 - a2 / 5 * 5), .inl (a2 / 5)]) (rest := []) rfl (Nat.le_of_ble_eq_true rfl) ⟨Nat.le_refl _, Nat.le_refl _⟩ (k_qI ?_)
              refine g_blk hC _ bX3_exchangeNext_53_61 (pc' := 61) (ls' := [some (.inr (some 68)), none, none, some (.inl (a2 / 5)), some (.inl (a2 - a2 / 5 * 5)), some (.inl (A 25 a1.toNatClampNeg)), some (.inl x6_22), some (.inl x7_35), none]) (st' := [.inl (a2 - a2 / 5 * 5), .inl (a2 / 5), .inl x7_35, .inl x6_22, .inr (some 68), .inl (A_35 69 (x6_22 * 5 + (a2 / 5)).toNatClampNeg * A_35 69 (x7_35 * 5 + (a2 - a2 / 5 * 5)).toNatClampNeg)]) (I' := I_35) rfl rfl ?_
              obtain ⟨hp3, hv⟩ := hv
              refine g_callV hC (c_X3_crossing l D ads I_35 A_35 x6_22 x7_35 (a2 / 5) (a2 - a2 / 5 * 5) hp3) dX3_exchangeNext_61 nm_X3_crossing rfl rfl wl_X3_74 wi_X3_crossing ws_X3_crossing wn_X3 wc_X3_crossing ⟨by decide, by decide⟩ (as := [.inl x6_22, .inl x7_35, .inl (a2 / 5), .inl (a2 - a2 / 5 * 5)]) (rest := [.inl (A_35 69 (x6_22 * 5 + (a2 / 5)).toNatClampNeg * A_35 69 (x7_35 * 5 + (a2 - a2 / 5 * 5)).toNatClampNeg)]) rfl (Nat.le_of_ble_eq_true rfl) ⟨Nat.le_refl _, Nat.le_refl _⟩ (k_qI ?_)
              refine g_blk hC _ bX3_exchangeNext_64_86 (pc' := 86) (ls' := [some (.inr (some 68)), none, none, some (.inl (a2 / 5)), some (.inl (a2 - a2 / 5 * 5)), some (.inl (A 25 a1.toNatClampNeg)), some (.inl x6_22), some (.inl x7_35), some (.inl ((A_35 69 (x6_22 * 5 + (a2 / 5)).toNatClampNeg * A_35 69 (x7_35 * 5 + (a2 - a2 / 5 * 5)).toNatClampNeg) - (A_35 69 (x6_22 * 5 + (a2 - a2 / 5 * 5)).toNatClampNeg * A_35 69 (x7_35 * 5 + (a2 / 5)).toNatClampNeg)))]) (st' := [.inl x7_35, .inl x6_22, .inr (some 70)]) (I' := up2 I_35 68 5 ((I_35 68 5) + ((A_35 69 (x6_22 * 5 + (a2 / 5)).toNatClampNeg * A_35 69 (x7_35 * 5 + (a2 - a2 / 5 * 5)).toNatClampNeg) - (A_35 69 (x6_22 * 5 + (a2 - a2 / 5 * 5)).toNatClampNeg * A_35 69 (x7_35 * 5 + (a2 / 5)).toNatClampNeg)))) rfl rfl ?_
              refine g_callN (host := RX8) hC (c_X8_pair l D ads (up2 I_35 68 5 ((I_35 68 5) + ((A_35 69 (x6_22 * 5 + (a2 / 5)).toNatClampNeg * A_35 69 (x7_35 * 5 + (a2 - a2 / 5 * 5)).toNatClampNeg) - (A_35 69 (x6_22 * 5 + (a2 - a2 / 5 * 5)).toNatClampNeg * A_35 69 (x7_35 * 5 + (a2 / 5)).toNatClampNeg)))) A_35 x6_22 x7_35) dX3_exchangeNext_86 nm_X8_pair (List.mem_of_getElem? (i := 4) rfl) wt_X8_pair wn_X8 wc_X8_pair ⟨by decide, by decide⟩ (as := [.inl x6_22, .inl x7_35]) (rest := [.inr (some 70)]) rfl (Nat.le_of_ble_eq_true rfl) ⟨Nat.le_refl _, Nat.le_refl _⟩ (k_qI ?_)
              refine g_blk hC _ bX3_exchangeNext_89_90 (pc' := 90) (ls' := [some (.inr (some 68)), none, none, some (.inl (a2 / 5)), some (.inl (a2 - a2 / 5 * 5)), some (.inl (A 25 a1.toNatClampNeg)), some (.inl x6_22), some (.inl x7_35), some (.inl ((A_35 69 (x6_22 * 5 + (a2 / 5)).toNatClampNeg * A_35 69 (x7_35 * 5 + (a2 - a2 / 5 * 5)).toNatClampNeg) - (A_35 69 (x6_22 * 5 + (a2 - a2 / 5 * 5)).toNatClampNeg * A_35 69 (x7_35 * 5 + (a2 / 5)).toNatClampNeg)))]) (st' := [.inl (x6_22 * 5 + x7_35), .inr (some 70), .inl (x6_22 * 5 + x7_35), .inr (some 70)]) (I' := up2 I_35 68 5 ((I_35 68 5) + ((A_35 69 (x6_22 * 5 + (a2 / 5)).toNatClampNeg * A_35 69 (x7_35 * 5 + (a2 - a2 / 5 * 5)).toNatClampNeg) - (A_35 69 (x6_22 * 5 + (a2 - a2 / 5 * 5)).toNatClampNeg * A_35 69 (x7_35 * 5 + (a2 / 5)).toNatClampNeg)))) rfl rfl ?_
              obtain ⟨hi, hv⟩ := hv
              refine g_iald hC dX3_exchangeNext_90 (rfl) hi ?_
              clear hi
              refine g_blk hC _ bX3_exchangeNext_91_96 (pc' := 96) (ls' := [some (.inr (some 68)), none, none, some (.inl (a2 / 5)), some (.inl (a2 - a2 / 5 * 5)), some (.inl (A 25 a1.toNatClampNeg)), some (.inl x6_22), some (.inl x7_35), some (.inl ((A_35 69 (x6_22 * 5 + (a2 / 5)).toNatClampNeg * A_35 69 (x7_35 * 5 + (a2 - a2 / 5 * 5)).toNatClampNeg) - (A_35 69 (x6_22 * 5 + (a2 - a2 / 5 * 5)).toNatClampNeg * A_35 69 (x7_35 * 5 + (a2 / 5)).toNatClampNeg)))]) (st' := [.inl ((A_35 70 (x6_22 * 5 + x7_35).toNatClampNeg) - (2 * ((A_35 69 (x6_22 * 5 + (a2 / 5)).toNatClampNeg * A_35 69 (x7_35 * 5 + (a2 - a2 / 5 * 5)).toNatClampNeg) - (A_35 69 (x6_22 * 5 + (a2 - a2 / 5 * 5)).toNatClampNeg * A_35 69 (x7_35 * 5 + (a2 / 5)).toNatClampNeg)))), .inl (x6_22 * 5 + x7_35), .inr (some 70)]) (I' := up2 I_35 68 5 ((I_35 68 5) + ((A_35 69 (x6_22 * 5 + (a2 / 5)).toNatClampNeg * A_35 69 (x7_35 * 5 + (a2 - a2 / 5 * 5)).toNatClampNeg) - (A_35 69 (x6_22 * 5 + (a2 - a2 / 5 * 5)).toNatClampNeg * A_35 69 (x7_35 * 5 + (a2 / 5)).toNatClampNeg)))) rfl rfl ?_
              obtain ⟨hi, hv⟩ := hv
              refine g_iast hC dX3_exchangeNext_96 (rfl) hi ?_
              clear hi
              refine g_blk hC _ bX3_exchangeNext_97_105 (pc' := 105) (ls' := [some (.inr (some 68)), none, none, some (.inl (a2 / 5)), some (.inl (a2 - a2 / 5 * 5)), some (.inl (A 25 a1.toNatClampNeg)), some (.inl x6_22), some (.inl x7_35), some (.inl ((A_35 69 (x6_22 * 5 + (a2 / 5)).toNatClampNeg * A_35 69 (x7_35 * 5 + (a2 - a2 / 5 * 5)).toNatClampNeg) - (A_35 69 (x6_22 * 5 + (a2 - a2 / 5 * 5)).toNatClampNeg * A_35 69 (x7_35 * 5 + (a2 / 5)).toNatClampNeg)))]) (st' := [.inl x6_22, .inl x7_35, .inr (some 70)]) (I' := up2 I_35 68 5 ((I_35 68 5) + ((A_35 69 (x6_22 * 5 + (a2 / 5)).toNatClampNeg * A_35 69 (x7_35 * 5 + (a2 - a2 / 5 * 5)).toNatClampNeg) - (A_35 69 (x6_22 * 5 + (a2 - a2 / 5 * 5)).toNatClampNeg * A_35 69 (x7_35 * 5 + (a2 / 5)).toNatClampNeg)))) rfl rfl ?_
              refine g_callN (host := RX8) hC (c_X8_pair l D ads (up2 I_35 68 5 ((I_35 68 5) + ((A_35 69 (x6_22 * 5 + (a2 / 5)).toNatClampNeg * A_35 69 (x7_35 * 5 + (a2 - a2 / 5 * 5)).toNatClampNeg) - (A_35 69 (x6_22 * 5 + (a2 - a2 / 5 * 5)).toNatClampNeg * A_35 69 (x7_35 * 5 + (a2 / 5)).toNatClampNeg)))) (up2 A_35 70 (x6_22 * 5 + x7_35).toNatClampNeg ((A_35 70 (x6_22 * 5 + x7_35).toNatClampNeg) - (2 * ((A_35 69 (x6_22 * 5 + (a2 / 5)).toNatClampNeg * A_35 69 (x7_35 * 5 + (a2 - a2 / 5 * 5)).toNatClampNeg) - (A_35 69 (x6_22 * 5 + (a2 - a2 / 5 * 5)).toNatClampNeg * A_35 69 (x7_35 * 5 + (a2 / 5)).toNatClampNeg))))) x7_35 x6_22) dX3_exchangeNext_105 nm_X8_pair (List.mem_of_getElem? (i := 4) rfl) wt_X8_pair wn_X8 wc_X8_pair ⟨by decide, by decide⟩ (as := [.inl x7_35, .inl x6_22]) (rest := [.inr (some 70)]) rfl (Nat.le_of_ble_eq_true rfl) ⟨Nat.le_refl _, Nat.le_refl _⟩ (k_qI ?_)
              refine g_blk hC _ bX3_exchangeNext_108_109 (pc' := 109) (ls' := [some (.inr (some 68)), none, none, some (.inl (a2 / 5)), some (.inl (a2 - a2 / 5 * 5)), some (.inl (A 25 a1.toNatClampNeg)), some (.inl x6_22), some (.inl x7_35), some (.inl ((A_35 69 (x6_22 * 5 + (a2 / 5)).toNatClampNeg * A_35 69 (x7_35 * 5 + (a2 - a2 / 5 * 5)).toNatClampNeg) - (A_35 69 (x6_22 * 5 + (a2 - a2 / 5 * 5)).toNatClampNeg * A_35 69 (x7_35 * 5 + (a2 / 5)).toNatClampNeg)))]) (st' := [.inl (x7_35 * 5 + x6_22), .inr (some 70), .inl (x7_35 * 5 + x6_22), .inr (some 70)]) (I' := up2 I_35 68 5 ((I_35 68 5) + ((A_35 69 (x6_22 * 5 + (a2 / 5)).toNatClampNeg * A_35 69 (x7_35 * 5 + (a2 - a2 / 5 * 5)).toNatClampNeg) - (A_35 69 (x6_22 * 5 + (a2 - a2 / 5 * 5)).toNatClampNeg * A_35 69 (x7_35 * 5 + (a2 / 5)).toNatClampNeg)))) rfl rfl ?_
              obtain ⟨hi, hv⟩ := hv
              refine g_iald hC dX3_exchangeNext_109 (rfl) hi ?_
              clear hi
              refine g_blk hC _ bX3_exchangeNext_110_115 (pc' := 115) (ls' := [some (.inr (some 68)), none, none, some (.inl (a2 / 5)), some (.inl (a2 - a2 / 5 * 5)), some (.inl (A 25 a1.toNatClampNeg)), some (.inl x6_22), some (.inl x7_35), some (.inl ((A_35 69 (x6_22 * 5 + (a2 / 5)).toNatClampNeg * A_35 69 (x7_35 * 5 + (a2 - a2 / 5 * 5)).toNatClampNeg) - (A_35 69 (x6_22 * 5 + (a2 - a2 / 5 * 5)).toNatClampNeg * A_35 69 (x7_35 * 5 + (a2 / 5)).toNatClampNeg)))]) (st' := [.inl (((up2 A_35 70 (x6_22 * 5 + x7_35).toNatClampNeg ((A_35 70 (x6_22 * 5 + x7_35).toNatClampNeg) - (2 * ((A_35 69 (x6_22 * 5 + (a2 / 5)).toNatClampNeg * A_35 69 (x7_35 * 5 + (a2 - a2 / 5 * 5)).toNatClampNeg) - (A_35 69 (x6_22 * 5 + (a2 - a2 / 5 * 5)).toNatClampNeg * A_35 69 (x7_35 * 5 + (a2 / 5)).toNatClampNeg))))) 70 (x7_35 * 5 + x6_22).toNatClampNeg) + (2 * ((A_35 69 (x6_22 * 5 + (a2 / 5)).toNatClampNeg * A_35 69 (x7_35 * 5 + (a2 - a2 / 5 * 5)).toNatClampNeg) - (A_35 69 (x6_22 * 5 + (a2 - a2 / 5 * 5)).toNatClampNeg * A_35 69 (x7_35 * 5 + (a2 / 5)).toNatClampNeg)))), .inl (x7_35 * 5 + x6_22), .inr (some 70)]) (I' := up2 I_35 68 5 ((I_35 68 5) + ((A_35 69 (x6_22 * 5 + (a2 / 5)).toNatClampNeg * A_35 69 (x7_35 * 5 + (a2 - a2 / 5 * 5)).toNatClampNeg) - (A_35 69 (x6_22 * 5 + (a2 - a2 / 5 * 5)).toNatClampNeg * A_35 69 (x7_35 * 5 + (a2 / 5)).toNatClampNeg)))) rfl rfl ?_
              obtain ⟨hi, hv⟩ := hv
              refine g_iast hC dX3_exchangeNext_115 (rfl) hi ?_
              clear hi
              refine g_blk hC _ bX3_exchangeNext_116_119 (pc' := 119) (ls' := [some (.inr (some 68)), none, none, some (.inl (a2 / 5)), some (.inl (a2 - a2 / 5 * 5)), some (.inl (A 25 a1.toNatClampNeg)), some (.inl x6_22), some (.inl (x7_35 + 1)), some (.inl ((A_35 69 (x6_22 * 5 + (a2 / 5)).toNatClampNeg * A_35 69 (x7_35 * 5 + (a2 - a2 / 5 * 5)).toNatClampNeg) - (A_35 69 (x6_22 * 5 + (a2 - a2 / 5 * 5)).toNatClampNeg * A_35 69 (x7_35 * 5 + (a2 / 5)).toNatClampNeg)))]) (st' := []) (I' := up2 I_35 68 5 ((I_35 68 5) + ((A_35 69 (x6_22 * 5 + (a2 / 5)).toNatClampNeg * A_35 69 (x7_35 * 5 + (a2 - a2 / 5 * 5)).toNatClampNeg) - (A_35 69 (x6_22 * 5 + (a2 - a2 / 5 * 5)).toNatClampNeg * A_35 69 (x7_35 * 5 + (a2 / 5)).toNatClampNeg)))) rfl rfl ?_
              refine g_goto hC dX3_exchangeNext_119 (tgt := 35) (by decide) ?_
              exact g_weak (ls1 := [some (.inr (some 68)), none, none, some (.inl (a2 / 5)), some (.inl (a2 - a2 / 5 * 5)), some (.inl (A 25 a1.toNatClampNeg)), some (.inl x6_22), some (.inl (x7_35 + 1)), none]) rfl (And.intro rfl (And.intro rfl (And.intro rfl (And.intro rfl (And.intro rfl (And.intro rfl trivial)))))) (ih35 (x7_35 + 1) (up2 I_35 68 5 ((I_35 68 5) + ((A_35 69 (x6_22 * 5 + (a2 / 5)).toNatClampNeg * A_35 69 (x7_35 * 5 + (a2 - a2 / 5 * 5)).toNatClampNeg) - (A_35 69 (x6_22 * 5 + (a2 - a2 / 5 * 5)).toNatClampNeg * A_35 69 (x7_35 * 5 + (a2 / 5)).toNatClampNeg)))) (up2 (up2 A_35 70 (x6_22 * 5 + x7_35).toNatClampNeg ((A_35 70 (x6_22 * 5 + x7_35).toNatClampNeg) - (2 * ((A_35 69 (x6_22 * 5 + (a2 / 5)).toNatClampNeg * A_35 69 (x7_35 * 5 + (a2 - a2 / 5 * 5)).toNatClampNeg) - (A_35 69 (x6_22 * 5 + (a2 - a2 / 5 * 5)).toNatClampNeg * A_35 69 (x7_35 * 5 + (a2 / 5)).toNatClampNeg))))) 70 (x7_35 * 5 + x6_22).toNatClampNeg (((up2 A_35 70 (x6_22 * 5 + x7_35).toNatClampNeg ((A_35 70 (x6_22 * 5 + x7_35).toNatClampNeg) - (2 * ((A_35 69 (x6_22 * 5 + (a2 / 5)).toNatClampNeg * A_35 69 (x7_35 * 5 + (a2 - a2 / 5 * 5)).toNatClampNeg) - (A_35 69 (x6_22 * 5 + (a2 - a2 / 5 * 5)).toNatClampNeg * A_35 69 (x7_35 * 5 + (a2 / 5)).toNatClampNeg))))) 70 (x7_35 * 5 + x6_22).toNatClampNeg) + (2 * ((A_35 69 (x6_22 * 5 + (a2 / 5)).toNatClampNeg * A_35 69 (x7_35 * 5 + (a2 - a2 / 5 * 5)).toNatClampNeg) - (A_35 69 (x6_22 * 5 + (a2 - a2 / 5 * 5)).toNatClampNeg * A_35 69 (x7_35 * 5 + (a2 / 5)).toNatClampNeg))))) hv.1 (Nat.lt_of_lt_of_le hv.2 (Nat.le_of_lt_succ hn35)))
        exact g_weak (ls1 := [some (.inr (some 68)), none, none, some (.inl (a2 / 5)), some (.inl (a2 - a2 / 5 * 5)), some (.inl (A 25 a1.toNatClampNeg)), some (.inl x6_22), some (.inl (x6_22 + 1)), none]) rfl (And.intro rfl (And.intro rfl (And.intro rfl (And.intro rfl (And.intro rfl (And.intro rfl trivial)))))) (L35 _ (x6_22 + 1) I_22 A_22 hi35 (Nat.lt_succ_self _))
  exact g_weak (ls1 := [some (.inr (some 68)), none, none, some (.inl (a2 / 5)), some (.inl (a2 - a2 / 5 * 5)), some (.inl (A 25 a1.toNatClampNeg)), some (.inl 0), none, none]) rfl (And.intro rfl (And.intro rfl (And.intro rfl (And.intro rfl (And.intro rfl trivial))))) (L22 _ 0 I A hi22 (Nat.lt_succ_self _))
set_option maxHeartbeats 4000000 in
set_option maxRecDepth 100000 in
theorem c_X3_exchangeNext (l : Launch) (D : va_G) (ads : AD) (I A : HI) (a1 : Int32) (a2 : Int32) (hp : exN0 A a1 a2) : Ct l yX3_exchangeNext cX3_exchangeNext 9 none 2 45 D ads shp [.inr (some 68), .inl a1, .inl a2] I A (qV (fun I' A' => exN I A a1 a2 I' A')) := by
  sorry
