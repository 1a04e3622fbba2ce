theorem bX6_shownAt_0_1 : okB cX6_shownAt RX6 0 [(3, 2, 0, 0, 0)] := And.intro ⟨_, dX6_shownAt_0, rfl⟩ trivial
theorem bX6_shownAt_16_17 : okB cX6_shownAt RX6 16 [(0, 0, 0, 0, (-1))] := And.intro ⟨_, dX6_shownAt_16, by decide⟩ trivial
theorem bX6_shownAt_4_10 : okB cX6_shownAt RX6 4 [(3, 2, 0, 0, 0), (5, 0, 0, 0, 0), (23, 52, 6, 1, 0), (3, 1, 0, 0, 0)] := And.intro ⟨_, dX6_shownAt_4, rfl⟩ (And.intro ⟨_, dX6_shownAt_5, rfl⟩ (And.intro ⟨dX6_shownAt_6, fl_X6_52⟩ (And.intro ⟨_, dX6_shownAt_9, rfl⟩ trivial)))
theorem bX6_shownAt_18_25 : okB cX6_shownAt RX6 18 [(5, 0, 0, 0, 0), (23, 52, 6, 1, 0), (3, 1, 0, 0, 0), (5, 0, 0, 0, 0), (3, 1, 0, 0, 0)] := And.intro ⟨_, dX6_shownAt_18, rfl⟩ (And.intro ⟨dX6_shownAt_19, fl_X6_52⟩ (And.intro ⟨_, dX6_shownAt_22, rfl⟩ (And.intro ⟨_, dX6_shownAt_23, rfl⟩ (And.intro ⟨_, dX6_shownAt_24, rfl⟩ trivial))))
theorem bX6_shownAt_28_33 : okB cX6_shownAt RX6 28 [(5, 0, 0, 0, 0), (23, 28, 6, 8, 0), (3, 1, 0, 0, 0)] := And.intro ⟨_, dX6_shownAt_28, rfl⟩ (And.intro ⟨dX6_shownAt_29, fl_X6_28⟩ (And.intro ⟨_, dX6_shownAt_32, rfl⟩ trivial))
theorem bX6_shownAt_34_35 : okB cX6_shownAt RX6 34 [(3, 2, 0, 0, 0)] := And.intro ⟨_, dX6_shownAt_34, rfl⟩ trivial
set_option maxHeartbeats 4000000 in
set_option maxRecDepth 100000 in
theorem k_X6_shownAt (l : Launch) (D : va_G) (ads : AD) (I A : HI) (a1 : Int32) (a2 : Int32) (po : Option AV → HI → HI → Prop)
    (hv : ((a2 < 0 → po (some (.inl ((-1)))) I A) ∧ (¬ a2 < 0 → ((vp_in a1 11) ∧ ((a2 < (A 25 a1.toNatClampNeg) → ((vp_in a1 11 ∧ 0 ≤ A 25 a1.toNatClampNeg) ∧ (vp_in a1 11 ∧ ((vp_in ((A 67 a1.toNatClampNeg) * I (71 + 4 * ((mnI (A 25 a1.toNatClampNeg) 5).toNatClampNeg)) 0 + a2) (chT ((mnI (A 25 a1.toNatClampNeg) 5).toNatClampNeg))) ∧ ((vp_in a1 10 ∧ vp_in (A (72 + 4 * ((mnI (A 25 a1.toNatClampNeg) 5).toNatClampNeg)) ((A 67 a1.toNatClampNeg) * I (71 + 4 * ((mnI (A 25 a1.toNatClampNeg) 5).toNatClampNeg)) 0 + a2).toNatClampNeg) 26) ∧ po (some (.inl (A (15 + a1.toNatClampNeg) (A (72 + 4 * ((mnI (A 25 a1.toNatClampNeg) 5).toNatClampNeg)) ((A 67 a1.toNatClampNeg) * I (71 + 4 * ((mnI (A 25 a1.toNatClampNeg) 5).toNatClampNeg)) 0 + a2).toNatClampNeg).toNatClampNeg))) I A))))) ∧ (¬ a2 < (A 25 a1.toNatClampNeg) → po (some (.inl ((-1)))) I A)))))) : Ct l yX6_shownAt cX6_shownAt 3 (some .int) 2 42 D ads shp [.inr (some 29), .inl a1, .inl a2] I A po := by
  refine Ct_of (by decide) (Nat.le_of_ble_eq_true rfl) ?_
  intro p e s m args below meth c hC hr
  replace hC : CX p s m args meth c cX6_shownAt 3 RX6 (AdS ads s.heap.size) := hC
  show Gm p l e s m args below meth c D ads 2 42 3 po I A 0 [some (.inr (some 29)), some (.inl a1), some (.inl a2)] []
  refine g_blk hC _ bX6_shownAt_0_1 (pc' := 1) (ls' := [some (.inr (some 29)), some (.inl a1), some (.inl a2)]) (st' := [.inl a2]) (I' := I) rfl rfl ?_
  obtain ⟨hv1, hv2⟩ := hv
  refine g_iflt hC dX6_shownAt_1 (tgt := 16) (by decide) (fun hc => ?_) (fun hc => ?_)
  · have hv := hv1 hc
    clear hv1 hv2 hc
    refine g_blk hC _ bX6_shownAt_16_17 (pc' := 17) (ls' := [some (.inr (some 29)), some (.inl a1), some (.inl a2)]) (st' := [.inl ((-1))]) (I' := I) rfl rfl ?_
    exact g_reti hC hr rfl dX6_shownAt_17 hv
  · have hv := hv2 hc
    clear hv1 hv2 hc
    refine g_blk hC _ bX6_shownAt_4_10 (pc' := 10) (ls' := [some (.inr (some 29)), some (.inl a1), some (.inl a2)]) (st' := [.inl a1, .inr (some 13), .inl a2]) (I' := I) rfl rfl ?_
    obtain ⟨hp1, hv⟩ := hv
    refine g_callV hC (c_X7_countIn l D ads I A a1 hp1) dX6_shownAt_10 nm_X7_countIn rfl rfl wl_X6_90 wi_X7_countIn ws_X7_countIn wn_X7 wc_X7_countIn ⟨by decide, by decide⟩ (as := [.inl a1]) (rest := [.inl a2]) rfl (Nat.le_of_ble_eq_true rfl) ⟨Nat.le_refl _, Nat.le_refl _⟩ (k_qI ?_)
    obtain ⟨hv1, hv2⟩ := hv
    refine g_clt hC dX6_shownAt_13 (tgt := 18) (by decide) (fun hc => ?_) (fun hc => ?_)
    · have hv := hv1 hc
      clear hv1 hv2 hc
      refine g_blk hC _ bX6_shownAt_18_25 (pc' := 25) (ls' := [some (.inr (some 29)), some (.inl a1), some (.inl a2)]) (st' := [.inl a1, .inr (some 29), .inl a1, .inr (some 13)]) (I' := I) rfl rfl ?_
      obtain ⟨hp2, hv⟩ := hv
      refine g_callV hC (c_X6_changesOf l D ads I A a1 hp2) dX6_shownAt_25 nm_X6_changesOf rfl rfl wl_X6_96 wi_X6_changesOf ws_X6_changesOf wn_X6 wc_X6_changesOf ⟨by decide, by decide⟩ (as := [.inl a1]) (rest := [.inl a1, .inr (some 13)]) rfl (Nat.le_of_ble_eq_true rfl) ⟨Nat.le_refl _, Nat.le_refl _⟩ (k_qR ?_)
      refine g_blk hC _ bX6_shownAt_28_33 (pc' := 33) (ls' := [some (.inr (some 29)), some (.inl a1), some (.inl a2)]) (st' := [.inl a1, .inr (some 67), .inr (some (71 + 4 * (mnI (A 25 a1.toNatClampNeg) 5).toNatClampNeg)), .inl a1, .inr (some 13)]) (I' := I) rfl rfl ?_
      obtain ⟨hi, hv⟩ := hv
      refine g_iald hC dX6_shownAt_33 (rfl) hi ?_
      clear hi
      refine g_blk hC _ bX6_shownAt_34_35 (pc' := 35) (ls' := [some (.inr (some 29)), some (.inl a1), some (.inl a2)]) (st' := [.inl a2, .inl (A 67 a1.toNatClampNeg), .inr (some (71 + 4 * (mnI (A 25 a1.toNatClampNeg) 5).toNatClampNeg)), .inl a1, .inr (some 13)]) (I' := I) rfl rfl ?_
      obtain ⟨hp3, hv⟩ := hv
      obtain ⟨fs9, hs9⟩ := ch_sh (chO_lt hp2.2)
      refine g_callV hC (c_X0_thingAt l D ads I A ((mnI (A 25 a1.toNatClampNeg) 5).toNatClampNeg) (A 67 a1.toNatClampNeg) a2 (chO_lt hp2.2) hp3) dX6_shownAt_35 nm_X0_thingAt hs9 rfl wl_X6_100 wi_X0_thingAt ws_X0_thingAt wn_X0 wc_X0_thingAt ⟨by decide, by decide⟩ (as := [.inl (A 67 a1.toNatClampNeg), .inl a2]) (rest := [.inl a1, .inr (some 13)]) rfl (Nat.le_of_ble_eq_true rfl) ⟨Nat.le_refl _, Nat.le_refl _⟩ (k_qI ?_)
      obtain ⟨hp4, hv⟩ := hv
      refine g_callV hC (c_X7_numberAt l D ads I A a1 (A (72 + 4 * ((mnI (A 25 a1.toNatClampNeg) 5).toNatClampNeg)) ((A 67 a1.toNatClampNeg) * I (71 + 4 * ((mnI (A 25 a1.toNatClampNeg) 5).toNatClampNeg)) 0 + a2).toNatClampNeg) hp4) dX6_shownAt_38 nm_X7_numberAt rfl rfl wl_X6_104 wi_X7_numberAt ws_X7_numberAt wn_X7 wc_X7_numberAt ⟨by decide, by decide⟩ (as := [.inl a1, .inl (A (72 + 4 * ((mnI (A 25 a1.toNatClampNeg) 5).toNatClampNeg)) ((A 67 a1.toNatClampNeg) * I (71 + 4 * ((mnI (A 25 a1.toNatClampNeg) 5).toNatClampNeg)) 0 + a2).toNatClampNeg)]) (rest := []) rfl (Nat.le_of_ble_eq_true rfl) ⟨Nat.le_refl _, Nat.le_refl _⟩ (k_qI ?_)
      exact g_reti hC hr rfl dX6_shownAt_41 hv
    · have hv := hv2 hc
      clear hv1 hv2 hc
      refine g_blk hC _ bX6_shownAt_16_17 (pc' := 17) (ls' := [some (.inr (some 29)), some (.inl a1), some (.inl a2)]) (st' := [.inl ((-1))]) (I' := I) rfl rfl ?_
      exact g_reti hC hr rfl dX6_shownAt_17 hv
theorem bX6_spotOf_0_2 : okB cX6_spotOf RX6 0 [(0, 0, 0, 0, 0), (7, 3, 0, 0, 0)] := And.intro ⟨_, dX6_spotOf_0, by decide⟩ (And.intro ⟨_, dX6_spotOf_1, rfl⟩ trivial)
theorem bX6_spotOf_2_8 : okB cX6_spotOf RX6 2 [(3, 3, 0, 0, 0), (5, 0, 0, 0, 0), (23, 52, 6, 1, 0), (3, 1, 0, 0, 0)] := And.intro ⟨_, dX6_spotOf_2, rfl⟩ (And.intro ⟨_, dX6_spotOf_3, rfl⟩ (And.intro ⟨dX6_spotOf_4, fl_X6_52⟩ (And.intro ⟨_, dX6_spotOf_7, rfl⟩ trivial)))
theorem bX6_spotOf_32_33 : okB cX6_spotOf RX6 32 [(0, 0, 0, 0, (-1))] := And.intro ⟨_, dX6_spotOf_32, by decide⟩ trivial
theorem bX6_spotOf_14_17 : okB cX6_spotOf RX6 14 [(5, 0, 0, 0, 0), (3, 1, 0, 0, 0), (3, 3, 0, 0, 0)] := And.intro ⟨_, dX6_spotOf_14, rfl⟩ (And.intro ⟨_, dX6_spotOf_15, rfl⟩ (And.intro ⟨_, dX6_spotOf_16, rfl⟩ trivial))
theorem bX6_spotOf_20_21 : okB cX6_spotOf RX6 20 [(3, 2, 0, 0, 0)] := And.intro ⟨_, dX6_spotOf_20, rfl⟩ trivial
theorem bX6_spotOf_26_29 : okB cX6_spotOf RX6 26 [(11, 3, 0, 0, 1)] := And.intro ⟨_, dX6_spotOf_26, by decide⟩ trivial
theorem bX6_spotOf_24_25 : okB cX6_spotOf RX6 24 [(3, 3, 0, 0, 0)] := And.intro ⟨_, dX6_spotOf_24, rfl⟩ trivial
set_option maxHeartbeats 4000000 in
set_option maxRecDepth 100000 in
theorem k_X6_spotOf (l : Launch) (D : va_G) (ads : AD) (I A : HI) (a1 : Int32) (a2 : Int32) (po : Option AV → HI → HI → Prop) {pp_X6_shownAt : HI → HI → Int32 → Int32 → Prop} {ff_X6_shownAt : HI → HI → Int32 → Int32 → Int32} (hh_X6_shownAt : ∀ (I A : HI) (a1 : Int32) (a2 : Int32), pp_X6_shownAt I A a1 a2 → Ct l yX6_shownAt cX6_shownAt 3 (some .int) 2 42 D ads shp [.inr (some 29), .inl a1, .inl a2] I A (qI (ff_X6_shownAt I A a1 a2) I A)) (Iv2 : Int32 → Prop) (mu2 : Int32 → Nat)
    (hv : (Iv2 0 ∧ ∀ (x3_2 : Int32), Iv2 x3_2 → ((vp_in a1 11) ∧ (((A 25 a1.toNatClampNeg) ≤ x3_2 → po (some (.inl ((-1)))) I A) ∧ (¬ (A 25 a1.toNatClampNeg) ≤ x3_2 → ((pp_X6_shownAt I A a1 x3_2) ∧ ((¬ (ff_X6_shownAt I A a1 x3_2) = a2 → (Iv2 (x3_2 + 1) ∧ mu2 (x3_2 + 1) < mu2 x3_2)) ∧ ((ff_X6_shownAt I A a1 x3_2) = a2 → po (some (.inl x3_2)) I A)))))))) : Ct l yX6_spotOf cX6_spotOf 4 (some .int) 3 64 D ads shp [.inr (some 29), .inl a1, .inl a2] I A po := by
  refine Ct_of (by decide) (Nat.le_of_ble_eq_true rfl) ?_
  intro p e s m args below meth c hC hr
  replace hC : CX p s m args meth c cX6_spotOf 4 RX6 (AdS ads s.heap.size) := hC
  show Gm p l e s m args below meth c D ads 3 64 4 po I A 0 [some (.inr (some 29)), some (.inl a1), some (.inl a2), none] []
  refine g_blk hC _ bX6_spotOf_0_2 (pc' := 2) (ls' := [some (.inr (some 29)), some (.inl a1), some (.inl a2), some (.inl 0)]) (st' := []) (I' := I) rfl rfl ?_
  obtain ⟨hi2, hb2⟩ := hv
  have L2 : ∀ (n : Nat) (x3_2 : Int32), Iv2 x3_2 → mu2 x3_2 < n → Gm p l e s m args below meth c D ads 3 64 4 po I A 2 [some (.inr (some 29)), some (.inl a1), some (.inl a2), some (.inl x3_2)] [] := by
    intro n
    induction n with
    | zero => intro x3_2 _ hn; exact absurd hn (Nat.not_lt_zero _)
    | succ n ih2 =>
      intro x3_2 hv hn2
      replace hv := hb2 x3_2 hv
      skip
      refine g_blk hC _ bX6_spotOf_2_8 (pc' := 8) (ls' := [some (.inr (some 29)), some (.inl a1), some (.inl a2), some (.inl x3_2)]) (st' := [.inl a1, .inr (some 13), .inl x3_2]) (I' := I) rfl rfl ?_
      obtain ⟨hp1, hv⟩ := hv
      refine g_callV hC (c_X7_countIn l D ads I A a1 hp1) dX6_spotOf_8 nm_X7_countIn rfl rfl wl_X6_90 wi_X7_countIn ws_X7_countIn wn_X7 wc_X7_countIn ⟨by decide, by decide⟩ (as := [.inl a1]) (rest := [.inl x3_2]) rfl (Nat.le_of_ble_eq_true rfl) ⟨Nat.le_refl _, Nat.le_refl _⟩ (k_qI ?_)
      obtain ⟨hv1, hv2⟩ := hv
      refine g_cge hC dX6_spotOf_11 (tgt := 32) (by decide) (fun hc => ?_) (fun hc => ?_)
      · have hv := hv1 hc
        clear hv1 hv2 hc
        refine g_blk hC _ bX6_spotOf_32_33 (pc' := 33) (ls' := [some (.inr (some 29)), some (.inl a1), some (.inl a2), some (.inl x3_2)]) (st' := [.inl ((-1))]) (I' := I) rfl rfl ?_
        exact g_reti hC hr rfl dX6_spotOf_33 hv
      · have hv := hv2 hc
        clear hv1 hv2 hc
        refine g_blk hC _ bX6_spotOf_14_17 (pc' := 17) (ls' := [some (.inr (some 29)), some (.inl a1), some (.inl a2), some (.inl x3_2)]) (st' := [.inl x3_2, .inl a1, .inr (some 29)]) (I' := I) rfl rfl ?_
        obtain ⟨hp2, hv⟩ := hv
        refine g_callV hC (hh_X6_shownAt I A a1 x3_2 hp2) dX6_spotOf_17 nm_X6_shownAt rfl rfl wl_X6_107 wi_X6_shownAt ws_X6_shownAt wn_X6 wc_X6_shownAt ⟨by decide, by decide⟩ (as := [.inl a1, .inl x3_2]) (rest := []) rfl (Nat.le_of_ble_eq_true rfl) ⟨Nat.le_refl _, Nat.le_refl _⟩ (k_qI ?_)
        refine g_blk hC _ bX6_spotOf_20_21 (pc' := 21) (ls' := [some (.inr (some 29)), some (.inl a1), some (.inl a2), some (.inl x3_2)]) (st' := [.inl a2, .inl (ff_X6_shownAt I A a1 x3_2)]) (I' := I) rfl rfl ?_
        obtain ⟨hv1, hv2⟩ := hv
        refine g_cne hC dX6_spotOf_21 (tgt := 26) (by decide) (fun hc => ?_) (fun hc => ?_)
        · have hv := hv1 hc
          clear hv1 hv2 hc
          refine g_blk hC _ bX6_spotOf_26_29 (pc' := 29) (ls' := [some (.inr (some 29)), some (.inl a1), some (.inl a2), some (.inl (x3_2 + 1))]) (st' := []) (I' := I) rfl rfl ?_
          refine g_goto hC dX6_spotOf_29 (tgt := 2) (by decide) ?_
          exact g_weak (ls1 := [some (.inr (some 29)), some (.inl a1), some (.inl a2), some (.inl (x3_2 + 1))]) rfl (And.intro rfl (And.intro rfl (And.intro rfl (And.intro rfl trivial)))) (ih2 (x3_2 + 1) hv.1 (Nat.lt_of_lt_of_le hv.2 (Nat.le_of_lt_succ hn2)))
        · have hv := hv2 hc
          clear hv1 hv2 hc
          refine g_blk hC _ bX6_spotOf_24_25 (pc' := 25) (ls' := [some (.inr (some 29)), some (.inl a1), some (.inl a2), some (.inl x3_2)]) (st' := [.inl x3_2]) (I' := I) rfl rfl ?_
          exact g_reti hC hr rfl dX6_spotOf_25 hv
  exact g_weak (ls1 := [some (.inr (some 29)), some (.inl a1), some (.inl a2), some (.inl 0)]) rfl (And.intro rfl (And.intro rfl (And.intro rfl (And.intro rfl trivial)))) (L2 _ 0 hi2 (Nat.lt_succ_self _))
theorem bX6_tryNext_0_2 : okB cX6_tryNext RX6 0 [(5, 0, 0, 0, 0), (3, 1, 0, 0, 0)] := And.intro ⟨_, dX6_tryNext_0, rfl⟩ (And.intro ⟨_, dX6_tryNext_1, rfl⟩ trivial)
theorem bX6_tryNext_8_14 : okB cX6_tryNext RX6 8 [(10, 4, 0, 0, 0), (5, 0, 0, 0, 0), (23, 65, 6, 3, 0)] := And.intro dX6_tryNext_8 (And.intro ⟨_, dX6_tryNext_10, rfl⟩ (And.intro ⟨dX6_tryNext_11, fl_X6_65⟩ trivial))
theorem bX6_tryNext_17_24 : okB cX6_tryNext RX6 17 [(10, 5, 0, 0, 0), (5, 0, 0, 0, 0), (23, 19, 6, 5, 0), (3, 1, 0, 0, 0)] := And.intro dX6_tryNext_17 (And.intro ⟨_, dX6_tryNext_19, rfl⟩ (And.intro ⟨dX6_tryNext_20, fl_X6_19⟩ (And.intro ⟨_, dX6_tryNext_23, rfl⟩ trivial)))
theorem bX6_tryNext_25_34 : okB cX6_tryNext RX6 25 [(10, 6, 0, 0, 0), (5, 0, 0, 0, 0), (23, 22, 6, 6, 0), (3, 1, 0, 0, 0), (0, 0, 0, 0, 1), (12, 0, 0, 0, 0)] := And.intro dX6_tryNext_25 (And.intro ⟨_, dX6_tryNext_27, rfl⟩ (And.intro ⟨dX6_tryNext_28, fl_X6_22⟩ (And.intro ⟨_, dX6_tryNext_31, rfl⟩ (And.intro ⟨_, dX6_tryNext_32, by decide⟩ (And.intro dX6_tryNext_33 trivial)))))
theorem bX6_tryNext_35_36 : okB cX6_tryNext RX6 35 [(3, 2, 0, 0, 0)] := And.intro ⟨_, dX6_tryNext_35, rfl⟩ trivial
theorem bX6_tryNext_37_43 : okB cX6_tryNext RX6 37 [(8, 7, 0, 0, 0), (5, 0, 0, 0, 0), (23, 65, 6, 3, 0)] := And.intro dX6_tryNext_37 (And.intro ⟨_, dX6_tryNext_39, rfl⟩ (And.intro ⟨dX6_tryNext_40, fl_X6_65⟩ trivial))
theorem bX6_tryNext_46_53 : okB cX6_tryNext RX6 46 [(5, 0, 0, 0, 0), (23, 19, 6, 5, 0), (3, 1, 0, 0, 0), (0, 0, 0, 0, 1), (12, 0, 0, 0, 0)] := And.intro ⟨_, dX6_tryNext_46, rfl⟩ (And.intro ⟨dX6_tryNext_47, fl_X6_19⟩ (And.intro ⟨_, dX6_tryNext_50, rfl⟩ (And.intro ⟨_, dX6_tryNext_51, by decide⟩ (And.intro dX6_tryNext_52 trivial))))
theorem bX6_tryNext_54_55 : okB cX6_tryNext RX6 54 [(3, 2, 0, 0, 0)] := And.intro ⟨_, dX6_tryNext_54, rfl⟩ trivial
theorem bX6_tryNext_56_62 : okB cX6_tryNext RX6 56 [(12, 0, 0, 0, 0), (8, 8, 0, 0, 0), (0, 0, 0, 0, 0), (8, 9, 0, 0, 0)] := And.intro dX6_tryNext_56 (And.intro dX6_tryNext_57 (And.intro ⟨_, dX6_tryNext_59, by decide⟩ (And.intro dX6_tryNext_60 trivial)))
theorem bX6_tryNext_62_66 : okB cX6_tryNext RX6 62 [(4, 9, 0, 0, 0), (6, 4, 0, 0, 0)] := And.intro dX6_tryNext_62 (And.intro dX6_tryNext_64 trivial)
theorem bX6_tryNext_70_72 : okB cX6_tryNext RX6 70 [(4, 9, 0, 0, 0)] := And.intro dX6_tryNext_70 trivial
theorem bX6_tryNext_88_94 : okB cX6_tryNext RX6 88 [(4, 8, 0, 0, 0), (6, 6, 0, 0, 0), (4, 9, 0, 0, 0)] := And.intro dX6_tryNext_88 (And.intro dX6_tryNext_90 (And.intro dX6_tryNext_92 trivial))
theorem bX6_tryNext_129_135 : okB cX6_tryNext RX6 129 [(4, 8, 0, 0, 0), (6, 6, 0, 0, 0), (4, 9, 0, 0, 0)] := And.intro dX6_tryNext_129 (And.intro dX6_tryNext_131 (And.intro dX6_tryNext_133 trivial))
theorem bX6_tryNext_184_187 : okB cX6_tryNext RX6 184 [(11, 9, 0, 0, 1)] := And.intro ⟨_, dX6_tryNext_184, by decide⟩ trivial
theorem bX6_tryNext_139_144 : okB cX6_tryNext RX6 139 [(5, 0, 0, 0, 0), (23, 22, 6, 6, 0), (3, 1, 0, 0, 0)] := And.intro ⟨_, dX6_tryNext_139, rfl⟩ (And.intro ⟨dX6_tryNext_140, fl_X6_22⟩ (And.intro ⟨_, dX6_tryNext_143, rfl⟩ trivial))
theorem bX6_tryNext_145_148 : okB cX6_tryNext RX6 145 [(4, 9, 0, 0, 0), (22, 0, 0, 0, 0)] := And.intro dX6_tryNext_145 (And.intro dX6_tryNext_147 trivial)
theorem bX6_tryNext_149_152 : okB cX6_tryNext RX6 149 [(4, 7, 0, 0, 0), (12, 0, 0, 0, 0)] := And.intro dX6_tryNext_149 (And.intro dX6_tryNext_151 trivial)
theorem bX6_tryNext_153_155 : okB cX6_tryNext RX6 153 [(5, 3, 0, 0, 0), (3, 2, 0, 0, 0)] := And.intro ⟨_, dX6_tryNext_153, rfl⟩ (And.intro ⟨_, dX6_tryNext_154, rfl⟩ trivial)
theorem bX6_tryNext_158_164 : okB cX6_tryNext RX6 158 [(5, 3, 0, 0, 0), (5, 0, 0, 0, 0), (23, 25, 6, 7, 0), (3, 1, 0, 0, 0)] := And.intro ⟨_, dX6_tryNext_158, rfl⟩ (And.intro ⟨_, dX6_tryNext_159, rfl⟩ (And.intro ⟨dX6_tryNext_160, fl_X6_25⟩ (And.intro ⟨_, dX6_tryNext_163, rfl⟩ trivial)))
theorem bX6_tryNext_165_167 : okB cX6_tryNext RX6 165 [(4, 9, 0, 0, 0)] := And.intro dX6_tryNext_165 trivial
theorem bX6_tryNext_174_179 : okB cX6_tryNext RX6 174 [(5, 0, 0, 0, 0), (23, 25, 6, 7, 0), (3, 1, 0, 0, 0)] := And.intro ⟨_, dX6_tryNext_174, rfl⟩ (And.intro ⟨dX6_tryNext_175, fl_X6_25⟩ (And.intro ⟨_, dX6_tryNext_178, rfl⟩ trivial))
theorem bX6_tryNext_180_183 : okB cX6_tryNext RX6 180 [(4, 9, 0, 0, 0), (3, 2, 0, 0, 0)] := And.intro dX6_tryNext_180 (And.intro ⟨_, dX6_tryNext_182, rfl⟩ trivial)
theorem bX6_tryNext_98_104 : okB cX6_tryNext RX6 98 [(6, 6, 0, 0, 0), (4, 9, 0, 0, 0), (4, 8, 0, 0, 0)] := And.intro dX6_tryNext_98 (And.intro dX6_tryNext_100 (And.intro dX6_tryNext_102 trivial))
theorem bX6_tryNext_105_110 : okB cX6_tryNext RX6 105 [(5, 0, 0, 0, 0), (23, 22, 6, 6, 0), (3, 1, 0, 0, 0)] := And.intro ⟨_, dX6_tryNext_105, rfl⟩ (And.intro ⟨dX6_tryNext_106, fl_X6_22⟩ (And.intro ⟨_, dX6_tryNext_109, rfl⟩ trivial))
theorem bX6_tryNext_111_115 : okB cX6_tryNext RX6 111 [(4, 9, 0, 0, 0), (4, 7, 0, 0, 0)] := And.intro dX6_tryNext_111 (And.intro dX6_tryNext_113 trivial)
theorem bX6_tryNext_116_121 : okB cX6_tryNext RX6 116 [(5, 0, 0, 0, 0), (23, 25, 6, 7, 0), (3, 1, 0, 0, 0)] := And.intro ⟨_, dX6_tryNext_116, rfl⟩ (And.intro ⟨dX6_tryNext_117, fl_X6_25⟩ (And.intro ⟨_, dX6_tryNext_120, rfl⟩ trivial))
theorem bX6_tryNext_122_125 : okB cX6_tryNext RX6 122 [(4, 9, 0, 0, 0), (3, 2, 0, 0, 0)] := And.intro dX6_tryNext_122 (And.intro ⟨_, dX6_tryNext_124, rfl⟩ trivial)
theorem bX6_tryNext_75_83 : okB cX6_tryNext RX6 75 [(4, 8, 0, 0, 0), (6, 5, 0, 0, 0), (6, 4, 0, 0, 0), (4, 9, 0, 0, 0)] := And.intro dX6_tryNext_75 (And.intro dX6_tryNext_77 (And.intro dX6_tryNext_79 (And.intro dX6_tryNext_81 trivial)))
theorem bX6_tryNext_85_94 : okB cX6_tryNext RX6 85 [(12, 0, 0, 0, 0), (8, 8, 0, 0, 0), (4, 8, 0, 0, 0), (6, 6, 0, 0, 0), (4, 9, 0, 0, 0)] := And.intro dX6_tryNext_85 (And.intro dX6_tryNext_86 (And.intro dX6_tryNext_88 (And.intro dX6_tryNext_90 (And.intro dX6_tryNext_92 trivial))))
set_option maxHeartbeats 4000000 in
set_option maxRecDepth 100000 in
theorem k_X6_tryNext (l : Launch) (D : va_G) (ads : AD) (I A : HI) (a1 : Int32) (a2 : Int32) (nn : Nat) (hnn : nn < 6) (po : Option AV → HI → HI → Prop) (Iv62 : Int32 → Int32 → HI → Prop) (mu62 : Int32 → Int32 → HI → Nat)
    (hv : ((vp_in a1 11 ∧ 0 ≤ A 25 a1.toNatClampNeg) ∧ (vp_in a1 11 ∧ (vp_in (a1 + 1) 11 ∧ (vp_in a2 120 ∧ (vp_in (a1 + 1) 11 ∧ (vp_in a2 120 ∧ (Iv62 ((I 68 5) + (A (32 + (a1 + 1).toNatClampNeg) a2.toNatClampNeg)) 0 A ∧ ∀ (x8_62 : Int32) (x9_62 : Int32) (A_62 : HI), Iv62 x8_62 x9_62 A_62 → (((Int32.ofNat (chN (((mnI (A 25 a1.toNatClampNeg) 5).toNatClampNeg)))) ≤ x9_62 → po none I A_62) ∧ (¬ (Int32.ofNat (chN (((mnI (A 25 a1.toNatClampNeg) 5).toNatClampNeg)))) ≤ x9_62 → ((x9_62 ≤ 0 → (vp_in x9_62 120 ∧ (((A_62 (32 + a1.toNatClampNeg) x9_62.toNatClampNeg) ≤ x8_62 → (vp_in x9_62 120 ∧ ((¬ x8_62 = (A_62 (32 + a1.toNatClampNeg) x9_62.toNatClampNeg) → (Iv62 x8_62 (x9_62 + 1) A_62 ∧ mu62 x8_62 (x9_62 + 1) A_62 < mu62 x8_62 x9_62 A_62)) ∧ (x8_62 = (A_62 (32 + a1.toNatClampNeg) x9_62.toNatClampNeg) → (vp_in a1 11 ∧ (vp_in x9_62 120 ∧ (vp_in x9_62 120 ∧ ((vp_in a2 (chN nn)) ∧ (vp_in a1 11 ∧ (vp_in x9_62 120 ∧ ((vp_in ((up2 A_62 (44 + a1.toNatClampNeg) x9_62.toNatClampNeg ((A_62 (44 + a1.toNatClampNeg) x9_62.toNatClampNeg) + (A (44 + (a1 + 1).toNatClampNeg) a2.toNatClampNeg))) (56 + a1.toNatClampNeg) x9_62.toNatClampNeg) (chN nn)) ∧ ((((up2 A_62 (44 + a1.toNatClampNeg) x9_62.toNatClampNeg ((A_62 (44 + a1.toNatClampNeg) x9_62.toNatClampNeg) + (A (44 + (a1 + 1).toNatClampNeg) a2.toNatClampNeg))) (74 + 4 * nn) ((up2 A_62 (44 + a1.toNatClampNeg) x9_62.toNatClampNeg ((A_62 (44 + a1.toNatClampNeg) x9_62.toNatClampNeg) + (A (44 + (a1 + 1).toNatClampNeg) a2.toNatClampNeg))) (56 + a1.toNatClampNeg) x9_62.toNatClampNeg).toNatClampNeg) ≤ ((up2 A_62 (44 + a1.toNatClampNeg) x9_62.toNatClampNeg ((A_62 (44 + a1.toNatClampNeg) x9_62.toNatClampNeg) + (A (44 + (a1 + 1).toNatClampNeg) a2.toNatClampNeg))) (74 + 4 * nn) a2.toNatClampNeg) → (Iv62 x8_62 (x9_62 + 1) (up2 A_62 (44 + a1.toNatClampNeg) x9_62.toNatClampNeg ((A_62 (44 + a1.toNatClampNeg) x9_62.toNatClampNeg) + (A (44 + (a1 + 1).toNatClampNeg) a2.toNatClampNeg))) ∧ mu62 x8_62 (x9_62 + 1) (up2 A_62 (44 + a1.toNatClampNeg) x9_62.toNatClampNeg ((A_62 (44 + a1.toNatClampNeg) x9_62.toNatClampNeg) + (A (44 + (a1 + 1).toNatClampNeg) a2.toNatClampNeg))) < mu62 x8_62 x9_62 A_62)) ∧ (¬ ((up2 A_62 (44 + a1.toNatClampNeg) x9_62.toNatClampNeg ((A_62 (44 + a1.toNatClampNeg) x9_62.toNatClampNeg) + (A (44 + (a1 + 1).toNatClampNeg) a2.toNatClampNeg))) (74 + 4 * nn) ((up2 A_62 (44 + a1.toNatClampNeg) x9_62.toNatClampNeg ((A_62 (44 + a1.toNatClampNeg) x9_62.toNatClampNeg) + (A (44 + (a1 + 1).toNatClampNeg) a2.toNatClampNeg))) (56 + a1.toNatClampNeg) x9_62.toNatClampNeg).toNatClampNeg) ≤ ((up2 A_62 (44 + a1.toNatClampNeg) x9_62.toNatClampNeg ((A_62 (44 + a1.toNatClampNeg) x9_62.toNatClampNeg) + (A (44 + (a1 + 1).toNatClampNeg) a2.toNatClampNeg))) (74 + 4 * nn) a2.toNatClampNeg) → (vp_in a1 11 ∧ (vp_in x9_62 120 ∧ (Iv62 x8_62 (x9_62 + 1) (up2 (up2 A_62 (44 + a1.toNatClampNeg) x9_62.toNatClampNeg ((A_62 (44 + a1.toNatClampNeg) x9_62.toNatClampNeg) + (A (44 + (a1 + 1).toNatClampNeg) a2.toNatClampNeg))) (56 + a1.toNatClampNeg) x9_62.toNatClampNeg a2) ∧ mu62 x8_62 (x9_62 + 1) (up2 (up2 A_62 (44 + a1.toNatClampNeg) x9_62.toNatClampNeg ((A_62 (44 + a1.toNatClampNeg) x9_62.toNatClampNeg) + (A (44 + (a1 + 1).toNatClampNeg) a2.toNatClampNeg))) (56 + a1.toNatClampNeg) x9_62.toNatClampNeg a2) < mu62 x8_62 x9_62 A_62)))))))))))))))) ∧ (¬ (A_62 (32 + a1.toNatClampNeg) x9_62.toNatClampNeg) ≤ x8_62 → (vp_in x9_62 120 ∧ (vp_in a1 11 ∧ (vp_in x9_62 120 ∧ (vp_in a1 11 ∧ (vp_in x9_62 120 ∧ (Iv62 x8_62 (x9_62 + 1) (up2 (up2 (up2 A_62 (32 + a1.toNatClampNeg) x9_62.toNatClampNeg x8_62) (44 + a1.toNatClampNeg) x9_62.toNatClampNeg (A (44 + (a1 + 1).toNatClampNeg) a2.toNatClampNeg)) (56 + a1.toNatClampNeg) x9_62.toNatClampNeg a2) ∧ mu62 x8_62 (x9_62 + 1) (up2 (up2 (up2 A_62 (32 + a1.toNatClampNeg) x9_62.toNatClampNeg x8_62) (44 + a1.toNatClampNeg) x9_62.toNatClampNeg (A (44 + (a1 + 1).toNatClampNeg) a2.toNatClampNeg)) (56 + a1.toNatClampNeg) x9_62.toNatClampNeg a2) < mu62 x8_62 x9_62 A_62)))))))))) ∧ (¬ x9_62 ≤ 0 → (vp_in x9_62 (chN (((mnI (A 25 a1.toNatClampNeg) 5).toNatClampNeg))) ∧ (vp_in (A_62 (73 + 4 * ((mnI (A 25 a1.toNatClampNeg) 5).toNatClampNeg)) x9_62.toNatClampNeg) 25 ∧ (vp_in x9_62 120 ∧ (((A_62 (32 + a1.toNatClampNeg) x9_62.toNatClampNeg) ≤ (x8_62 + (A_62 70 (A_62 (73 + 4 * ((mnI (A 25 a1.toNatClampNeg) 5).toNatClampNeg)) x9_62.toNatClampNeg).toNatClampNeg)) → (vp_in x9_62 120 ∧ ((¬ (x8_62 + (A_62 70 (A_62 (73 + 4 * ((mnI (A 25 a1.toNatClampNeg) 5).toNatClampNeg)) x9_62.toNatClampNeg).toNatClampNeg)) = (A_62 (32 + a1.toNatClampNeg) x9_62.toNatClampNeg) → (Iv62 (x8_62 + (A_62 70 (A_62 (73 + 4 * ((mnI (A 25 a1.toNatClampNeg) 5).toNatClampNeg)) x9_62.toNatClampNeg).toNatClampNeg)) (x9_62 + 1) A_62 ∧ mu62 (x8_62 + (A_62 70 (A_62 (73 + 4 * ((mnI (A 25 a1.toNatClampNeg) 5).toNatClampNeg)) x9_62.toNatClampNeg).toNatClampNeg)) (x9_62 + 1) A_62 < mu62 x8_62 x9_62 A_62)) ∧ ((x8_62 + (A_62 70 (A_62 (73 + 4 * ((mnI (A 25 a1.toNatClampNeg) 5).toNatClampNeg)) x9_62.toNatClampNeg).toNatClampNeg)) = (A_62 (32 + a1.toNatClampNeg) x9_62.toNatClampNeg) → (vp_in a1 11 ∧ (vp_in x9_62 120 ∧ (vp_in x9_62 120 ∧ ((vp_in a2 (chN nn)) ∧ (vp_in a1 11 ∧ (vp_in x9_62 120 ∧ ((vp_in ((up2 A_62 (44 + a1.toNatClampNeg) x9_62.toNatClampNeg ((A_62 (44 + a1.toNatClampNeg) x9_62.toNatClampNeg) + (A (44 + (a1 + 1).toNatClampNeg) a2.toNatClampNeg))) (56 + a1.toNatClampNeg) x9_62.toNatClampNeg) (chN nn)) ∧ ((((up2 A_62 (44 + a1.toNatClampNeg) x9_62.toNatClampNeg ((A_62 (44 + a1.toNatClampNeg) x9_62.toNatClampNeg) + (A (44 + (a1 + 1).toNatClampNeg) a2.toNatClampNeg))) (74 + 4 * nn) ((up2 A_62 (44 + a1.toNatClampNeg) x9_62.toNatClampNeg ((A_62 (44 + a1.toNatClampNeg) x9_62.toNatClampNeg) + (A (44 + (a1 + 1).toNatClampNeg) a2.toNatClampNeg))) (56 + a1.toNatClampNeg) x9_62.toNatClampNeg).toNatClampNeg) ≤ ((up2 A_62 (44 + a1.toNatClampNeg) x9_62.toNatClampNeg ((A_62 (44 + a1.toNatClampNeg) x9_62.toNatClampNeg) + (A (44 + (a1 + 1).toNatClampNeg) a2.toNatClampNeg))) (74 + 4 * nn) a2.toNatClampNeg) → (Iv62 (x8_62 + (A_62 70 (A_62 (73 + 4 * ((mnI (A 25 a1.toNatClampNeg) 5).toNatClampNeg)) x9_62.toNatClampNeg).toNatClampNeg)) (x9_62 + 1) (up2 A_62 (44 + a1.toNatClampNeg) x9_62.toNatClampNeg ((A_62 (44 + a1.toNatClampNeg) x9_62.toNatClampNeg) + (A (44 + (a1 + 1).toNatClampNeg) a2.toNatClampNeg))) ∧ mu62 (x8_62 + (A_62 70 (A_62 (73 + 4 * ((mnI (A 25 a1.toNatClampNeg) 5).toNatClampNeg)) x9_62.toNatClampNeg).toNatClampNeg)) (x9_62 + 1) (up2 A_62 (44 + a1.toNatClampNeg) x9_62.toNatClampNeg ((A_62 (44 + a1.toNatClampNeg) x9_62.toNatClampNeg) + (A (44 + (a1 + 1).toNatClampNeg) a2.toNatClampNeg))) < mu62 x8_62 x9_62 A_62)) ∧ (¬ ((up2 A_62 (44 + a1.toNatClampNeg) x9_62.toNatClampNeg ((A_62 (44 + a1.toNatClampNeg) x9_62.toNatClampNeg) + (A (44 + (a1 + 1).toNatClampNeg) a2.toNatClampNeg))) (74 + 4 * nn) ((up2 A_62 (44 + a1.toNatClampNeg) x9_62.toNatClampNeg ((A_62 (44 + a1.toNatClampNeg) x9_62.toNatClampNeg) + (A (44 + (a1 + 1).toNatClampNeg) a2.toNatClampNeg))) (56 + a1.toNatClampNeg) x9_62.toNatClampNeg).toNatClampNeg) ≤ ((up2 A_62 (44 + a1.toNatClampNeg) x9_62.toNatClampNeg ((A_62 (44 + a1.toNatClampNeg) x9_62.toNatClampNeg) + (A (44 + (a1 + 1).toNatClampNeg) a2.toNatClampNeg))) (74 + 4 * nn) a2.toNatClampNeg) → (vp_in a1 11 ∧ (vp_in x9_62 120 ∧ (Iv62 (x8_62 + (A_62 70 (A_62 (73 + 4 * ((mnI (A 25 a1.toNatClampNeg) 5).toNatClampNeg)) x9_62.toNatClampNeg).toNatClampNeg)) (x9_62 + 1) (up2 (up2 A_62 (44 + a1.toNatClampNeg) x9_62.toNatClampNeg ((A_62 (44 + a1.toNatClampNeg) x9_62.toNatClampNeg) + (A (44 + (a1 + 1).toNatClampNeg) a2.toNatClampNeg))) (56 + a1.toNatClampNeg) x9_62.toNatClampNeg a2) ∧ mu62 (x8_62 + (A_62 70 (A_62 (73 + 4 * ((mnI (A 25 a1.toNatClampNeg) 5).toNatClampNeg)) x9_62.toNatClampNeg).toNatClampNeg)) (x9_62 + 1) (up2 (up2 A_62 (44 + a1.toNatClampNeg) x9_62.toNatClampNeg ((A_62 (44 + a1.toNatClampNeg) x9_62.toNatClampNeg) + (A (44 + (a1 + 1).toNatClampNeg) a2.toNatClampNeg))) (56 + a1.toNatClampNeg) x9_62.toNatClampNeg a2) < mu62 x8_62 x9_62 A_62)))))))))))))))) ∧ (¬ (A_62 (32 + a1.toNatClampNeg) x9_62.toNatClampNeg) ≤ (x8_62 + (A_62 70 (A_62 (73 + 4 * ((mnI (A 25 a1.toNatClampNeg) 5).toNatClampNeg)) x9_62.toNatClampNeg).toNatClampNeg)) → (vp_in x9_62 120 ∧ (vp_in a1 11 ∧ (vp_in x9_62 120 ∧ (vp_in a1 11 ∧ (vp_in x9_62 120 ∧ (Iv62 (x8_62 + (A_62 70 (A_62 (73 + 4 * ((mnI (A 25 a1.toNatClampNeg) 5).toNatClampNeg)) x9_62.toNatClampNeg).toNatClampNeg)) (x9_62 + 1) (up2 (up2 (up2 A_62 (32 + a1.toNatClampNeg) x9_62.toNatClampNeg (x8_62 + (A_62 70 (A_62 (73 + 4 * ((mnI (A 25 a1.toNatClampNeg) 5).toNatClampNeg)) x9_62.toNatClampNeg).toNatClampNeg))) (44 + a1.toNatClampNeg) x9_62.toNatClampNeg (A (44 + (a1 + 1).toNatClampNeg) a2.toNatClampNeg)) (56 + a1.toNatClampNeg) x9_62.toNatClampNeg a2) ∧ mu62 (x8_62 + (A_62 70 (A_62 (73 + 4 * ((mnI (A 25 a1.toNatClampNeg) 5).toNatClampNeg)) x9_62.toNatClampNeg).toNatClampNeg)) (x9_62 + 1) (up2 (up2 (up2 A_62 (32 + a1.toNatClampNeg) x9_62.toNatClampNeg (x8_62 + (A_62 70 (A_62 (73 + 4 * ((mnI (A 25 a1.toNatClampNeg) 5).toNatClampNeg)) x9_62.toNatClampNeg).toNatClampNeg))) (44 + a1.toNatClampNeg) x9_62.toNatClampNeg (A (44 + (a1 + 1).toNatClampNeg) a2.toNatClampNeg)) (56 + a1.toNatClampNeg) x9_62.toNatClampNeg a2) < mu62 x8_62 x9_62 A_62))))))))))))))))))))))) : Ct l yX6_tryNext cX6_tryNext 10 none 2 42 D ads shp [.inr (some 29), .inl a1, .inl a2, .inr (some (71 + 4 * nn))] I A po := by
  refine Ct_of (by decide) (Nat.le_of_ble_eq_true rfl) ?_
  intro p e s m args below meth c hC hr
  replace hC : CX p s m args meth c cX6_tryNext 10 RX6 (AdS ads s.heap.size) := hC
  show Gm p l e s m args below meth c D ads 2 42 10 po I A 0 [some (.inr (some 29)), some (.inl a1), some (.inl a2), some (.inr (some (71 + 4 * nn))), none, none, none, none, none, none] []
  refine g_blk hC _ bX6_tryNext_0_2 (pc' := 2) (ls' := [some (.inr (some 29)), some (.inl a1), some (.inl a2), some (.inr (some (71 + 4 * nn))), none, none, none, none, none, none]) (st' := [.inl a1, .inr (some 29)]) (I' := I) rfl rfl ?_
  obtain ⟨hp1, hv⟩ := hv
  refine g_callV hC (c_X6_changesOf l D ads I A a1 hp1) dX6_tryNext_2 nm_X6_changesOf rfl rfl wl_X6_96 wi_X6_changesOf ws_X6_changesOf wn_X6 wc_X6_changesOf ⟨by decide, by decide⟩ (as := [.inl a1]) (rest := []) rfl (Nat.le_of_ble_eq_true rfl) ⟨Nat.le_refl _, Nat.le_refl _⟩ (k_qR ?_)
  obtain ⟨fs9, hs9⟩ := ch_sh (chO_lt hp1.2)
  refine g_callV hC (c_X0_exchanged l D ads I A ((mnI (A 25 a1.toNatClampNeg) 5).toNatClampNeg) (chO_lt hp1.2)) dX6_tryNext_5 nm_X0_exchanged hs9 rfl wl_X6_133 wi_X0_exchanged ws_X0_exchanged wn_X0 wc_X0_exchanged ⟨by decide, by decide⟩ (as := []) (rest := []) rfl (Nat.le_of_ble_eq_true rfl) ⟨Nat.le_refl _, Nat.le_refl _⟩ (k_qR ?_)
  refine g_blk hC _ bX6_tryNext_8_14 (pc' := 14) (ls' := [some (.inr (some 29)), some (.inl a1), some (.inl a2), some (.inr (some (71 + 4 * nn))), some (.inr (some (73 + 4 * ((mnI (A 25 a1.toNatClampNeg) 5).toNatClampNeg)))), none, none, none, none, none]) (st' := [.inr (some 68)]) (I' := I) rfl rfl ?_
  refine g_callV hC (c_X3_gains l D ads I A ) dX6_tryNext_14 nm_X3_gains rfl rfl wl_X6_144 wi_X3_gains ws_X3_gains wn_X3 wc_X3_gains ⟨by decide, by decide⟩ (as := []) (rest := []) rfl (Nat.le_of_ble_eq_true rfl) ⟨Nat.le_refl _, Nat.le_refl _⟩ (k_qR ?_)
  refine g_blk hC _ bX6_tryNext_17_24 (pc' := 24) (ls' := [some (.inr (some 29)), some (.inl a1), some (.inl a2), some (.inr (some (71 + 4 * nn))), some (.inr (some (73 + 4 * ((mnI (A 25 a1.toNatClampNeg) 5).toNatClampNeg)))), some (.inr (some 70)), none, none, none, none]) (st' := [.inl a1, .inr (some 31)]) (I' := I) rfl rfl ?_
  obtain ⟨hr4, hv⟩ := hv
  refine g_aald hC dX6_tryNext_24 (f := _) rfl hr4 (ra_31 (vin_lt hr4)) ?_
  refine g_blk hC _ bX6_tryNext_25_34 (pc' := 34) (ls' := [some (.inr (some 29)), some (.inl a1), some (.inl a2), some (.inr (some (71 + 4 * nn))), some (.inr (some (73 + 4 * ((mnI (A 25 a1.toNatClampNeg) 5).toNatClampNeg)))), some (.inr (some 70)), some (.inr (some (32 + a1.toNatClampNeg))), none, none, none]) (st' := [.inl (a1 + 1), .inr (some 43)]) (I' := I) rfl rfl ?_
  obtain ⟨hr5, hv⟩ := hv
  refine g_aald hC dX6_tryNext_34 (f := _) rfl hr5 (ra_43 (vin_lt hr5)) ?_
  refine g_blk hC _ bX6_tryNext_35_36 (pc' := 36) (ls' := [some (.inr (some 29)), some (.inl a1), some (.inl a2), some (.inr (some (71 + 4 * nn))), some (.inr (some (73 + 4 * ((mnI (A 25 a1.toNatClampNeg) 5).toNatClampNeg)))), some (.inr (some 70)), some (.inr (some (32 + a1.toNatClampNeg))), none, none, none]) (st' := [.inl a2, .inr (some (44 + (a1 + 1).toNatClampNeg))]) (I' := I) rfl rfl ?_
  obtain ⟨hi, hv⟩ := hv
  refine g_iald hC dX6_tryNext_36 (rw_43 (vin_lt hr5)) hi ?_
  clear hi
  refine g_blk hC _ bX6_tryNext_37_43 (pc' := 43) (ls' := [some (.inr (some 29)), some (.inl a1), some (.inl a2), some (.inr (some (71 + 4 * nn))), some (.inr (some (73 + 4 * ((mnI (A 25 a1.toNatClampNeg) 5).toNatClampNeg)))), some (.inr (some 70)), some (.inr (some (32 + a1.toNatClampNeg))), some (.inl (A (44 + (a1 + 1).toNatClampNeg) a2.toNatClampNeg)), none, none]) (st' := [.inr (some 68)]) (I' := I) rfl rfl ?_
  refine g_callV hC (c_X3_base l D ads I A ) dX6_tryNext_43 nm_X3_base rfl rfl wl_X6_147 wi_X3_base ws_X3_base wn_X3 wc_X3_base ⟨by decide, by decide⟩ (as := []) (rest := []) rfl (Nat.le_of_ble_eq_true rfl) ⟨Nat.le_refl _, Nat.le_refl _⟩ (k_qI ?_)
  refine g_blk hC _ bX6_tryNext_46_53 (pc' := 53) (ls' := [some (.inr (some 29)), some (.inl a1), some (.inl a2), some (.inr (some (71 + 4 * nn))), some (.inr (some (73 + 4 * ((mnI (A 25 a1.toNatClampNeg) 5).toNatClampNeg)))), some (.inr (some 70)), some (.inr (some (32 + a1.toNatClampNeg))), some (.inl (A (44 + (a1 + 1).toNatClampNeg) a2.toNatClampNeg)), none, none]) (st' := [.inl (a1 + 1), .inr (some 31), .inl (I 68 5)]) (I' := I) rfl rfl ?_
  obtain ⟨hr7, hv⟩ := hv
  refine g_aald hC dX6_tryNext_53 (f := _) rfl hr7 (ra_31 (vin_lt hr7)) ?_
  refine g_blk hC _ bX6_tryNext_54_55 (pc' := 55) (ls' := [some (.inr (some 29)), some (.inl a1), some (.inl a2), some (.inr (some (71 + 4 * nn))), some (.inr (some (73 + 4 * ((mnI (A 25 a1.toNatClampNeg) 5).toNatClampNeg)))), some (.inr (some 70)), some (.inr (some (32 + a1.toNatClampNeg))), some (.inl (A (44 + (a1 + 1).toNatClampNeg) a2.toNatClampNeg)), none, none]) (st' := [.inl a2, .inr (some (32 + (a1 + 1).toNatClampNeg)), .inl (I 68 5)]) (I' := I) rfl rfl ?_
  obtain ⟨hi, hv⟩ := hv
  refine g_iald hC dX6_tryNext_55 (rw_31 (vin_lt hr7)) hi ?_
  clear hi
  refine g_blk hC _ bX6_tryNext_56_62 (pc' := 62) (ls' := [some (.inr (some 29)), some (.inl a1), some (.inl a2), some (.inr (some (71 + 4 * nn))), some (.inr (some (73 + 4 * ((mnI (A 25 a1.toNatClampNeg) 5).toNatClampNeg)))), some (.inr (some 70)), some (.inr (some (32 + a1.toNatClampNeg))), some (.inl (A (44 + (a1 + 1).toNatClampNeg) a2.toNatClampNeg)), some (.inl ((I 68 5) + (A (32 + (a1 + 1).toNatClampNeg) a2.toNatClampNeg))), some (.inl 0)]) (st' := []) (I' := I) rfl rfl ?_
  obtain ⟨hi62, hb62⟩ := hv
  have L62 : ∀ (n : Nat) (x8_62 : Int32) (x9_62 : Int32) (A_62 : HI), Iv62 x8_62 x9_62 A_62 → mu62 x8_62 x9_62 A_62 < n → Gm p l e s m args below meth c D ads 2 42 10 po I A_62 62 [some (.inr (some 29)), some (.inl a1), some (.inl a2), some (.inr (some (71 + 4 * nn))), some (.inr (some (73 + 4 * ((mnI (A 25 a1.toNatClampNeg) 5).toNatClampNeg)))), some (.inr (some 70)), some (.inr (some (32 + a1.toNatClampNeg))), some (.inl (A (44 + (a1 + 1).toNatClampNeg) a2.toNatClampNeg)), some (.inl x8_62), some (.inl x9_62)] [] := by
    intro n
    induction n with
    | zero => intro x8_62 x9_62 A_62 _ hn; exact absurd hn (Nat.not_lt_zero _)
    | succ n ih62 =>
      intro x8_62 x9_62 A_62 hv hn62
      replace hv := hb62 x8_62 x9_62 A_62 hv
      skip
      refine g_blk hC _ bX6_tryNext_62_66 (pc' := 66) (ls' := [some (.inr (some 29)), some (.inl a1), some (.inl a2), some (.inr (some (71 + 4 * nn))), some (.inr (some (73 + 4 * ((mnI (A 25 a1.toNatClampNeg) 5).toNatClampNeg)))), some (.inr (some 70)), some (.inr (some (32 + a1.toNatClampNeg))), some (.inl (A (44 + (a1 + 1).toNatClampNeg) a2.toNatClampNeg)), some (.inl x8_62), some (.inl x9_62)]) (st' := [.inr (some (73 + 4 * ((mnI (A 25 a1.toNatClampNeg) 5).toNatClampNeg))), .inl x9_62]) (I' := I) rfl rfl ?_
      refine g_alen hC dX6_tryNext_66 (ex_sh ((chO_lt hp1.2))) ?_
      obtain ⟨hv1, hv2⟩ := hv
      refine g_cge hC dX6_tryNext_67 (tgt := 190) (by decide) (fun hc => ?_) (fun hc => ?_)
      · have hv := hv1 hc
        clear hv1 hv2 hc
        exact g_retv hC hr dX6_tryNext_190 hv
      · have hv := hv2 hc
        clear hv1 hv2 hc
        refine g_blk hC _ bX6_tryNext_70_72 (pc' := 72) (ls' := [some (.inr (some 29)), some (.inl a1), some (.inl a2), some (.inr (some (71 + 4 * nn))), some (.inr (some (73 + 4 * ((mnI (A 25 a1.toNatClampNeg) 5).toNatClampNeg)))), some (.inr (some 70)), some (.inr (some (32 + a1.toNatClampNeg))), some (.inl (A (44 + (a1 + 1).toNatClampNeg) a2.toNatClampNeg)), some (.inl x8_62), some (.inl x9_62)]) (st' := [.inl x9_62]) (I' := I) rfl rfl ?_
        obtain ⟨hv1, hv2⟩ := hv
        refine g_ifle hC dX6_tryNext_72 (tgt := 88) (by decide) (fun hc => ?_) (fun hc => ?_)
        · have hv := hv1 hc
          clear hv1 hv2 hc
          refine g_blk hC _ bX6_tryNext_88_94 (pc' := 94) (ls' := [some (.inr (some 29)), some (.inl a1), some (.inl a2), some (.inr (some (71 + 4 * nn))), some (.inr (some (73 + 4 * ((mnI (A 25 a1.toNatClampNeg) 5).toNatClampNeg)))), some (.inr (some 70)), some (.inr (some (32 + a1.toNatClampNeg))), some (.inl (A (44 + (a1 + 1).toNatClampNeg) a2.toNatClampNeg)), some (.inl x8_62), some (.inl x9_62)]) (st' := [.inl x9_62, .inr (some (32 + a1.toNatClampNeg)), .inl x8_62]) (I' := I) rfl rfl ?_
          obtain ⟨hi, hv⟩ := hv
          refine g_iald hC dX6_tryNext_94 (rw_31 (vin_lt hr4)) hi ?_
          clear hi
          obtain ⟨hv1, hv2⟩ := hv
          refine g_cge hC dX6_tryNext_95 (tgt := 129) (by decide) (fun hc => ?_) (fun hc => ?_)
          · have hv := hv1 hc
            clear hv1 hv2 hc
            refine g_blk hC _ bX6_tryNext_129_135 (pc' := 135) (ls' := [some (.inr (some 29)), some (.inl a1), some (.inl a2), some (.inr (some (71 + 4 * nn))), some (.inr (some (73 + 4 * ((mnI (A 25 a1.toNatClampNeg) 5).toNatClampNeg)))), some (.inr (some 70)), some (.inr (some (32 + a1.toNatClampNeg))), some (.inl (A (44 + (a1 + 1).toNatClampNeg) a2.toNatClampNeg)), some (.inl x8_62), some (.inl x9_62)]) (st' := [.inl x9_62, .inr (some (32 + a1.toNatClampNeg)), .inl x8_62]) (I' := I) rfl rfl ?_
            obtain ⟨hi, hv⟩ := hv
            refine g_iald hC dX6_tryNext_135 (rw_31 (vin_lt hr4)) hi ?_
            clear hi
            obtain ⟨hv1, hv2⟩ := hv
            refine g_cne hC dX6_tryNext_136 (tgt := 184) (by decide) (fun hc => ?_) (fun hc => ?_)
            · have hv := hv1 hc
              clear hv1 hv2 hc
              refine g_blk hC _ bX6_tryNext_184_187 (pc' := 187) (ls' := [some (.inr (some 29)), some (.inl a1), some (.inl a2), some (.inr (some (71 + 4 * nn))), some (.inr (some (73 + 4 * ((mnI (A 25 a1.toNatClampNeg) 5).toNatClampNeg)))), some (.inr (some 70)), some (.inr (some (32 + a1.toNatClampNeg))), some (.inl (A (44 + (a1 + 1).toNatClampNeg) a2.toNatClampNeg)), some (.inl x8_62), some (.inl (x9_62 + 1))]) (st' := []) (I' := I) rfl rfl ?_
              refine g_goto hC dX6_tryNext_187 (tgt := 62) (by decide) ?_
              exact g_weak (ls1 := [some (.inr (some 29)), some (.inl a1), some (.inl a2), some (.inr (some (71 + 4 * nn))), some (.inr (some (73 + 4 * ((mnI (A 25 a1.toNatClampNeg) 5).toNatClampNeg)))), some (.inr (some 70)), some (.inr (some (32 + a1.toNatClampNeg))), some (.inl (A (44 + (a1 + 1).toNatClampNeg) a2.toNatClampNeg)), some (.inl x8_62), some (.inl (x9_62 + 1))]) rfl (And.intro rfl (And.intro rfl (And.intro rfl (And.intro rfl (And.intro rfl (And.intro rfl (And.intro rfl (And.intro rfl (And.intro rfl (And.intro rfl trivial)))))))))) (ih62 x8_62 (x9_62 + 1) A_62 hv.1 (Nat.lt_of_lt_of_le hv.2 (Nat.le_of_lt_succ hn62)))
            · have hv := hv2 hc
              clear hv1 hv2 hc
              refine g_blk hC _ bX6_tryNext_139_144 (pc' := 144) (ls' := [some (.inr (some 29)), some (.inl a1), some (.inl a2), some (.inr (some (71 + 4 * nn))), some (.inr (some (73 + 4 * ((mnI (A 25 a1.toNatClampNeg) 5).toNatClampNeg)))), some (.inr (some 70)), some (.inr (some (32 + a1.toNatClampNeg))), some (.inl (A (44 + (a1 + 1).toNatClampNeg) a2.toNatClampNeg)), some (.inl x8_62), some (.inl x9_62)]) (st' := [.inl a1, .inr (some 43)]) (I' := I) rfl rfl ?_
              obtain ⟨hr8, hv⟩ := hv
              refine g_aald hC dX6_tryNext_144 (f := _) rfl hr8 (ra_43 (vin_lt hr8)) ?_
              refine g_blk hC _ bX6_tryNext_145_148 (pc' := 148) (ls' := [some (.inr (some 29)), some (.inl a1), some (.inl a2), some (.inr (some (71 + 4 * nn))), some (.inr (some (73 + 4 * ((mnI (A 25 a1.toNatClampNeg) 5).toNatClampNeg)))), some (.inr (some 70)), some (.inr (some (32 + a1.toNatClampNeg))), some (.inl (A (44 + (a1 + 1).toNatClampNeg) a2.toNatClampNeg)), some (.inl x8_62), some (.inl x9_62)]) (st' := [.inl x9_62, .inr (some (44 + a1.toNatClampNeg)), .inl x9_62, .inr (some (44 + a1.toNatClampNeg))]) (I' := I) rfl rfl ?_
              obtain ⟨hi, hv⟩ := hv
              refine g_iald hC dX6_tryNext_148 (rw_43 (vin_lt hr8)) hi ?_
              clear hi
              refine g_blk hC _ bX6_tryNext_149_152 (pc' := 152) (ls' := [some (.inr (some 29)), some (.inl a1), some (.inl a2), some (.inr (some (71 + 4 * nn))), some (.inr (some (73 + 4 * ((mnI (A 25 a1.toNatClampNeg) 5).toNatClampNeg)))), some (.inr (some 70)), some (.inr (some (32 + a1.toNatClampNeg))), some (.inl (A (44 + (a1 + 1).toNatClampNeg) a2.toNatClampNeg)), some (.inl x8_62), some (.inl x9_62)]) (st' := [.inl ((A_62 (44 + a1.toNatClampNeg) x9_62.toNatClampNeg) + (A (44 + (a1 + 1).toNatClampNeg) a2.toNatClampNeg)), .inl x9_62, .inr (some (44 + a1.toNatClampNeg))]) (I' := I) rfl rfl ?_
              obtain ⟨hi, hv⟩ := hv
              refine g_iast hC dX6_tryNext_152 (rw_43 (vin_lt hr8)) hi ?_
              clear hi
              refine g_blk hC _ bX6_tryNext_153_155 (pc' := 155) (ls' := [some (.inr (some 29)), some (.inl a1), some (.inl a2), some (.inr (some (71 + 4 * nn))), some (.inr (some (73 + 4 * ((mnI (A 25 a1.toNatClampNeg) 5).toNatClampNeg)))), some (.inr (some 70)), some (.inr (some (32 + a1.toNatClampNeg))), some (.inl (A (44 + (a1 + 1).toNatClampNeg) a2.toNatClampNeg)), some (.inl x8_62), some (.inl x9_62)]) (st' := [.inl a2, .inr (some (71 + 4 * nn))]) (I' := I) rfl rfl ?_
              obtain ⟨hp9, hv⟩ := hv
              obtain ⟨fs9, hs9⟩ := ch_sh hnn
              refine g_callV hC (c_X0_rankAt l D ads I (up2 A_62 (44 + a1.toNatClampNeg) x9_62.toNatClampNeg ((A_62 (44 + a1.toNatClampNeg) x9_62.toNatClampNeg) + (A (44 + (a1 + 1).toNatClampNeg) a2.toNatClampNeg))) nn a2 hnn hp9) dX6_tryNext_155 nm_X0_rankAt hs9 rfl wl_X6_150 wi_X0_rankAt ws_X0_rankAt wn_X0 wc_X0_rankAt ⟨by decide, by decide⟩ (as := [.inl a2]) (rest := []) rfl (Nat.le_of_ble_eq_true rfl) ⟨Nat.le_refl _, Nat.le_refl _⟩ (k_qI ?_)
              refine g_blk hC _ bX6_tryNext_158_164 (pc' := 164) (ls' := [some (.inr (some 29)), some (.inl a1), some (.inl a2), some (.inr (some (71 + 4 * nn))), some (.inr (some (73 + 4 * ((mnI (A 25 a1.toNatClampNeg) 5).toNatClampNeg)))), some (.inr (some 70)), some (.inr (some (32 + a1.toNatClampNeg))), some (.inl (A (44 + (a1 + 1).toNatClampNeg) a2.toNatClampNeg)), some (.inl x8_62), some (.inl x9_62)]) (st' := [.inl a1, .inr (some 55), .inr (some (71 + 4 * nn)), .inl ((up2 A_62 (44 + a1.toNatClampNeg) x9_62.toNatClampNeg ((A_62 (44 + a1.toNatClampNeg) x9_62.toNatClampNeg) + (A (44 + (a1 + 1).toNatClampNeg) a2.toNatClampNeg))) (74 + 4 * nn) a2.toNatClampNeg)]) (I' := I) rfl rfl ?_
              obtain ⟨hr10, hv⟩ := hv
              refine g_aald hC dX6_tryNext_164 (f := _) rfl hr10 (ra_55 (vin_lt hr10)) ?_
              refine g_blk hC _ bX6_tryNext_165_167 (pc' := 167) (ls' := [some (.inr (some 29)), some (.inl a1), some (.inl a2), some (.inr (some (71 + 4 * nn))), some (.inr (some (73 + 4 * ((mnI (A 25 a1.toNatClampNeg) 5).toNatClampNeg)))), some (.inr (some 70)), some (.inr (some (32 + a1.toNatClampNeg))), some (.inl (A (44 + (a1 + 1).toNatClampNeg) a2.toNatClampNeg)), some (.inl x8_62), some (.inl x9_62)]) (st' := [.inl x9_62, .inr (some (56 + a1.toNatClampNeg)), .inr (some (71 + 4 * nn)), .inl ((up2 A_62 (44 + a1.toNatClampNeg) x9_62.toNatClampNeg ((A_62 (44 + a1.toNatClampNeg) x9_62.toNatClampNeg) + (A (44 + (a1 + 1).toNatClampNeg) a2.toNatClampNeg))) (74 + 4 * nn) a2.toNatClampNeg)]) (I' := I) rfl rfl ?_
              obtain ⟨hi, hv⟩ := hv
              refine g_iald hC dX6_tryNext_167 (rw_55 (vin_lt hr10)) hi ?_
              clear hi
              obtain ⟨hp11, hv⟩ := hv
              obtain ⟨fs9, hs9⟩ := ch_sh hnn
              refine g_callV hC (c_X0_rankAt l D ads I (up2 A_62 (44 + a1.toNatClampNeg) x9_62.toNatClampNeg ((A_62 (44 + a1.toNatClampNeg) x9_62.toNatClampNeg) + (A (44 + (a1 + 1).toNatClampNeg) a2.toNatClampNeg))) nn ((up2 A_62 (44 + a1.toNatClampNeg) x9_62.toNatClampNeg ((A_62 (44 + a1.toNatClampNeg) x9_62.toNatClampNeg) + (A (44 + (a1 + 1).toNatClampNeg) a2.toNatClampNeg))) (56 + a1.toNatClampNeg) x9_62.toNatClampNeg) hnn hp11) dX6_tryNext_168 nm_X0_rankAt hs9 rfl wl_X6_150 wi_X0_rankAt ws_X0_rankAt wn_X0 wc_X0_rankAt ⟨by decide, by decide⟩ (as := [.inl ((up2 A_62 (44 + a1.toNatClampNeg) x9_62.toNatClampNeg ((A_62 (44 + a1.toNatClampNeg) x9_62.toNatClampNeg) + (A (44 + (a1 + 1).toNatClampNeg) a2.toNatClampNeg))) (56 + a1.toNatClampNeg) x9_62.toNatClampNeg)]) (rest := [.inl ((up2 A_62 (44 + a1.toNatClampNeg) x9_62.toNatClampNeg ((A_62 (44 + a1.toNatClampNeg) x9_62.toNatClampNeg) + (A (44 + (a1 + 1).toNatClampNeg) a2.toNatClampNeg))) (74 + 4 * nn) a2.toNatClampNeg)]) rfl (Nat.le_of_ble_eq_true rfl) ⟨Nat.le_refl _, Nat.le_refl _⟩ (k_qI ?_)
              obtain ⟨hv1, hv2⟩ := hv
              refine g_cge hC dX6_tryNext_171 (tgt := 184) (by decide) (fun hc => ?_) (fun hc => ?_)
              · have hv := hv1 hc
                clear hv1 hv2 hc
                refine g_blk hC _ bX6_tryNext_184_187 (pc' := 187) (ls' := [some (.inr (some 29)), some (.inl a1), some (.inl a2), some (.inr (some (71 + 4 * nn))), some (.inr (some (73 + 4 * ((mnI (A 25 a1.toNatClampNeg) 5).toNatClampNeg)))), some (.inr (some 70)), some (.inr (some (32 + a1.toNatClampNeg))), some (.inl (A (44 + (a1 + 1).toNatClampNeg) a2.toNatClampNeg)), some (.inl x8_62), some (.inl (x9_62 + 1))]) (st' := []) (I' := I) rfl rfl ?_
                refine g_goto hC dX6_tryNext_187 (tgt := 62) (by decide) ?_
                exact g_weak (ls1 := [some (.inr (some 29)), some (.inl a1), some (.inl a2), some (.inr (some (71 + 4 * nn))), some (.inr (some (73 + 4 * ((mnI (A 25 a1.toNatClampNeg) 5).toNatClampNeg)))), some (.inr (some 70)), some (.inr (some (32 + a1.toNatClampNeg))), some (.inl (A (44 + (a1 + 1).toNatClampNeg) a2.toNatClampNeg)), some (.inl x8_62), some (.inl (x9_62 + 1))]) rfl (And.intro rfl (And.intro rfl (And.intro rfl (And.intro rfl (And.intro rfl (And.intro rfl (And.intro rfl (And.intro rfl (And.intro rfl (And.intro rfl trivial)))))))))) (ih62 x8_62 (x9_62 + 1) (up2 A_62 (44 + a1.toNatClampNeg) x9_62.toNatClampNeg ((A_62 (44 + a1.toNatClampNeg) x9_62.toNatClampNeg) + (A (44 + (a1 + 1).toNatClampNeg) a2.toNatClampNeg))) hv.1 (Nat.lt_of_lt_of_le hv.2 (Nat.le_of_lt_succ hn62)))
              · have hv := hv2 hc
                clear hv1 hv2 hc
                refine g_blk hC _ bX6_tryNext_174_179 (pc' := 179) (ls' := [some (.inr (some 29)), some (.inl a1), some (.inl a2), some (.inr (some (71 + 4 * nn))), some (.inr (some (73 + 4 * ((mnI (A 25 a1.toNatClampNeg) 5).toNatClampNeg)))), some (.inr (some 70)), some (.inr (some (32 + a1.toNatClampNeg))), some (.inl (A (44 + (a1 + 1).toNatClampNeg) a2.toNatClampNeg)), some (.inl x8_62), some (.inl x9_62)]) (st' := [.inl a1, .inr (some 55)]) (I' := I) rfl rfl ?_
                obtain ⟨hr12, hv⟩ := hv
                refine g_aald hC dX6_tryNext_179 (f := _) rfl hr12 (ra_55 (vin_lt hr12)) ?_
                refine g_blk hC _ bX6_tryNext_180_183 (pc' := 183) (ls' := [some (.inr (some 29)), some (.inl a1), some (.inl a2), some (.inr (some (71 + 4 * nn))), some (.inr (some (73 + 4 * ((mnI (A 25 a1.toNatClampNeg) 5).toNatClampNeg)))), some (.inr (some 70)), some (.inr (some (32 + a1.toNatClampNeg))), some (.inl (A (44 + (a1 + 1).toNatClampNeg) a2.toNatClampNeg)), some (.inl x8_62), some (.inl x9_62)]) (st' := [.inl a2, .inl x9_62, .inr (some (56 + a1.toNatClampNeg))]) (I' := I) rfl rfl ?_
                obtain ⟨hi, hv⟩ := hv
                refine g_iast hC dX6_tryNext_183 (rw_55 (vin_lt hr12)) hi ?_
                clear hi
                refine g_blk hC _ bX6_tryNext_184_187 (pc' := 187) (ls' := [some (.inr (some 29)), some (.inl a1), some (.inl a2), some (.inr (some (71 + 4 * nn))), some (.inr (some (73 + 4 * ((mnI (A 25 a1.toNatClampNeg) 5).toNatClampNeg)))), some (.inr (some 70)), some (.inr (some (32 + a1.toNatClampNeg))), some (.inl (A (44 + (a1 + 1).toNatClampNeg) a2.toNatClampNeg)), some (.inl x8_62), some (.inl (x9_62 + 1))]) (st' := []) (I' := I) rfl rfl ?_
                refine g_goto hC dX6_tryNext_187 (tgt := 62) (by decide) ?_
                exact g_weak (ls1 := [some (.inr (some 29)), some (.inl a1), some (.inl a2), some (.inr (some (71 + 4 * nn))), some (.inr (some (73 + 4 * ((mnI (A 25 a1.toNatClampNeg) 5).toNatClampNeg)))), some (.inr (some 70)), some (.inr (some (32 + a1.toNatClampNeg))), some (.inl (A (44 + (a1 + 1).toNatClampNeg) a2.toNatClampNeg)), some (.inl x8_62), some (.inl (x9_62 + 1))]) rfl (And.intro rfl (And.intro rfl (And.intro rfl (And.intro rfl (And.intro rfl (And.intro rfl (And.intro rfl (And.intro rfl (And.intro rfl (And.intro rfl trivial)))))))))) (ih62 x8_62 (x9_62 + 1) (up2 (up2 A_62 (44 + a1.toNatClampNeg) x9_62.toNatClampNeg ((A_62 (44 + a1.toNatClampNeg) x9_62.toNatClampNeg) + (A (44 + (a1 + 1).toNatClampNeg) a2.toNatClampNeg))) (56 + a1.toNatClampNeg) x9_62.toNatClampNeg a2) hv.1 (Nat.lt_of_lt_of_le hv.2 (Nat.le_of_lt_succ hn62)))
          · have hv := hv2 hc
            clear hv1 hv2 hc
            refine g_blk hC _ bX6_tryNext_98_104 (pc' := 104) (ls' := [some (.inr (some 29)), some (.inl a1), some (.inl a2), some (.inr (some (71 + 4 * nn))), some (.inr (some (73 + 4 * ((mnI (A 25 a1.toNatClampNeg) 5).toNatClampNeg)))), some (.inr (some 70)), some (.inr (some (32 + a1.toNatClampNeg))), some (.inl (A (44 + (a1 + 1).toNatClampNeg) a2.toNatClampNeg)), some (.inl x8_62), some (.inl x9_62)]) (st' := [.inl x8_62, .inl x9_62, .inr (some (32 + a1.toNatClampNeg))]) (I' := I) rfl rfl ?_
            obtain ⟨hi, hv⟩ := hv
            refine g_iast hC dX6_tryNext_104 (rw_31 (vin_lt hr4)) hi ?_
            clear hi
            refine g_blk hC _ bX6_tryNext_105_110 (pc' := 110) (ls' := [some (.inr (some 29)), some (.inl a1), some (.inl a2), some (.inr (some (71 + 4 * nn))), some (.inr (some (73 + 4 * ((mnI (A 25 a1.toNatClampNeg) 5).toNatClampNeg)))), some (.inr (some 70)), some (.inr (some (32 + a1.toNatClampNeg))), some (.inl (A (44 + (a1 + 1).toNatClampNeg) a2.toNatClampNeg)), some (.inl x8_62), some (.inl x9_62)]) (st' := [.inl a1, .inr (some 43)]) (I' := I) rfl rfl ?_
            obtain ⟨hr13, hv⟩ := hv
            refine g_aald hC dX6_tryNext_110 (f := _) rfl hr13 (ra_43 (vin_lt hr13)) ?_
            refine g_blk hC _ bX6_tryNext_111_115 (pc' := 115) (ls' := [some (.inr (some 29)), some (.inl a1), some (.inl a2), some (.inr (some (71 + 4 * nn))), some (.inr (some (73 + 4 * ((mnI (A 25 a1.toNatClampNeg) 5).toNatClampNeg)))), some (.inr (some 70)), some (.inr (some (32 + a1.toNatClampNeg))), some (.inl (A (44 + (a1 + 1).toNatClampNeg) a2.toNatClampNeg)), some (.inl x8_62), some (.inl x9_62)]) (st' := [.inl (A (44 + (a1 + 1).toNatClampNeg) a2.toNatClampNeg), .inl x9_62, .inr (some (44 + a1.toNatClampNeg))]) (I' := I) rfl rfl ?_
            obtain ⟨hi, hv⟩ := hv
            refine g_iast hC dX6_tryNext_115 (rw_43 (vin_lt hr13)) hi ?_
            clear hi
            refine g_blk hC _ bX6_tryNext_116_121 (pc' := 121) (ls' := [some (.inr (some 29)), some (.inl a1), some (.inl a2), some (.inr (some (71 + 4 * nn))), some (.inr (some (73 + 4 * ((mnI (A 25 a1.toNatClampNeg) 5).toNatClampNeg)))), some (.inr (some 70)), some (.inr (some (32 + a1.toNatClampNeg))), some (.inl (A (44 + (a1 + 1).toNatClampNeg) a2.toNatClampNeg)), some (.inl x8_62), some (.inl x9_62)]) (st' := [.inl a1, .inr (some 55)]) (I' := I) rfl rfl ?_
            obtain ⟨hr14, hv⟩ := hv
            refine g_aald hC dX6_tryNext_121 (f := _) rfl hr14 (ra_55 (vin_lt hr14)) ?_
            refine g_blk hC _ bX6_tryNext_122_125 (pc' := 125) (ls' := [some (.inr (some 29)), some (.inl a1), some (.inl a2), some (.inr (some (71 + 4 * nn))), some (.inr (some (73 + 4 * ((mnI (A 25 a1.toNatClampNeg) 5).toNatClampNeg)))), some (.inr (some 70)), some (.inr (some (32 + a1.toNatClampNeg))), some (.inl (A (44 + (a1 + 1).toNatClampNeg) a2.toNatClampNeg)), some (.inl x8_62), some (.inl x9_62)]) (st' := [.inl a2, .inl x9_62, .inr (some (56 + a1.toNatClampNeg))]) (I' := I) rfl rfl ?_
            obtain ⟨hi, hv⟩ := hv
            refine g_iast hC dX6_tryNext_125 (rw_55 (vin_lt hr14)) hi ?_
            clear hi
            refine g_goto hC dX6_tryNext_126 (tgt := 184) (by decide) ?_
            refine g_blk hC _ bX6_tryNext_184_187 (pc' := 187) (ls' := [some (.inr (some 29)), some (.inl a1), some (.inl a2), some (.inr (some (71 + 4 * nn))), some (.inr (some (73 + 4 * ((mnI (A 25 a1.toNatClampNeg) 5).toNatClampNeg)))), some (.inr (some 70)), some (.inr (some (32 + a1.toNatClampNeg))), some (.inl (A (44 + (a1 + 1).toNatClampNeg) a2.toNatClampNeg)), some (.inl x8_62), some (.inl (x9_62 + 1))]) (st' := []) (I' := I) rfl rfl ?_
            refine g_goto hC dX6_tryNext_187 (tgt := 62) (by decide) ?_
            exact g_weak (ls1 := [some (.inr (some 29)), some (.inl a1), some (.inl a2), some (.inr (some (71 + 4 * nn))), some (.inr (some (73 + 4 * ((mnI (A 25 a1.toNatClampNeg) 5).toNatClampNeg)))), some (.inr (some 70)), some (.inr (some (32 + a1.toNatClampNeg))), some (.inl (A (44 + (a1 + 1).toNatClampNeg) a2.toNatClampNeg)), some (.inl x8_62), some (.inl (x9_62 + 1))]) rfl (And.intro rfl (And.intro rfl (And.intro rfl (And.intro rfl (And.intro rfl (And.intro rfl (And.intro rfl (And.intro rfl (And.intro rfl (And.intro rfl trivial)))))))))) (ih62 x8_62 (x9_62 + 1) (up2 (up2 (up2 A_62 (32 + a1.toNatClampNeg) x9_62.toNatClampNeg x8_62) (44 + a1.toNatClampNeg) x9_62.toNatClampNeg (A (44 + (a1 + 1).toNatClampNeg) a2.toNatClampNeg)) (56 + a1.toNatClampNeg) x9_62.toNatClampNeg a2) hv.1 (Nat.lt_of_lt_of_le hv.2 (Nat.le_of_lt_succ hn62)))
        · have hv := hv2 hc
          clear hv1 hv2 hc
          refine g_blk hC _ bX6_tryNext_75_83 (pc' := 83) (ls' := [some (.inr (some 29)), some (.inl a1), some (.inl a2), some (.inr (some (71 + 4 * nn))), some (.inr (some (73 + 4 * ((mnI (A 25 a1.toNatClampNeg) 5).toNatClampNeg)))), some (.inr (some 70)), some (.inr (some (32 + a1.toNatClampNeg))), some (.inl (A (44 + (a1 + 1).toNatClampNeg) a2.toNatClampNeg)), some (.inl x8_62), some (.inl x9_62)]) (st' := [.inl x9_62, .inr (some (73 + 4 * ((mnI (A 25 a1.toNatClampNeg) 5).toNatClampNeg))), .inr (some 70), .inl x8_62]) (I' := I) rfl rfl ?_
          obtain ⟨hi, hv⟩ := hv
          refine g_iald hC dX6_tryNext_83 (ex_sh ((chO_lt hp1.2))) hi ?_
          clear hi
          obtain ⟨hi, hv⟩ := hv
          refine g_iald hC dX6_tryNext_84 (rfl) hi ?_
          clear hi
          refine g_blk hC _ bX6_tryNext_85_94 (pc' := 94) (ls' := [some (.inr (some 29)), some (.inl a1), some (.inl a2), some (.inr (some (71 + 4 * nn))), some (.inr (some (73 + 4 * ((mnI (A 25 a1.toNatClampNeg) 5).toNatClampNeg)))), some (.inr (some 70)), some (.inr (some (32 + a1.toNatClampNeg))), some (.inl (A (44 + (a1 + 1).toNatClampNeg) a2.toNatClampNeg)), some (.inl (x8_62 + (A_62 70 (A_62 (73 + 4 * ((mnI (A 25 a1.toNatClampNeg) 5).toNatClampNeg)) x9_62.toNatClampNeg).toNatClampNeg))), some (.inl x9_62)]) (st' := [.inl x9_62, .inr (some (32 + a1.toNatClampNeg)), .inl (x8_62 + (A_62 70 (A_62 (73 + 4 * ((mnI (A 25 a1.toNatClampNeg) 5).toNatClampNeg)) x9_62.toNatClampNeg).toNatClampNeg))]) (I' := I) rfl rfl ?_
          obtain ⟨hi, hv⟩ := hv
          refine g_iald hC dX6_tryNext_94 (rw_31 (vin_lt hr4)) hi ?_
          clear hi
          obtain ⟨hv1, hv2⟩ := hv
          refine g_cge hC dX6_tryNext_95 (tgt := 129) (by decide) (fun hc => ?_) (fun hc => ?_)
          · have hv := hv1 hc
            clear hv1 hv2 hc
            refine g_blk hC _ bX6_tryNext_129_135 (pc' := 135) (ls' := [some (.inr (some 29)), some (.inl a1), some (.inl a2), some (.inr (some (71 + 4 * nn))), some (.inr (some (73 + 4 * ((mnI (A 25 a1.toNatClampNeg) 5).toNatClampNeg)))), some (.inr (some 70)), some (.inr (some (32 + a1.toNatClampNeg))), some (.inl (A (44 + (a1 + 1).toNatClampNeg) a2.toNatClampNeg)), some (.inl (x8_62 + (A_62 70 (A_62 (73 + 4 * ((mnI (A 25 a1.toNatClampNeg) 5).toNatClampNeg)) x9_62.toNatClampNeg).toNatClampNeg))), some (.inl x9_62)]) (st' := [.inl x9_62, .inr (some (32 + a1.toNatClampNeg)), .inl (x8_62 + (A_62 70 (A_62 (73 + 4 * ((mnI (A 25 a1.toNatClampNeg) 5).toNatClampNeg)) x9_62.toNatClampNeg).toNatClampNeg))]) (I' := I) rfl rfl ?_
            obtain ⟨hi, hv⟩ := hv
            refine g_iald hC dX6_tryNext_135 (rw_31 (vin_lt hr4)) hi ?_
            clear hi
            obtain ⟨hv1, hv2⟩ := hv
            refine g_cne hC dX6_tryNext_136 (tgt := 184) (by decide) (fun hc => ?_) (fun hc => ?_)
            · have hv := hv1 hc
              clear hv1 hv2 hc
              refine g_blk hC _ bX6_tryNext_184_187 (pc' := 187) (ls' := [some (.inr (some 29)), some (.inl a1), some (.inl a2), some (.inr (some (71 + 4 * nn))), some (.inr (some (73 + 4 * ((mnI (A 25 a1.toNatClampNeg) 5).toNatClampNeg)))), some (.inr (some 70)), some (.inr (some (32 + a1.toNatClampNeg))), some (.inl (A (44 + (a1 + 1).toNatClampNeg) a2.toNatClampNeg)), some (.inl (x8_62 + (A_62 70 (A_62 (73 + 4 * ((mnI (A 25 a1.toNatClampNeg) 5).toNatClampNeg)) x9_62.toNatClampNeg).toNatClampNeg))), some (.inl (x9_62 + 1))]) (st' := []) (I' := I) rfl rfl ?_
              refine g_goto hC dX6_tryNext_187 (tgt := 62) (by decide) ?_
              exact g_weak (ls1 := [some (.inr (some 29)), some (.inl a1), some (.inl a2), some (.inr (some (71 + 4 * nn))), some (.inr (some (73 + 4 * ((mnI (A 25 a1.toNatClampNeg) 5).toNatClampNeg)))), some (.inr (some 70)), some (.inr (some (32 + a1.toNatClampNeg))), some (.inl (A (44 + (a1 + 1).toNatClampNeg) a2.toNatClampNeg)), some (.inl (x8_62 + (A_62 70 (A_62 (73 + 4 * ((mnI (A 25 a1.toNatClampNeg) 5).toNatClampNeg)) x9_62.toNatClampNeg).toNatClampNeg))), some (.inl (x9_62 + 1))]) rfl (And.intro rfl (And.intro rfl (And.intro rfl (And.intro rfl (And.intro rfl (And.intro rfl (And.intro rfl (And.intro rfl (And.intro rfl (And.intro rfl trivial)))))))))) (ih62 (x8_62 + (A_62 70 (A_62 (73 + 4 * ((mnI (A 25 a1.toNatClampNeg) 5).toNatClampNeg)) x9_62.toNatClampNeg).toNatClampNeg)) (x9_62 + 1) A_62 hv.1 (Nat.lt_of_lt_of_le hv.2 (Nat.le_of_lt_succ hn62)))
            · have hv := hv2 hc
              clear hv1 hv2 hc
              refine g_blk hC _ bX6_tryNext_139_144 (pc' := 144) (ls' := [some (.inr (some 29)), some (.inl a1), some (.inl a2), some (.inr (some (71 + 4 * nn))), some (.inr (some (73 + 4 * ((mnI (A 25 a1.toNatClampNeg) 5).toNatClampNeg)))), some (.inr (some 70)), some (.inr (some (32 + a1.toNatClampNeg))), some (.inl (A (44 + (a1 + 1).toNatClampNeg) a2.toNatClampNeg)), some (.inl (x8_62 + (A_62 70 (A_62 (73 + 4 * ((mnI (A 25 a1.toNatClampNeg) 5).toNatClampNeg)) x9_62.toNatClampNeg).toNatClampNeg))), some (.inl x9_62)]) (st' := [.inl a1, .inr (some 43)]) (I' := I) rfl rfl ?_
              obtain ⟨hr15, hv⟩ := hv
              refine g_aald hC dX6_tryNext_144 (f := _) rfl hr15 (ra_43 (vin_lt hr15)) ?_
              refine g_blk hC _ bX6_tryNext_145_148 (pc' := 148) (ls' := [some (.inr (some 29)), some (.inl a1), some (.inl a2), some (.inr (some (71 + 4 * nn))), some (.inr (some (73 + 4 * ((mnI (A 25 a1.toNatClampNeg) 5).toNatClampNeg)))), some (.inr (some 70)), some (.inr (some (32 + a1.toNatClampNeg))), some (.inl (A (44 + (a1 + 1).toNatClampNeg) a2.toNatClampNeg)), some (.inl (x8_62 + (A_62 70 (A_62 (73 + 4 * ((mnI (A 25 a1.toNatClampNeg) 5).toNatClampNeg)) x9_62.toNatClampNeg).toNatClampNeg))), some (.inl x9_62)]) (st' := [.inl x9_62, .inr (some (44 + a1.toNatClampNeg)), .inl x9_62, .inr (some (44 + a1.toNatClampNeg))]) (I' := I) rfl rfl ?_
              obtain ⟨hi, hv⟩ := hv
              refine g_iald hC dX6_tryNext_148 (rw_43 (vin_lt hr15)) hi ?_
              clear hi
              refine g_blk hC _ bX6_tryNext_149_152 (pc' := 152) (ls' := [some (.inr (some 29)), some (.inl a1), some (.inl a2), some (.inr (some (71 + 4 * nn))), some (.inr (some (73 + 4 * ((mnI (A 25 a1.toNatClampNeg) 5).toNatClampNeg)))), some (.inr (some 70)), some (.inr (some (32 + a1.toNatClampNeg))), some (.inl (A (44 + (a1 + 1).toNatClampNeg) a2.toNatClampNeg)), some (.inl (x8_62 + (A_62 70 (A_62 (73 + 4 * ((mnI (A 25 a1.toNatClampNeg) 5).toNatClampNeg)) x9_62.toNatClampNeg).toNatClampNeg))), some (.inl x9_62)]) (st' := [.inl ((A_62 (44 + a1.toNatClampNeg) x9_62.toNatClampNeg) + (A (44 + (a1 + 1).toNatClampNeg) a2.toNatClampNeg)), .inl x9_62, .inr (some (44 + a1.toNatClampNeg))]) (I' := I) rfl rfl ?_
              obtain ⟨hi, hv⟩ := hv
              refine g_iast hC dX6_tryNext_152 (rw_43 (vin_lt hr15)) hi ?_
              clear hi
              refine g_blk hC _ bX6_tryNext_153_155 (pc' := 155) (ls' := [some (.inr (some 29)), some (.inl a1), some (.inl a2), some (.inr (some (71 + 4 * nn))), some (.inr (some (73 + 4 * ((mnI (A 25 a1.toNatClampNeg) 5).toNatClampNeg)))), some (.inr (some 70)), some (.inr (some (32 + a1.toNatClampNeg))), some (.inl (A (44 + (a1 + 1).toNatClampNeg) a2.toNatClampNeg)), some (.inl (x8_62 + (A_62 70 (A_62 (73 + 4 * ((mnI (A 25 a1.toNatClampNeg) 5).toNatClampNeg)) x9_62.toNatClampNeg).toNatClampNeg))), some (.inl x9_62)]) (st' := [.inl a2, .inr (some (71 + 4 * nn))]) (I' := I) rfl rfl ?_
              obtain ⟨hp16, hv⟩ := hv
              obtain ⟨fs9, hs9⟩ := ch_sh hnn
              refine g_callV hC (c_X0_rankAt l D ads I (up2 A_62 (44 + a1.toNatClampNeg) x9_62.toNatClampNeg ((A_62 (44 + a1.toNatClampNeg) x9_62.toNatClampNeg) + (A (44 + (a1 + 1).toNatClampNeg) a2.toNatClampNeg))) nn a2 hnn hp16) dX6_tryNext_155 nm_X0_rankAt hs9 rfl wl_X6_150 wi_X0_rankAt ws_X0_rankAt wn_X0 wc_X0_rankAt ⟨by decide, by decide⟩ (as := [.inl a2]) (rest := []) rfl (Nat.le_of_ble_eq_true rfl) ⟨Nat.le_refl _, Nat.le_refl _⟩ (k_qI ?_)
              refine g_blk hC _ bX6_tryNext_158_164 (pc' := 164) (ls' := [some (.inr (some 29)), some (.inl a1), some (.inl a2), some (.inr (some (71 + 4 * nn))), some (.inr (some (73 + 4 * ((mnI (A 25 a1.toNatClampNeg) 5).toNatClampNeg)))), some (.inr (some 70)), some (.inr (some (32 + a1.toNatClampNeg))), some (.inl (A (44 + (a1 + 1).toNatClampNeg) a2.toNatClampNeg)), some (.inl (x8_62 + (A_62 70 (A_62 (73 + 4 * ((mnI (A 25 a1.toNatClampNeg) 5).toNatClampNeg)) x9_62.toNatClampNeg).toNatClampNeg))), some (.inl x9_62)]) (st' := [.inl a1, .inr (some 55), .inr (some (71 + 4 * nn)), .inl ((up2 A_62 (44 + a1.toNatClampNeg) x9_62.toNatClampNeg ((A_62 (44 + a1.toNatClampNeg) x9_62.toNatClampNeg) + (A (44 + (a1 + 1).toNatClampNeg) a2.toNatClampNeg))) (74 + 4 * nn) a2.toNatClampNeg)]) (I' := I) rfl rfl ?_
              obtain ⟨hr17, hv⟩ := hv
              refine g_aald hC dX6_tryNext_164 (f := _) rfl hr17 (ra_55 (vin_lt hr17)) ?_
              refine g_blk hC _ bX6_tryNext_165_167 (pc' := 167) (ls' := [some (.inr (some 29)), some (.inl a1), some (.inl a2), some (.inr (some (71 + 4 * nn))), some (.inr (some (73 + 4 * ((mnI (A 25 a1.toNatClampNeg) 5).toNatClampNeg)))), some (.inr (some 70)), some (.inr (some (32 + a1.toNatClampNeg))), some (.inl (A (44 + (a1 + 1).toNatClampNeg) a2.toNatClampNeg)), some (.inl (x8_62 + (A_62 70 (A_62 (73 + 4 * ((mnI (A 25 a1.toNatClampNeg) 5).toNatClampNeg)) x9_62.toNatClampNeg).toNatClampNeg))), some (.inl x9_62)]) (st' := [.inl x9_62, .inr (some (56 + a1.toNatClampNeg)), .inr (some (71 + 4 * nn)), .inl ((up2 A_62 (44 + a1.toNatClampNeg) x9_62.toNatClampNeg ((A_62 (44 + a1.toNatClampNeg) x9_62.toNatClampNeg) + (A (44 + (a1 + 1).toNatClampNeg) a2.toNatClampNeg))) (74 + 4 * nn) a2.toNatClampNeg)]) (I' := I) rfl rfl ?_
              obtain ⟨hi, hv⟩ := hv
              refine g_iald hC dX6_tryNext_167 (rw_55 (vin_lt hr17)) hi ?_
              clear hi
              obtain ⟨hp18, hv⟩ := hv
              obtain ⟨fs9, hs9⟩ := ch_sh hnn
              refine g_callV hC (c_X0_rankAt l D ads I (up2 A_62 (44 + a1.toNatClampNeg) x9_62.toNatClampNeg ((A_62 (44 + a1.toNatClampNeg) x9_62.toNatClampNeg) + (A (44 + (a1 + 1).toNatClampNeg) a2.toNatClampNeg))) nn ((up2 A_62 (44 + a1.toNatClampNeg) x9_62.toNatClampNeg ((A_62 (44 + a1.toNatClampNeg) x9_62.toNatClampNeg) + (A (44 + (a1 + 1).toNatClampNeg) a2.toNatClampNeg))) (56 + a1.toNatClampNeg) x9_62.toNatClampNeg) hnn hp18) dX6_tryNext_168 nm_X0_rankAt hs9 rfl wl_X6_150 wi_X0_rankAt ws_X0_rankAt wn_X0 wc_X0_rankAt ⟨by decide, by decide⟩ (as := [.inl ((up2 A_62 (44 + a1.toNatClampNeg) x9_62.toNatClampNeg ((A_62 (44 + a1.toNatClampNeg) x9_62.toNatClampNeg) + (A (44 + (a1 + 1).toNatClampNeg) a2.toNatClampNeg))) (56 + a1.toNatClampNeg) x9_62.toNatClampNeg)]) (rest := [.inl ((up2 A_62 (44 + a1.toNatClampNeg) x9_62.toNatClampNeg ((A_62 (44 + a1.toNatClampNeg) x9_62.toNatClampNeg) + (A (44 + (a1 + 1).toNatClampNeg) a2.toNatClampNeg))) (74 + 4 * nn) a2.toNatClampNeg)]) rfl (Nat.le_of_ble_eq_true rfl) ⟨Nat.le_refl _, Nat.le_refl _⟩ (k_qI ?_)
              obtain ⟨hv1, hv2⟩ := hv
              refine g_cge hC dX6_tryNext_171 (tgt := 184) (by decide) (fun hc => ?_) (fun hc => ?_)
              · have hv := hv1 hc
                clear hv1 hv2 hc
                refine g_blk hC _ bX6_tryNext_184_187 (pc' := 187) (ls' := [some (.inr (some 29)), some (.inl a1), some (.inl a2), some (.inr (some (71 + 4 * nn))), some (.inr (some (73 + 4 * ((mnI (A 25 a1.toNatClampNeg) 5).toNatClampNeg)))), some (.inr (some 70)), some (.inr (some (32 + a1.toNatClampNeg))), some (.inl (A (44 + (a1 + 1).toNatClampNeg) a2.toNatClampNeg)), some (.inl (x8_62 + (A_62 70 (A_62 (73 + 4 * ((mnI (A 25 a1.toNatClampNeg) 5).toNatClampNeg)) x9_62.toNatClampNeg).toNatClampNeg))), some (.inl (x9_62 + 1))]) (st' := []) (I' := I) rfl rfl ?_
                refine g_goto hC dX6_tryNext_187 (tgt := 62) (by decide) ?_
                exact g_weak (ls1 := [some (.inr (some 29)), some (.inl a1), some (.inl a2), some (.inr (some (71 + 4 * nn))), some (.inr (some (73 + 4 * ((mnI (A 25 a1.toNatClampNeg) 5).toNatClampNeg)))), some (.inr (some 70)), some (.inr (some (32 + a1.toNatClampNeg))), some (.inl (A (44 + (a1 + 1).toNatClampNeg) a2.toNatClampNeg)), some (.inl (x8_62 + (A_62 70 (A_62 (73 + 4 * ((mnI (A 25 a1.toNatClampNeg) 5).toNatClampNeg)) x9_62.toNatClampNeg).toNatClampNeg))), some (.inl (x9_62 + 1))]) rfl (And.intro rfl (And.intro rfl (And.intro rfl (And.intro rfl (And.intro rfl (And.intro rfl (And.intro rfl (And.intro rfl (And.intro rfl (And.intro rfl trivial)))))))))) (ih62 (x8_62 + (A_62 70 (A_62 (73 + 4 * ((mnI (A 25 a1.toNatClampNeg) 5).toNatClampNeg)) x9_62.toNatClampNeg).toNatClampNeg)) (x9_62 + 1) (up2 A_62 (44 + a1.toNatClampNeg) x9_62.toNatClampNeg ((A_62 (44 + a1.toNatClampNeg) x9_62.toNatClampNeg) + (A (44 + (a1 + 1).toNatClampNeg) a2.toNatClampNeg))) hv.1 (Nat.lt_of_lt_of_le hv.2 (Nat.le_of_lt_succ hn62)))
              · have hv := hv2 hc
                clear hv1 hv2 hc
                refine g_blk hC _ bX6_tryNext_174_179 (pc' := 179) (ls' := [some (.inr (some 29)), some (.inl a1), some (.inl a2), some (.inr (some (71 + 4 * nn))), some (.inr (some (73 + 4 * ((mnI (A 25 a1.toNatClampNeg) 5).toNatClampNeg)))), some (.inr (some 70)), some (.inr (some (32 + a1.toNatClampNeg))), some (.inl (A (44 + (a1 + 1).toNatClampNeg) a2.toNatClampNeg)), some (.inl (x8_62 + (A_62 70 (A_62 (73 + 4 * ((mnI (A 25 a1.toNatClampNeg) 5).toNatClampNeg)) x9_62.toNatClampNeg).toNatClampNeg))), some (.inl x9_62)]) (st' := [.inl a1, .inr (some 55)]) (I' := I) rfl rfl ?_
                obtain ⟨hr19, hv⟩ := hv
                refine g_aald hC dX6_tryNext_179 (f := _) rfl hr19 (ra_55 (vin_lt hr19)) ?_
                refine g_blk hC _ bX6_tryNext_180_183 (pc' := 183) (ls' := [some (.inr (some 29)), some (.inl a1), some (.inl a2), some (.inr (some (71 + 4 * nn))), some (.inr (some (73 + 4 * ((mnI (A 25 a1.toNatClampNeg) 5).toNatClampNeg)))), some (.inr (some 70)), some (.inr (some (32 + a1.toNatClampNeg))), some (.inl (A (44 + (a1 + 1).toNatClampNeg) a2.toNatClampNeg)), some (.inl (x8_62 + (A_62 70 (A_62 (73 + 4 * ((mnI (A 25 a1.toNatClampNeg) 5).toNatClampNeg)) x9_62.toNatClampNeg).toNatClampNeg))), some (.inl x9_62)]) (st' := [.inl a2, .inl x9_62, .inr (some (56 + a1.toNatClampNeg))]) (I' := I) rfl rfl ?_
                obtain ⟨hi, hv⟩ := hv
                refine g_iast hC dX6_tryNext_183 (rw_55 (vin_lt hr19)) hi ?_
                clear hi
                refine g_blk hC _ bX6_tryNext_184_187 (pc' := 187) (ls' := [some (.inr (some 29)), some (.inl a1), some (.inl a2), some (.inr (some (71 + 4 * nn))), some (.inr (some (73 + 4 * ((mnI (A 25 a1.toNatClampNeg) 5).toNatClampNeg)))), some (.inr (some 70)), some (.inr (some (32 + a1.toNatClampNeg))), some (.inl (A (44 + (a1 + 1).toNatClampNeg) a2.toNatClampNeg)), some (.inl (x8_62 + (A_62 70 (A_62 (73 + 4 * ((mnI (A 25 a1.toNatClampNeg) 5).toNatClampNeg)) x9_62.toNatClampNeg).toNatClampNeg))), some (.inl (x9_62 + 1))]) (st' := []) (I' := I) rfl rfl ?_
                refine g_goto hC dX6_tryNext_187 (tgt := 62) (by decide) ?_
                exact g_weak (ls1 := [some (.inr (some 29)), some (.inl a1), some (.inl a2), some (.inr (some (71 + 4 * nn))), some (.inr (some (73 + 4 * ((mnI (A 25 a1.toNatClampNeg) 5).toNatClampNeg)))), some (.inr (some 70)), some (.inr (some (32 + a1.toNatClampNeg))), some (.inl (A (44 + (a1 + 1).toNatClampNeg) a2.toNatClampNeg)), some (.inl (x8_62 + (A_62 70 (A_62 (73 + 4 * ((mnI (A 25 a1.toNatClampNeg) 5).toNatClampNeg)) x9_62.toNatClampNeg).toNatClampNeg))), some (.inl (x9_62 + 1))]) rfl (And.intro rfl (And.intro rfl (And.intro rfl (And.intro rfl (And.intro rfl (And.intro rfl (And.intro rfl (And.intro rfl (And.intro rfl (And.intro rfl trivial)))))))))) (ih62 (x8_62 + (A_62 70 (A_62 (73 + 4 * ((mnI (A 25 a1.toNatClampNeg) 5).toNatClampNeg)) x9_62.toNatClampNeg).toNatClampNeg)) (x9_62 + 1) (up2 (up2 A_62 (44 + a1.toNatClampNeg) x9_62.toNatClampNeg ((A_62 (44 + a1.toNatClampNeg) x9_62.toNatClampNeg) + (A (44 + (a1 + 1).toNatClampNeg) a2.toNatClampNeg))) (56 + a1.toNatClampNeg) x9_62.toNatClampNeg a2) hv.1 (Nat.lt_of_lt_of_le hv.2 (Nat.le_of_lt_succ hn62)))
          · have hv := hv2 hc
            clear hv1 hv2 hc
            refine g_blk hC _ bX6_tryNext_98_104 (pc' := 104) (ls' := [some (.inr (some 29)), some (.inl a1), some (.inl a2), some (.inr (some (71 + 4 * nn))), some (.inr (some (73 + 4 * ((mnI (A 25 a1.toNatClampNeg) 5).toNatClampNeg)))), some (.inr (some 70)), some (.inr (some (32 + a1.toNatClampNeg))), some (.inl (A (44 + (a1 + 1).toNatClampNeg) a2.toNatClampNeg)), some (.inl (x8_62 + (A_62 70 (A_62 (73 + 4 * ((mnI (A 25 a1.toNatClampNeg) 5).toNatClampNeg)) x9_62.toNatClampNeg).toNatClampNeg))), some (.inl x9_62)]) (st' := [.inl (x8_62 + (A_62 70 (A_62 (73 + 4 * ((mnI (A 25 a1.toNatClampNeg) 5).toNatClampNeg)) x9_62.toNatClampNeg).toNatClampNeg)), .inl x9_62, .inr (some (32 + a1.toNatClampNeg))]) (I' := I) rfl rfl ?_
            obtain ⟨hi, hv⟩ := hv
            refine g_iast hC dX6_tryNext_104 (rw_31 (vin_lt hr4)) hi ?_
            clear hi
            refine g_blk hC _ bX6_tryNext_105_110 (pc' := 110) (ls' := [some (.inr (some 29)), some (.inl a1), some (.inl a2), some (.inr (some (71 + 4 * nn))), some (.inr (some (73 + 4 * ((mnI (A 25 a1.toNatClampNeg) 5).toNatClampNeg)))), some (.inr (some 70)), some (.inr (some (32 + a1.toNatClampNeg))), some (.inl (A (44 + (a1 + 1).toNatClampNeg) a2.toNatClampNeg)), some (.inl (x8_62 + (A_62 70 (A_62 (73 + 4 * ((mnI (A 25 a1.toNatClampNeg) 5).toNatClampNeg)) x9_62.toNatClampNeg).toNatClampNeg))), some (.inl x9_62)]) (st' := [.inl a1, .inr (some 43)]) (I' := I) rfl rfl ?_
            obtain ⟨hr20, hv⟩ := hv
            refine g_aald hC dX6_tryNext_110 (f := _) rfl hr20 (ra_43 (vin_lt hr20)) ?_
            refine g_blk hC _ bX6_tryNext_111_115 (pc' := 115) (ls' := [some (.inr (some 29)), some (.inl a1), some (.inl a2), some (.inr (some (71 + 4 * nn))), some (.inr (some (73 + 4 * ((mnI (A 25 a1.toNatClampNeg) 5).toNatClampNeg)))), some (.inr (some 70)), some (.inr (some (32 + a1.toNatClampNeg))), some (.inl (A (44 + (a1 + 1).toNatClampNeg) a2.toNatClampNeg)), some (.inl (x8_62 + (A_62 70 (A_62 (73 + 4 * ((mnI (A 25 a1.toNatClampNeg) 5).toNatClampNeg)) x9_62.toNatClampNeg).toNatClampNeg))), some (.inl x9_62)]) (st' := [.inl (A (44 + (a1 + 1).toNatClampNeg) a2.toNatClampNeg), .inl x9_62, .inr (some (44 + a1.toNatClampNeg))]) (I' := I) rfl rfl ?_
            obtain ⟨hi, hv⟩ := hv
            refine g_iast hC dX6_tryNext_115 (rw_43 (vin_lt hr20)) hi ?_
            clear hi
            refine g_blk hC _ bX6_tryNext_116_121 (pc' := 121) (ls' := [some (.inr (some 29)), some (.inl a1), some (.inl a2), some (.inr (some (71 + 4 * nn))), some (.inr (some (73 + 4 * ((mnI (A 25 a1.toNatClampNeg) 5).toNatClampNeg)))), some (.inr (some 70)), some (.inr (some (32 + a1.toNatClampNeg))), some (.inl (A (44 + (a1 + 1).toNatClampNeg) a2.toNatClampNeg)), some (.inl (x8_62 + (A_62 70 (A_62 (73 + 4 * ((mnI (A 25 a1.toNatClampNeg) 5).toNatClampNeg)) x9_62.toNatClampNeg).toNatClampNeg))), some (.inl x9_62)]) (st' := [.inl a1, .inr (some 55)]) (I' := I) rfl rfl ?_
            obtain ⟨hr21, hv⟩ := hv
            refine g_aald hC dX6_tryNext_121 (f := _) rfl hr21 (ra_55 (vin_lt hr21)) ?_
            refine g_blk hC _ bX6_tryNext_122_125 (pc' := 125) (ls' := [some (.inr (some 29)), some (.inl a1), some (.inl a2), some (.inr (some (71 + 4 * nn))), some (.inr (some (73 + 4 * ((mnI (A 25 a1.toNatClampNeg) 5).toNatClampNeg)))), some (.inr (some 70)), some (.inr (some (32 + a1.toNatClampNeg))), some (.inl (A (44 + (a1 + 1).toNatClampNeg) a2.toNatClampNeg)), some (.inl (x8_62 + (A_62 70 (A_62 (73 + 4 * ((mnI (A 25 a1.toNatClampNeg) 5).toNatClampNeg)) x9_62.toNatClampNeg).toNatClampNeg))), some (.inl x9_62)]) (st' := [.inl a2, .inl x9_62, .inr (some (56 + a1.toNatClampNeg))]) (I' := I) rfl rfl ?_
            obtain ⟨hi, hv⟩ := hv
            refine g_iast hC dX6_tryNext_125 (rw_55 (vin_lt hr21)) hi ?_
            clear hi
            refine g_goto hC dX6_tryNext_126 (tgt := 184) (by decide) ?_
            refine g_blk hC _ bX6_tryNext_184_187 (pc' := 187) (ls' := [some (.inr (some 29)), some (.inl a1), some (.inl a2), some (.inr (some (71 + 4 * nn))), some (.inr (some (73 + 4 * ((mnI (A 25 a1.toNatClampNeg) 5).toNatClampNeg)))), some (.inr (some 70)), some (.inr (some (32 + a1.toNatClampNeg))), some (.inl (A (44 + (a1 + 1).toNatClampNeg) a2.toNatClampNeg)), some (.inl (x8_62 + (A_62 70 (A_62 (73 + 4 * ((mnI (A 25 a1.toNatClampNeg) 5).toNatClampNeg)) x9_62.toNatClampNeg).toNatClampNeg))), some (.inl (x9_62 + 1))]) (st' := []) (I' := I) rfl rfl ?_
            refine g_goto hC dX6_tryNext_187 (tgt := 62) (by decide) ?_
            exact g_weak (ls1 := [some (.inr (some 29)), some (.inl a1), some (.inl a2), some (.inr (some (71 + 4 * nn))), some (.inr (some (73 + 4 * ((mnI (A 25 a1.toNatClampNeg) 5).toNatClampNeg)))), some (.inr (some 70)), some (.inr (some (32 + a1.toNatClampNeg))), some (.inl (A (44 + (a1 + 1).toNatClampNeg) a2.toNatClampNeg)), some (.inl (x8_62 + (A_62 70 (A_62 (73 + 4 * ((mnI (A 25 a1.toNatClampNeg) 5).toNatClampNeg)) x9_62.toNatClampNeg).toNatClampNeg))), some (.inl (x9_62 + 1))]) rfl (And.intro rfl (And.intro rfl (And.intro rfl (And.intro rfl (And.intro rfl (And.intro rfl (And.intro rfl (And.intro rfl (And.intro rfl (And.intro rfl trivial)))))))))) (ih62 (x8_62 + (A_62 70 (A_62 (73 + 4 * ((mnI (A 25 a1.toNatClampNeg) 5).toNatClampNeg)) x9_62.toNatClampNeg).toNatClampNeg)) (x9_62 + 1) (up2 (up2 (up2 A_62 (32 + a1.toNatClampNeg) x9_62.toNatClampNeg (x8_62 + (A_62 70 (A_62 (73 + 4 * ((mnI (A 25 a1.toNatClampNeg) 5).toNatClampNeg)) x9_62.toNatClampNeg).toNatClampNeg))) (44 + a1.toNatClampNeg) x9_62.toNatClampNeg (A (44 + (a1 + 1).toNatClampNeg) a2.toNatClampNeg)) (56 + a1.toNatClampNeg) x9_62.toNatClampNeg a2) hv.1 (Nat.lt_of_lt_of_le hv.2 (Nat.le_of_lt_succ hn62)))
  exact g_weak (ls1 := [some (.inr (some 29)), some (.inl a1), some (.inl a2), some (.inr (some (71 + 4 * nn))), some (.inr (some (73 + 4 * ((mnI (A 25 a1.toNatClampNeg) 5).toNatClampNeg)))), some (.inr (some 70)), some (.inr (some (32 + a1.toNatClampNeg))), some (.inl (A (44 + (a1 + 1).toNatClampNeg) a2.toNatClampNeg)), some (.inl ((I 68 5) + (A (32 + (a1 + 1).toNatClampNeg) a2.toNatClampNeg))), some (.inl 0)]) rfl (And.intro rfl (And.intro rfl (And.intro rfl (And.intro rfl (And.intro rfl (And.intro rfl (And.intro rfl (And.intro rfl (And.intro rfl (And.intro rfl trivial)))))))))) (L62 _ ((I 68 5) + (A (32 + (a1 + 1).toNatClampNeg) a2.toNatClampNeg)) 0 A hi62 (Nat.lt_succ_self _))
theorem bX6_searchLayer_0_4 : okB cX6_searchLayer RX6 0 [(5, 0, 0, 0, 0), (3, 1, 0, 0, 0), (0, 0, 0, 0, 1), (12, 0, 0, 0, 0)] := And.intro ⟨_, dX6_searchLayer_0, rfl⟩ (And.intro ⟨_, dX6_searchLayer_1, rfl⟩ (And.intro ⟨_, dX6_searchLayer_2, by decide⟩ (And.intro dX6_searchLayer_3 trivial)))
theorem bX6_searchLayer_7_13 : okB cX6_searchLayer RX6 7 [(9, 3, 0, 0, 0), (5, 0, 0, 0, 0), (23, 65, 6, 3, 0), (3, 1, 0, 0, 0)] := And.intro ⟨_, dX6_searchLayer_7, rfl⟩ (And.intro ⟨_, dX6_searchLayer_8, rfl⟩ (And.intro ⟨dX6_searchLayer_9, fl_X6_65⟩ (And.intro ⟨_, dX6_searchLayer_12, rfl⟩ trivial)))
theorem bX6_searchLayer_16_22 : okB cX6_searchLayer RX6 16 [(5, 0, 0, 0, 0), (23, 65, 6, 3, 0), (3, 1, 0, 0, 0), (3, 2, 0, 0, 0)] := And.intro ⟨_, dX6_searchLayer_16, rfl⟩ (And.intro ⟨dX6_searchLayer_17, fl_X6_65⟩ (And.intro ⟨_, dX6_searchLayer_20, rfl⟩ (And.intro ⟨_, dX6_searchLayer_21, rfl⟩ trivial)))
theorem bX6_searchLayer_25_30 : okB cX6_searchLayer RX6 25 [(5, 0, 0, 0, 0), (23, 19, 6, 5, 0), (3, 1, 0, 0, 0)] := And.intro ⟨_, dX6_searchLayer_25, rfl⟩ (And.intro ⟨dX6_searchLayer_26, fl_X6_19⟩ (And.intro ⟨_, dX6_searchLayer_29, rfl⟩ trivial))
theorem bX6_searchLayer_31_33 : okB cX6_searchLayer RX6 31 [(26, 123, 0, 0, 2147483647)] := And.intro ⟨dX6_searchLayer_31, wk_X6_123⟩ trivial
theorem bX6_searchLayer_36_39 : okB cX6_searchLayer RX6 36 [(0, 0, 0, 0, 0), (8, 4, 0, 0, 0)] := And.intro ⟨_, dX6_searchLayer_36, by decide⟩ (And.intro dX6_searchLayer_37 trivial)
theorem bX6_searchLayer_39_42 : okB cX6_searchLayer RX6 39 [(4, 4, 0, 0, 0), (5, 3, 0, 0, 0)] := And.intro dX6_searchLayer_39 (And.intro ⟨_, dX6_searchLayer_41, rfl⟩ trivial)
theorem bX6_searchLayer_48_50 : okB cX6_searchLayer RX6 48 [(4, 4, 0, 0, 0)] := And.intro dX6_searchLayer_48 trivial
theorem bX6_searchLayer_68_73 : okB cX6_searchLayer RX6 68 [(5, 0, 0, 0, 0), (3, 1, 0, 0, 0), (4, 4, 0, 0, 0), (5, 3, 0, 0, 0)] := And.intro ⟨_, dX6_searchLayer_68, rfl⟩ (And.intro ⟨_, dX6_searchLayer_69, rfl⟩ (And.intro dX6_searchLayer_70 (And.intro ⟨_, dX6_searchLayer_72, rfl⟩ trivial)))
theorem bX6_searchLayer_76_79 : okB cX6_searchLayer RX6 76 [(11, 4, 0, 0, 1)] := And.intro ⟨_, dX6_searchLayer_76, by decide⟩ trivial
theorem bX6_searchLayer_53_59 : okB cX6_searchLayer RX6 53 [(5, 0, 0, 0, 0), (23, 65, 6, 3, 0), (3, 1, 0, 0, 0), (5, 3, 0, 0, 0)] := And.intro ⟨_, dX6_searchLayer_53, rfl⟩ (And.intro ⟨dX6_searchLayer_54, fl_X6_65⟩ (And.intro ⟨_, dX6_searchLayer_57, rfl⟩ (And.intro ⟨_, dX6_searchLayer_58, rfl⟩ trivial)))
theorem bX6_searchLayer_62_64 : okB cX6_searchLayer RX6 62 [(4, 4, 0, 0, 0)] := And.intro dX6_searchLayer_62 trivial
set_option maxHeartbeats 4000000 in
set_option maxRecDepth 100000 in
theorem k_X6_searchLayer (l : Launch) (D : va_G) (ads : AD) (I A : HI) (a1 : Int32) (a2 : Int32) (po : Option AV → HI → HI → Prop) {pp_X3_gatherLinks : HI → HI → Int32 → Prop} {qq_X3_gatherLinks : HI → HI → Int32 → HI → HI → Prop} (hh_X3_gatherLinks : ∀ (I A : HI) (a1 : Int32), pp_X3_gatherLinks I A a1 → Ct l yX3_gatherLinks cX3_gatherLinks 6 none 2 44 D ads shp [.inr (some 68), .inl a1] I A (qV (qq_X3_gatherLinks I A a1))) {pp_X3_begin : HI → HI → Int32 → Int32 → Prop} {qq_X3_begin : HI → HI → Int32 → Int32 → HI → HI → Prop} (hh_X3_begin : ∀ (I A : HI) (a1 : Int32) (a2 : Int32), pp_X3_begin I A a1 a2 → Ct l yX3_begin cX3_begin 13 none 2 45 D ads shp [.inr (some 68), .inl a1, .inl a2] I A (qV (qq_X3_begin I A a1 a2))) {pp_X6_tryNext : HI → HI → Int32 → Int32 → Nat → Prop} {qq_X6_tryNext : HI → HI → Int32 → Int32 → Nat → HI → HI → Prop} (hh_X6_tryNext : ∀ (I A : HI) (a1 : Int32) (a2 : Int32) (nn : Nat) (hnn : nn < 6), pp_X6_tryNext I A a1 a2 nn → Ct l yX6_tryNext cX6_tryNext 10 none 2 42 D ads shp [.inr (some 29), .inl a1, .inl a2, .inr (some (71 + 4 * nn))] I A (qV (qq_X6_tryNext I A a1 a2 nn))) {pp_X3_exchangeNext : HI → HI → Int32 → Int32 → Prop} {qq_X3_exchangeNext : HI → HI → Int32 → Int32 → HI → HI → Prop} (hh_X3_exchangeNext : ∀ (I A : HI) (a1 : Int32) (a2 : Int32), pp_X3_exchangeNext I A a1 a2 → Ct l yX3_exchangeNext cX3_exchangeNext 9 none 2 45 D ads shp [.inr (some 68), .inl a1, .inl a2] I A (qV (qq_X3_exchangeNext I A a1 a2))) (Iv39 : HI → HI → HI → HI → Int32 → HI → HI → Prop) (mu39 : HI → HI → HI → HI → Int32 → HI → HI → Nat)
    (hv : ((vp_in (a1 + 1) 11 ∧ 0 ≤ A 25 (a1 + 1).toNatClampNeg) ∧ ((pp_X3_gatherLinks I A a1) ∧ (∀ (I3 A3 : HI), qq_X3_gatherLinks I A a1 I3 A3 → ((pp_X3_begin I3 A3 a1 a2) ∧ (∀ (I5 A5 : HI), qq_X3_begin I3 A3 a1 a2 I5 A5 → (vp_in a1 11 ∧ (Iv39 I3 A3 I5 A5 0 I5 (filA A5 (32 + a1.toNatClampNeg) 120 (2147483647 : Int32)) ∧ ∀ (x4_39 : Int32) (I_39 : HI) (A_39 : HI), Iv39 I3 A3 I5 A5 x4_39 I_39 A_39 → (((I_39 (71 + 4 * ((mnI (A 25 (a1 + 1).toNatClampNeg) 5).toNatClampNeg)) 1) ≤ x4_39 → po none I_39 A_39) ∧ (¬ (I_39 (71 + 4 * ((mnI (A 25 (a1 + 1).toNatClampNeg) 5).toNatClampNeg)) 1) ≤ x4_39 → ((x4_39 ≤ 0 → ((pp_X6_tryNext I_39 A_39 a1 x4_39 ((mnI (A 25 (a1 + 1).toNatClampNeg) 5).toNatClampNeg)) ∧ (∀ (I10 A10 : HI), qq_X6_tryNext I_39 A_39 a1 x4_39 ((mnI (A 25 (a1 + 1).toNatClampNeg) 5).toNatClampNeg) I10 A10 → (Iv39 I3 A3 I5 A5 (x4_39 + 1) I10 A10 ∧ mu39 I3 A3 I5 A5 (x4_39 + 1) I10 A10 < mu39 I3 A3 I5 A5 x4_39 I_39 A_39)))) ∧ (¬ x4_39 ≤ 0 → (vp_in x4_39 (chN (((mnI (A 25 (a1 + 1).toNatClampNeg) 5).toNatClampNeg))) ∧ ((pp_X3_exchangeNext I_39 A_39 a1 (A_39 (73 + 4 * ((mnI (A 25 (a1 + 1).toNatClampNeg) 5).toNatClampNeg)) x4_39.toNatClampNeg)) ∧ (∀ (I13 A13 : HI), qq_X3_exchangeNext I_39 A_39 a1 (A_39 (73 + 4 * ((mnI (A 25 (a1 + 1).toNatClampNeg) 5).toNatClampNeg)) x4_39.toNatClampNeg) I13 A13 → ((pp_X6_tryNext I13 A13 a1 x4_39 ((mnI (A 25 (a1 + 1).toNatClampNeg) 5).toNatClampNeg)) ∧ (∀ (I15 A15 : HI), qq_X6_tryNext I13 A13 a1 x4_39 ((mnI (A 25 (a1 + 1).toNatClampNeg) 5).toNatClampNeg) I15 A15 → (Iv39 I3 A3 I5 A5 (x4_39 + 1) I15 A15 ∧ mu39 I3 A3 I5 A5 (x4_39 + 1) I15 A15 < mu39 I3 A3 I5 A5 x4_39 I_39 A_39)))))))))))))))))) : Ct l yX6_searchLayer cX6_searchLayer 5 none 3 77 D ads shp [.inr (some 29), .inl a1, .inl a2] I A po := by
  refine Ct_of (by decide) (Nat.le_of_ble_eq_true rfl) ?_
  intro p e s m args below meth c hC hr
  replace hC : CX p s m args meth c cX6_searchLayer 5 RX6 (AdS ads s.heap.size) := hC
  show Gm p l e s m args below meth c D ads 3 77 5 po I A 0 [some (.inr (some 29)), some (.inl a1), some (.inl a2), none, none] []
  refine g_blk hC _ bX6_searchLayer_0_4 (pc' := 4) (ls' := [some (.inr (some 29)), some (.inl a1), some (.inl a2), none, none]) (st' := [.inl (a1 + 1), .inr (some 29)]) (I' := I) rfl rfl ?_
  obtain ⟨hp1, hv⟩ := hv
  refine g_callV hC (c_X6_changesOf l D ads I A (a1 + 1) hp1) dX6_searchLayer_4 nm_X6_changesOf rfl rfl wl_X6_96 wi_X6_changesOf ws_X6_changesOf wn_X6 wc_X6_changesOf ⟨by decide, by decide⟩ (as := [.inl (a1 + 1)]) (rest := []) rfl (Nat.le_of_ble_eq_true rfl) ⟨Nat.le_refl _, Nat.le_refl _⟩ (k_qR ?_)
  refine g_blk hC _ bX6_searchLayer_7_13 (pc' := 13) (ls' := [some (.inr (some 29)), some (.inl a1), some (.inl a2), some (.inr (some (71 + 4 * (mnI (A 25 (a1 + 1).toNatClampNeg) 5).toNatClampNeg))), none]) (st' := [.inl a1, .inr (some 68)]) (I' := I) rfl rfl ?_
  obtain ⟨hp2, hv⟩ := hv
  refine g_callV hC (hh_X3_gatherLinks I A a1 hp2) dX6_searchLayer_13 nm_X3_gatherLinks rfl rfl wl_X6_115 wi_X3_gatherLinks ws_X3_gatherLinks wn_X3 wc_X3_gatherLinks ⟨by decide, by decide⟩ (as := [.inl a1]) (rest := []) rfl (Nat.le_of_ble_eq_true rfl) ⟨Nat.le_refl _, Nat.le_refl _⟩ (k_qV ?_)
  intro I3 A3 hq3
  replace hv := hv I3 A3 hq3
  refine g_blk hC _ bX6_searchLayer_16_22 (pc' := 22) (ls' := [some (.inr (some 29)), some (.inl a1), some (.inl a2), some (.inr (some (71 + 4 * (mnI (A 25 (a1 + 1).toNatClampNeg) 5).toNatClampNeg))), none]) (st' := [.inl a2, .inl a1, .inr (some 68)]) (I' := I3) rfl rfl ?_
  obtain ⟨hp4, hv⟩ := hv
  refine g_callV hC (hh_X3_begin I3 A3 a1 a2 hp4) dX6_searchLayer_22 nm_X3_begin rfl rfl wl_X6_118 wi_X3_begin ws_X3_begin wn_X3 wc_X3_begin ⟨by decide, by decide⟩ (as := [.inl a1, .inl a2]) (rest := []) rfl (Nat.le_of_ble_eq_true rfl) ⟨Nat.le_refl _, Nat.le_refl _⟩ (k_qV ?_)
  intro I5 A5 hq5
  replace hv := hv I5 A5 hq5
  refine g_blk hC _ bX6_searchLayer_25_30 (pc' := 30) (ls' := [some (.inr (some 29)), some (.inl a1), some (.inl a2), some (.inr (some (71 + 4 * (mnI (A 25 (a1 + 1).toNatClampNeg) 5).toNatClampNeg))), none]) (st' := [.inl a1, .inr (some 31)]) (I' := I5) rfl rfl ?_
  obtain ⟨hr6, hv⟩ := hv
  refine g_aald hC dX6_searchLayer_30 (f := _) rfl hr6 (ra_31 (vin_lt hr6)) ?_
  refine g_blk hC _ bX6_searchLayer_31_33 (pc' := 33) (ls' := [some (.inr (some 29)), some (.inl a1), some (.inl a2), some (.inr (some (71 + 4 * (mnI (A 25 (a1 + 1).toNatClampNeg) 5).toNatClampNeg))), none]) (st' := [.inl 2147483647, .inr (some (32 + a1.toNatClampNeg))]) (I' := I5) rfl rfl ?_
  refine g_callS hC (c_J7_fill_53178 l D ads I5 A5 (32 + a1.toNatClampNeg) (2147483647 : Int32) 120 (rw_31 (vin_lt hr6)) (by decide)) dX6_searchLayer_33 nm_J7_fill_53178 wl_X6_124 wt_J7_fill_53178 wn_J7 wc_J7_fill_53178 ⟨by decide, by decide⟩ (as := [.inr (some (32 + a1.toNatClampNeg)), .inl 2147483647]) (rest := []) rfl (Nat.le_of_ble_eq_true rfl) ⟨Nat.le_refl _, Nat.le_refl _⟩ (k_qN ?_)
  refine g_blk hC _ bX6_searchLayer_36_39 (pc' := 39) (ls' := [some (.inr (some 29)), some (.inl a1), some (.inl a2), some (.inr (some (71 + 4 * (mnI (A 25 (a1 + 1).toNatClampNeg) 5).toNatClampNeg))), some (.inl 0)]) (st' := []) (I' := I5) rfl rfl ?_
  obtain ⟨hi39, hb39⟩ := hv
  have L39 : ∀ (n : Nat) (x4_39 : Int32) (I_39 : HI) (A_39 : HI), Iv39 I3 A3 I5 A5 x4_39 I_39 A_39 → mu39 I3 A3 I5 A5 x4_39 I_39 A_39 < n → Gm p l e s m args below meth c D ads 3 77 5 po I_39 A_39 39 [some (.inr (some 29)), some (.inl a1), none, some (.inr (some (71 + 4 * (mnI (A 25 (a1 + 1).toNatClampNeg) 5).toNatClampNeg))), some (.inl x4_39)] [] := by
    intro n
    induction n with
    | zero => intro x4_39 I_39 A_39 _ hn; exact absurd hn (Nat.not_lt_zero _)
    | succ n ih39 =>
      intro x4_39 I_39 A_39 hv hn39
      replace hv := hb39 x4_39 I_39 A_39 hv
      skip
      refine g_blk hC _ bX6_searchLayer_39_42 (pc' := 42) (ls' := [some (.inr (some 29)), some (.inl a1), none, some (.inr (some (71 + 4 * (mnI (A 25 (a1 + 1).toNatClampNeg) 5).toNatClampNeg))), some (.inl x4_39)]) (st' := [.inr (some (71 + 4 * (mnI (A 25 (a1 + 1).toNatClampNeg) 5).toNatClampNeg)), .inl x4_39]) (I' := I_39) rfl rfl ?_
      obtain ⟨fs9, hs9⟩ := ch_sh (chO_lt hp1.2)
      refine g_callV hC (c_X0_number l D ads I_39 A_39 ((mnI (A 25 (a1 + 1).toNatClampNeg) 5).toNatClampNeg) (chO_lt hp1.2)) dX6_searchLayer_42 nm_X0_number hs9 rfl wl_X6_130 wi_X0_number ws_X0_number wn_X0 wc_X0_number ⟨by decide, by decide⟩ (as := []) (rest := [.inl x4_39]) rfl (Nat.le_of_ble_eq_true rfl) ⟨Nat.le_refl _, Nat.le_refl _⟩ (k_qI ?_)
      obtain ⟨hv1, hv2⟩ := hv
      refine g_cge hC dX6_searchLayer_45 (tgt := 82) (by decide) (fun hc => ?_) (fun hc => ?_)
      · have hv := hv1 hc
        clear hv1 hv2 hc
        exact g_retv hC hr dX6_searchLayer_82 hv
      · have hv := hv2 hc
        clear hv1 hv2 hc
        refine g_blk hC _ bX6_searchLayer_48_50 (pc' := 50) (ls' := [some (.inr (some 29)), some (.inl a1), none, some (.inr (some (71 + 4 * (mnI (A 25 (a1 + 1).toNatClampNeg) 5).toNatClampNeg))), some (.inl x4_39)]) (st' := [.inl x4_39]) (I' := I_39) rfl rfl ?_
        obtain ⟨hv1, hv2⟩ := hv
        refine g_ifle hC dX6_searchLayer_50 (tgt := 68) (by decide) (fun hc => ?_) (fun hc => ?_)
        · have hv := hv1 hc
          clear hv1 hv2 hc
          refine g_blk hC _ bX6_searchLayer_68_73 (pc' := 73) (ls' := [some (.inr (some 29)), some (.inl a1), none, some (.inr (some (71 + 4 * (mnI (A 25 (a1 + 1).toNatClampNeg) 5).toNatClampNeg))), some (.inl x4_39)]) (st' := [.inr (some (71 + 4 * (mnI (A 25 (a1 + 1).toNatClampNeg) 5).toNatClampNeg)), .inl x4_39, .inl a1, .inr (some 29)]) (I' := I_39) rfl rfl ?_
          obtain ⟨hp9, hv⟩ := hv
          refine g_callV hC (hh_X6_tryNext I_39 A_39 a1 x4_39 ((mnI (A 25 (a1 + 1).toNatClampNeg) 5).toNatClampNeg) (chO_lt hp1.2) hp9) dX6_searchLayer_73 nm_X6_tryNext rfl rfl wl_X6_140 wi_X6_tryNext ws_X6_tryNext wn_X6 wc_X6_tryNext ⟨by decide, by decide⟩ (as := [.inl a1, .inl x4_39, .inr (some (71 + 4 * (mnI (A 25 (a1 + 1).toNatClampNeg) 5).toNatClampNeg))]) (rest := []) rfl (Nat.le_of_ble_eq_true rfl) ⟨Nat.le_refl _, Nat.le_refl _⟩ (k_qV ?_)
          intro I10 A10 hq10
          replace hv := hv I10 A10 hq10
          refine g_blk hC _ bX6_searchLayer_76_79 (pc' := 79) (ls' := [some (.inr (some 29)), some (.inl a1), none, some (.inr (some (71 + 4 * (mnI (A 25 (a1 + 1).toNatClampNeg) 5).toNatClampNeg))), some (.inl (x4_39 + 1))]) (st' := []) (I' := I10) rfl rfl ?_
          refine g_goto hC dX6_searchLayer_79 (tgt := 39) (by decide) ?_
          exact g_weak (ls1 := [some (.inr (some 29)), some (.inl a1), none, some (.inr (some (71 + 4 * (mnI (A 25 (a1 + 1).toNatClampNeg) 5).toNatClampNeg))), some (.inl (x4_39 + 1))]) rfl (And.intro rfl (And.intro rfl (And.intro rfl (And.intro rfl trivial)))) (ih39 (x4_39 + 1) I10 A10 hv.1 (Nat.lt_of_lt_of_le hv.2 (Nat.le_of_lt_succ hn39)))
        · have hv := hv2 hc
          clear hv1 hv2 hc
          refine g_blk hC _ bX6_searchLayer_53_59 (pc' := 59) (ls' := [some (.inr (some 29)), some (.inl a1), none, some (.inr (some (71 + 4 * (mnI (A 25 (a1 + 1).toNatClampNeg) 5).toNatClampNeg))), some (.inl x4_39)]) (st' := [.inr (some (71 + 4 * (mnI (A 25 (a1 + 1).toNatClampNeg) 5).toNatClampNeg)), .inl a1, .inr (some 68)]) (I' := I_39) rfl rfl ?_
          obtain ⟨fs9, hs9⟩ := ch_sh (chO_lt hp1.2)
          refine g_callV hC (c_X0_exchanged l D ads I_39 A_39 ((mnI (A 25 (a1 + 1).toNatClampNeg) 5).toNatClampNeg) (chO_lt hp1.2)) dX6_searchLayer_59 nm_X0_exchanged hs9 rfl wl_X6_133 wi_X0_exchanged ws_X0_exchanged wn_X0 wc_X0_exchanged ⟨by decide, by decide⟩ (as := []) (rest := [.inl a1, .inr (some 68)]) rfl (Nat.le_of_ble_eq_true rfl) ⟨Nat.le_refl _, Nat.le_refl _⟩ (k_qR ?_)
          refine g_blk hC _ bX6_searchLayer_62_64 (pc' := 64) (ls' := [some (.inr (some 29)), some (.inl a1), none, some (.inr (some (71 + 4 * (mnI (A 25 (a1 + 1).toNatClampNeg) 5).toNatClampNeg))), some (.inl x4_39)]) (st' := [.inl x4_39, .inr (some (73 + 4 * ((mnI (A 25 (a1 + 1).toNatClampNeg) 5).toNatClampNeg))), .inl a1, .inr (some 68)]) (I' := I_39) rfl rfl ?_
          obtain ⟨hi, hv⟩ := hv
          refine g_iald hC dX6_searchLayer_64 (ex_sh ((chO_lt hp1.2))) hi ?_
          clear hi
          obtain ⟨hp12, hv⟩ := hv
          refine g_callV hC (hh_X3_exchangeNext I_39 A_39 a1 (A_39 (73 + 4 * ((mnI (A 25 (a1 + 1).toNatClampNeg) 5).toNatClampNeg)) x4_39.toNatClampNeg) hp12) dX6_searchLayer_65 nm_X3_exchangeNext rfl rfl wl_X6_137 wi_X3_exchangeNext ws_X3_exchangeNext wn_X3 wc_X3_exchangeNext ⟨by decide, by decide⟩ (as := [.inl a1, .inl (A_39 (73 + 4 * ((mnI (A 25 (a1 + 1).toNatClampNeg) 5).toNatClampNeg)) x4_39.toNatClampNeg)]) (rest := []) rfl (Nat.le_of_ble_eq_true rfl) ⟨Nat.le_refl _, Nat.le_refl _⟩ (k_qV ?_)
          intro I13 A13 hq13
          replace hv := hv I13 A13 hq13
          refine g_blk hC _ bX6_searchLayer_68_73 (pc' := 73) (ls' := [some (.inr (some 29)), some (.inl a1), none, some (.inr (some (71 + 4 * (mnI (A 25 (a1 + 1).toNatClampNeg) 5).toNatClampNeg))), some (.inl x4_39)]) (st' := [.inr (some (71 + 4 * (mnI (A 25 (a1 + 1).toNatClampNeg) 5).toNatClampNeg)), .inl x4_39, .inl a1, .inr (some 29)]) (I' := I13) rfl rfl ?_
          obtain ⟨hp14, hv⟩ := hv
          refine g_callV hC (hh_X6_tryNext I13 A13 a1 x4_39 ((mnI (A 25 (a1 + 1).toNatClampNeg) 5).toNatClampNeg) (chO_lt hp1.2) hp14) dX6_searchLayer_73 nm_X6_tryNext rfl rfl wl_X6_140 wi_X6_tryNext ws_X6_tryNext wn_X6 wc_X6_tryNext ⟨by decide, by decide⟩ (as := [.inl a1, .inl x4_39, .inr (some (71 + 4 * (mnI (A 25 (a1 + 1).toNatClampNeg) 5).toNatClampNeg))]) (rest := []) rfl (Nat.le_of_ble_eq_true rfl) ⟨Nat.le_refl _, Nat.le_refl _⟩ (k_qV ?_)
          intro I15 A15 hq15
          replace hv := hv I15 A15 hq15
          refine g_blk hC _ bX6_searchLayer_76_79 (pc' := 79) (ls' := [some (.inr (some 29)), some (.inl a1), none, some (.inr (some (71 + 4 * (mnI (A 25 (a1 + 1).toNatClampNeg) 5).toNatClampNeg))), some (.inl (x4_39 + 1))]) (st' := []) (I' := I15) rfl rfl ?_
          refine g_goto hC dX6_searchLayer_79 (tgt := 39) (by decide) ?_
          exact g_weak (ls1 := [some (.inr (some 29)), some (.inl a1), none, some (.inr (some (71 + 4 * (mnI (A 25 (a1 + 1).toNatClampNeg) 5).toNatClampNeg))), some (.inl (x4_39 + 1))]) rfl (And.intro rfl (And.intro rfl (And.intro rfl (And.intro rfl trivial)))) (ih39 (x4_39 + 1) I15 A15 hv.1 (Nat.lt_of_lt_of_le hv.2 (Nat.le_of_lt_succ hn39)))
  exact g_weak (ls1 := [some (.inr (some 29)), some (.inl a1), none, some (.inr (some (71 + 4 * (mnI (A 25 (a1 + 1).toNatClampNeg) 5).toNatClampNeg))), some (.inl 0)]) rfl (And.intro rfl (And.intro rfl (And.intro rfl (And.intro rfl trivial)))) (L39 _ 0 I5 (filA A5 (32 + a1.toNatClampNeg) 120 (2147483647 : Int32)) hi39 (Nat.lt_succ_self _))
theorem bX6_chooseFirst_0_2 : okB cX6_chooseFirst RX6 0 [(5, 0, 0, 0, 0), (0, 0, 0, 0, 0)] := And.intro ⟨_, dX6_chooseFirst_0, rfl⟩ (And.intro ⟨_, dX6_chooseFirst_1, by decide⟩ trivial)
theorem bX6_chooseFirst_5_19 : okB cX6_chooseFirst RX6 5 [(9, 1, 0, 0, 0), (5, 0, 0, 0, 0), (26, 123, 0, 0, 2147483647), (24, 32, 6, 9, 0), (5, 0, 0, 0, 0), (0, 0, 0, 0, 0), (24, 36, 6, 10, 0), (0, 0, 0, 0, 0), (7, 2, 0, 0, 0)] := And.intro ⟨_, dX6_chooseFirst_5, rfl⟩ (And.intro ⟨_, dX6_chooseFirst_6, rfl⟩ (And.intro ⟨dX6_chooseFirst_7, wk_X6_123⟩ (And.intro ⟨dX6_chooseFirst_9, fl_X6_32, rfl, rfl⟩ (And.intro ⟨_, dX6_chooseFirst_12, rfl⟩ (And.intro ⟨_, dX6_chooseFirst_13, by decide⟩ (And.intro ⟨dX6_chooseFirst_14, fl_X6_36, rfl, rfl⟩ (And.intro ⟨_, dX6_chooseFirst_17, by decide⟩ (And.intro ⟨_, dX6_chooseFirst_18, rfl⟩ trivial))))))))
theorem bX6_chooseFirst_19_21 : okB cX6_chooseFirst RX6 19 [(3, 2, 0, 0, 0), (5, 1, 0, 0, 0)] := And.intro ⟨_, dX6_chooseFirst_19, rfl⟩ (And.intro ⟨_, dX6_chooseFirst_20, rfl⟩ trivial)
theorem bX6_chooseFirst_27_32 : okB cX6_chooseFirst RX6 27 [(5, 0, 0, 0, 0), (23, 19, 6, 5, 0), (0, 0, 0, 0, 0)] := And.intro ⟨_, dX6_chooseFirst_27, rfl⟩ (And.intro ⟨dX6_chooseFirst_28, fl_X6_19⟩ (And.intro ⟨_, dX6_chooseFirst_31, by decide⟩ trivial))
theorem bX6_chooseFirst_33_34 : okB cX6_chooseFirst RX6 33 [(3, 2, 0, 0, 0)] := And.intro ⟨_, dX6_chooseFirst_33, rfl⟩ trivial
theorem bX6_chooseFirst_35_39 : okB cX6_chooseFirst RX6 35 [(5, 0, 0, 0, 0), (23, 32, 6, 9, 0)] := And.intro ⟨_, dX6_chooseFirst_35, rfl⟩ (And.intro ⟨dX6_chooseFirst_36, fl_X6_32⟩ trivial)
theorem bX6_chooseFirst_76_81 : okB cX6_chooseFirst RX6 76 [(5, 0, 0, 0, 0), (23, 19, 6, 5, 0), (0, 0, 0, 0, 0)] := And.intro ⟨_, dX6_chooseFirst_76, rfl⟩ (And.intro ⟨dX6_chooseFirst_77, fl_X6_19⟩ (And.intro ⟨_, dX6_chooseFirst_80, by decide⟩ trivial))
theorem bX6_chooseFirst_82_83 : okB cX6_chooseFirst RX6 82 [(3, 2, 0, 0, 0)] := And.intro ⟨_, dX6_chooseFirst_82, rfl⟩ trivial
theorem bX6_chooseFirst_84_88 : okB cX6_chooseFirst RX6 84 [(5, 0, 0, 0, 0), (23, 32, 6, 9, 0)] := And.intro ⟨_, dX6_chooseFirst_84, rfl⟩ (And.intro ⟨dX6_chooseFirst_85, fl_X6_32⟩ trivial)
theorem bX6_chooseFirst_133_136 : okB cX6_chooseFirst RX6 133 [(11, 2, 0, 0, 1)] := And.intro ⟨_, dX6_chooseFirst_133, by decide⟩ trivial
theorem bX6_chooseFirst_91_101 : okB cX6_chooseFirst RX6 91 [(5, 0, 0, 0, 0), (20, 0, 0, 0, 0), (23, 36, 6, 10, 0), (5, 0, 0, 0, 0), (23, 22, 6, 6, 0), (0, 0, 0, 0, 0)] := And.intro ⟨_, dX6_chooseFirst_91, rfl⟩ (And.intro dX6_chooseFirst_92 (And.intro ⟨dX6_chooseFirst_93, fl_X6_36⟩ (And.intro ⟨_, dX6_chooseFirst_96, rfl⟩ (And.intro ⟨dX6_chooseFirst_97, fl_X6_22⟩ (And.intro ⟨_, dX6_chooseFirst_100, by decide⟩ trivial)))))
theorem bX6_chooseFirst_102_103 : okB cX6_chooseFirst RX6 102 [(3, 2, 0, 0, 0)] := And.intro ⟨_, dX6_chooseFirst_102, rfl⟩ trivial
theorem bX6_chooseFirst_104_110 : okB cX6_chooseFirst RX6 104 [(12, 0, 0, 0, 0), (24, 36, 6, 10, 0), (5, 1, 0, 0, 0), (3, 2, 0, 0, 0)] := And.intro dX6_chooseFirst_104 (And.intro ⟨dX6_chooseFirst_105, fl_X6_36, rfl, rfl⟩ (And.intro ⟨_, dX6_chooseFirst_108, rfl⟩ (And.intro ⟨_, dX6_chooseFirst_109, rfl⟩ trivial)))
theorem bX6_chooseFirst_113_119 : okB cX6_chooseFirst RX6 113 [(5, 1, 0, 0, 0), (5, 0, 0, 0, 0), (23, 28, 6, 8, 0), (0, 0, 0, 0, 0)] := And.intro ⟨_, dX6_chooseFirst_113, rfl⟩ (And.intro ⟨_, dX6_chooseFirst_114, rfl⟩ (And.intro ⟨dX6_chooseFirst_115, fl_X6_28⟩ (And.intro ⟨_, dX6_chooseFirst_118, by decide⟩ trivial)))
theorem bX6_chooseFirst_126_132 : okB cX6_chooseFirst RX6 126 [(5, 0, 0, 0, 0), (23, 28, 6, 8, 0), (0, 0, 0, 0, 0), (3, 2, 0, 0, 0)] := And.intro ⟨_, dX6_chooseFirst_126, rfl⟩ (And.intro ⟨dX6_chooseFirst_127, fl_X6_28⟩ (And.intro ⟨_, dX6_chooseFirst_130, by decide⟩ (And.intro ⟨_, dX6_chooseFirst_131, rfl⟩ trivial)))
theorem bX6_chooseFirst_42_48 : okB cX6_chooseFirst RX6 42 [(5, 0, 0, 0, 0), (5, 0, 0, 0, 0), (23, 19, 6, 5, 0), (0, 0, 0, 0, 0)] := And.intro ⟨_, dX6_chooseFirst_42, rfl⟩ (And.intro ⟨_, dX6_chooseFirst_43, rfl⟩ (And.intro ⟨dX6_chooseFirst_44, fl_X6_19⟩ (And.intro ⟨_, dX6_chooseFirst_47, by decide⟩ trivial)))
theorem bX6_chooseFirst_49_50 : okB cX6_chooseFirst RX6 49 [(3, 2, 0, 0, 0)] := And.intro ⟨_, dX6_chooseFirst_49, rfl⟩ trivial
theorem bX6_chooseFirst_51_60 : okB cX6_chooseFirst RX6 51 [(24, 32, 6, 9, 0), (5, 0, 0, 0, 0), (5, 0, 0, 0, 0), (23, 22, 6, 6, 0), (0, 0, 0, 0, 0)] := And.intro ⟨dX6_chooseFirst_51, fl_X6_32, rfl, rfl⟩ (And.intro ⟨_, dX6_chooseFirst_54, rfl⟩ (And.intro ⟨_, dX6_chooseFirst_55, rfl⟩ (And.intro ⟨dX6_chooseFirst_56, fl_X6_22⟩ (And.intro ⟨_, dX6_chooseFirst_59, by decide⟩ trivial))))
theorem bX6_chooseFirst_61_62 : okB cX6_chooseFirst RX6 61 [(3, 2, 0, 0, 0)] := And.intro ⟨_, dX6_chooseFirst_61, rfl⟩ trivial
theorem bX6_chooseFirst_63_72 : okB cX6_chooseFirst RX6 63 [(24, 36, 6, 10, 0), (5, 0, 0, 0, 0), (23, 28, 6, 8, 0), (0, 0, 0, 0, 0), (3, 2, 0, 0, 0)] := And.intro ⟨dX6_chooseFirst_63, fl_X6_36, rfl, rfl⟩ (And.intro ⟨_, dX6_chooseFirst_66, rfl⟩ (And.intro ⟨dX6_chooseFirst_67, fl_X6_28⟩ (And.intro ⟨_, dX6_chooseFirst_70, by decide⟩ (And.intro ⟨_, dX6_chooseFirst_71, rfl⟩ trivial))))
set_option maxHeartbeats 4000000 in
set_option maxRecDepth 100000 in
theorem k_X6_chooseFirst (l : Launch) (D : va_G) (ads : AD) (I A : HI) (po : Option AV → HI → HI → Prop) (Iv19 : Int32 → HI → HI → Prop) (mu19 : Int32 → HI → HI → Nat)
    (hv : ((vp_in (0 : Int32) 11 ∧ 0 ≤ A 25 (0 : Int32).toNatClampNeg) ∧ (Iv19 0 (up2 (up2 I 29 9 2147483647) 29 10 0) A ∧ ∀ (x2_19 : Int32) (I_19 : HI) (A_19 : HI), Iv19 x2_19 I_19 A_19 → (((I_19 (71 + 4 * ((mnI (A 25 (0 : Int32).toNatClampNeg) 5).toNatClampNeg)) 1) ≤ x2_19 → po none I_19 A_19) ∧ (¬ (I_19 (71 + 4 * ((mnI (A 25 (0 : Int32).toNatClampNeg) 5).toNatClampNeg)) 1) ≤ x2_19 → (vp_in (0 : Int32) 11 ∧ (vp_in x2_19 120 ∧ (((I_19 29 9) ≤ (A_19 (32 + (0 : Int32).toNatClampNeg) x2_19.toNatClampNeg) → (vp_in (0 : Int32) 11 ∧ (vp_in x2_19 120 ∧ ((¬ (A_19 (32 + (0 : Int32).toNatClampNeg) x2_19.toNatClampNeg) = (I_19 29 9) → (Iv19 (x2_19 + 1) I_19 A_19 ∧ mu19 (x2_19 + 1) I_19 A_19 < mu19 x2_19 I_19 A_19)) ∧ ((A_19 (32 + (0 : Int32).toNatClampNeg) x2_19.toNatClampNeg) = (I_19 29 9) → (vp_in (0 : Int32) 11 ∧ (vp_in x2_19 120 ∧ ((vp_in x2_19 (chN ((mnI (A 25 (0 : Int32).toNatClampNeg) 5).toNatClampNeg))) ∧ (vp_in (0 : Int32) 11 ∧ ((vp_in (A_19 67 (0 : Int32).toNatClampNeg) (chN ((mnI (A 25 (0 : Int32).toNatClampNeg) 5).toNatClampNeg))) ∧ (((A_19 (74 + 4 * ((mnI (A 25 (0 : Int32).toNatClampNeg) 5).toNatClampNeg)) (A_19 67 (0 : Int32).toNatClampNeg).toNatClampNeg) ≤ (A_19 (74 + 4 * ((mnI (A 25 (0 : Int32).toNatClampNeg) 5).toNatClampNeg)) x2_19.toNatClampNeg) → (Iv19 (x2_19 + 1) (up2 I_19 29 10 ((I_19 29 10) + (A_19 (44 + (0 : Int32).toNatClampNeg) x2_19.toNatClampNeg))) A_19 ∧ mu19 (x2_19 + 1) (up2 I_19 29 10 ((I_19 29 10) + (A_19 (44 + (0 : Int32).toNatClampNeg) x2_19.toNatClampNeg))) A_19 < mu19 x2_19 I_19 A_19)) ∧ (¬ (A_19 (74 + 4 * ((mnI (A 25 (0 : Int32).toNatClampNeg) 5).toNatClampNeg)) (A_19 67 (0 : Int32).toNatClampNeg).toNatClampNeg) ≤ (A_19 (74 + 4 * ((mnI (A 25 (0 : Int32).toNatClampNeg) 5).toNatClampNeg)) x2_19.toNatClampNeg) → (vp_in (0 : Int32) 11 ∧ (Iv19 (x2_19 + 1) (up2 I_19 29 10 ((I_19 29 10) + (A_19 (44 + (0 : Int32).toNatClampNeg) x2_19.toNatClampNeg))) (up2 A_19 67 (0 : Int32).toNatClampNeg x2_19) ∧ mu19 (x2_19 + 1) (up2 I_19 29 10 ((I_19 29 10) + (A_19 (44 + (0 : Int32).toNatClampNeg) x2_19.toNatClampNeg))) (up2 A_19 67 (0 : Int32).toNatClampNeg x2_19) < mu19 x2_19 I_19 A_19)))))))))))))) ∧ (¬ (I_19 29 9) ≤ (A_19 (32 + (0 : Int32).toNatClampNeg) x2_19.toNatClampNeg) → (vp_in (0 : Int32) 11 ∧ (vp_in x2_19 120 ∧ (vp_in (0 : Int32) 11 ∧ (vp_in x2_19 120 ∧ (vp_in (0 : Int32) 11 ∧ (Iv19 (x2_19 + 1) (up2 (up2 I_19 29 9 (A_19 (32 + (0 : Int32).toNatClampNeg) x2_19.toNatClampNeg)) 29 10 (A_19 (44 + (0 : Int32).toNatClampNeg) x2_19.toNatClampNeg)) (up2 A_19 67 (0 : Int32).toNatClampNeg x2_19) ∧ mu19 (x2_19 + 1) (up2 (up2 I_19 29 9 (A_19 (32 + (0 : Int32).toNatClampNeg) x2_19.toNatClampNeg)) 29 10 (A_19 (44 + (0 : Int32).toNatClampNeg) x2_19.toNatClampNeg)) (up2 A_19 67 (0 : Int32).toNatClampNeg x2_19) < mu19 x2_19 I_19 A_19))))))))))))))) : Ct l yX6_chooseFirst cX6_chooseFirst 3 none 2 42 D ads shp [.inr (some 29)] I A po := by
  refine Ct_of (by decide) (Nat.le_of_ble_eq_true rfl) ?_
  intro p e s m args below meth c hC hr
  replace hC : CX p s m args meth c cX6_chooseFirst 3 RX6 (AdS ads s.heap.size) := hC
  show Gm p l e s m args below meth c D ads 2 42 3 po I A 0 [some (.inr (some 29)), none, none] []
  refine g_blk hC _ bX6_chooseFirst_0_2 (pc' := 2) (ls' := [some (.inr (some 29)), none, none]) (st' := [.inl 0, .inr (some 29)]) (I' := I) rfl rfl ?_
  obtain ⟨hp1, hv⟩ := hv
  refine g_callV hC (c_X6_changesOf l D ads I A (0 : Int32) hp1) dX6_chooseFirst_2 nm_X6_changesOf rfl rfl wl_X6_96 wi_X6_changesOf ws_X6_changesOf wn_X6 wc_X6_changesOf ⟨by decide, by decide⟩ (as := [.inl 0]) (rest := []) rfl (Nat.le_of_ble_eq_true rfl) ⟨Nat.le_refl _, Nat.le_refl _⟩ (k_qR ?_)
  refine g_blk hC _ bX6_chooseFirst_5_19 (pc' := 19) (ls' := [some (.inr (some 29)), some (.inr (some (71 + 4 * (mnI (A 25 (0 : Int32).toNatClampNeg) 5).toNatClampNeg))), some (.inl 0)]) (st' := []) (I' := up2 (up2 I 29 9 2147483647) 29 10 0) rfl rfl ?_
  obtain ⟨hi19, hb19⟩ := hv
  have L19 : ∀ (n : Nat) (x2_19 : Int32) (I_19 : HI) (A_19 : HI), Iv19 x2_19 I_19 A_19 → mu19 x2_19 I_19 A_19 < n → Gm p l e s m args below meth c D ads 2 42 3 po I_19 A_19 19 [some (.inr (some 29)), some (.inr (some (71 + 4 * (mnI (A 25 (0 : Int32).toNatClampNeg) 5).toNatClampNeg))), some (.inl x2_19)] [] := by
    intro n
    induction n with
    | zero => intro x2_19 I_19 A_19 _ hn; exact absurd hn (Nat.not_lt_zero _)
    | succ n ih19 =>
      intro x2_19 I_19 A_19 hv hn19
      replace hv := hb19 x2_19 I_19 A_19 hv
      skip
      refine g_blk hC _ bX6_chooseFirst_19_21 (pc' := 21) (ls' := [some (.inr (some 29)), some (.inr (some (71 + 4 * (mnI (A 25 (0 : Int32).toNatClampNeg) 5).toNatClampNeg))), some (.inl x2_19)]) (st' := [.inr (some (71 + 4 * (mnI (A 25 (0 : Int32).toNatClampNeg) 5).toNatClampNeg)), .inl x2_19]) (I' := I_19) rfl rfl ?_
      obtain ⟨fs9, hs9⟩ := ch_sh (chO_lt hp1.2)
      refine g_callV hC (c_X0_number l D ads I_19 A_19 ((mnI (A 25 (0 : Int32).toNatClampNeg) 5).toNatClampNeg) (chO_lt hp1.2)) dX6_chooseFirst_21 nm_X0_number hs9 rfl wl_X6_130 wi_X0_number ws_X0_number wn_X0 wc_X0_number ⟨by decide, by decide⟩ (as := []) (rest := [.inl x2_19]) rfl (Nat.le_of_ble_eq_true rfl) ⟨Nat.le_refl _, Nat.le_refl _⟩ (k_qI ?_)
      obtain ⟨hv1, hv2⟩ := hv
      refine g_cge hC dX6_chooseFirst_24 (tgt := 139) (by decide) (fun hc => ?_) (fun hc => ?_)
      · have hv := hv1 hc
        clear hv1 hv2 hc
        exact g_retv hC hr dX6_chooseFirst_139 hv
      · have hv := hv2 hc
        clear hv1 hv2 hc
        refine g_blk hC _ bX6_chooseFirst_27_32 (pc' := 32) (ls' := [some (.inr (some 29)), some (.inr (some (71 + 4 * (mnI (A 25 (0 : Int32).toNatClampNeg) 5).toNatClampNeg))), some (.inl x2_19)]) (st' := [.inl 0, .inr (some 31)]) (I' := I_19) rfl rfl ?_
        obtain ⟨hr3, hv⟩ := hv
        refine g_aald hC dX6_chooseFirst_32 (f := _) rfl hr3 (ra_31 (vin_lt hr3)) ?_
        refine g_blk hC _ bX6_chooseFirst_33_34 (pc' := 34) (ls' := [some (.inr (some 29)), some (.inr (some (71 + 4 * (mnI (A 25 (0 : Int32).toNatClampNeg) 5).toNatClampNeg))), some (.inl x2_19)]) (st' := [.inl x2_19, .inr (some (32 + (0 : Int32).toNatClampNeg))]) (I' := I_19) rfl rfl ?_
        obtain ⟨hi, hv⟩ := hv
        refine g_iald hC dX6_chooseFirst_34 (rw_31 (vin_lt hr3)) hi ?_
        clear hi
        refine g_blk hC _ bX6_chooseFirst_35_39 (pc' := 39) (ls' := [some (.inr (some 29)), some (.inr (some (71 + 4 * (mnI (A 25 (0 : Int32).toNatClampNeg) 5).toNatClampNeg))), some (.inl x2_19)]) (st' := [.inl (I_19 29 9), .inl (A_19 (32 + (0 : Int32).toNatClampNeg) x2_19.toNatClampNeg)]) (I' := I_19) rfl rfl ?_
        obtain ⟨hv1, hv2⟩ := hv
        refine g_cge hC dX6_chooseFirst_39 (tgt := 76) (by decide) (fun hc => ?_) (fun hc => ?_)
        · have hv := hv1 hc
          clear hv1 hv2 hc
          refine g_blk hC _ bX6_chooseFirst_76_81 (pc' := 81) (ls' := [some (.inr (some 29)), some (.inr (some (71 + 4 * (mnI (A 25 (0 : Int32).toNatClampNeg) 5).toNatClampNeg))), some (.inl x2_19)]) (st' := [.inl 0, .inr (some 31)]) (I' := I_19) rfl rfl ?_
          obtain ⟨hr4, hv⟩ := hv
          refine g_aald hC dX6_chooseFirst_81 (f := _) rfl hr4 (ra_31 (vin_lt hr4)) ?_
          refine g_blk hC _ bX6_chooseFirst_82_83 (pc' := 83) (ls' := [some (.inr (some 29)), some (.inr (some (71 + 4 * (mnI (A 25 (0 : Int32).toNatClampNeg) 5).toNatClampNeg))), some (.inl x2_19)]) (st' := [.inl x2_19, .inr (some (32 + (0 : Int32).toNatClampNeg))]) (I' := I_19) rfl rfl ?_
          obtain ⟨hi, hv⟩ := hv
          refine g_iald hC dX6_chooseFirst_83 (rw_31 (vin_lt hr4)) hi ?_
          clear hi
          refine g_blk hC _ bX6_chooseFirst_84_88 (pc' := 88) (ls' := [some (.inr (some 29)), some (.inr (some (71 + 4 * (mnI (A 25 (0 : Int32).toNatClampNeg) 5).toNatClampNeg))), some (.inl x2_19)]) (st' := [.inl (I_19 29 9), .inl (A_19 (32 + (0 : Int32).toNatClampNeg) x2_19.toNatClampNeg)]) (I' := I_19) rfl rfl ?_
          obtain ⟨hv1, hv2⟩ := hv
          refine g_cne hC dX6_chooseFirst_88 (tgt := 133) (by decide) (fun hc => ?_) (fun hc => ?_)
          · have hv := hv1 hc
            clear hv1 hv2 hc
            refine g_blk hC _ bX6_chooseFirst_133_136 (pc' := 136) (ls' := [some (.inr (some 29)), some (.inr (some (71 + 4 * (mnI (A 25 (0 : Int32).toNatClampNeg) 5).toNatClampNeg))), some (.inl (x2_19 + 1))]) (st' := []) (I' := I_19) rfl rfl ?_
            refine g_goto hC dX6_chooseFirst_136 (tgt := 19) (by decide) ?_
            exact g_weak (ls1 := [some (.inr (some 29)), some (.inr (some (71 + 4 * (mnI (A 25 (0 : Int32).toNatClampNeg) 5).toNatClampNeg))), some (.inl (x2_19 + 1))]) rfl (And.intro rfl (And.intro rfl (And.intro rfl trivial))) (ih19 (x2_19 + 1) I_19 A_19 hv.1 (Nat.lt_of_lt_of_le hv.2 (Nat.le_of_lt_succ hn19)))
          · have hv := hv2 hc
            clear hv1 hv2 hc
            refine g_blk hC _ bX6_chooseFirst_91_101 (pc' := 101) (ls' := [some (.inr (some 29)), some (.inr (some (71 + 4 * (mnI (A 25 (0 : Int32).toNatClampNeg) 5).toNatClampNeg))), some (.inl x2_19)]) (st' := [.inl 0, .inr (some 43), .inl (I_19 29 10), .inr (some 29)]) (I' := I_19) rfl rfl ?_
            obtain ⟨hr5, hv⟩ := hv
            refine g_aald hC dX6_chooseFirst_101 (f := _) rfl hr5 (ra_43 (vin_lt hr5)) ?_
            refine g_blk hC _ bX6_chooseFirst_102_103 (pc' := 103) (ls' := [some (.inr (some 29)), some (.inr (some (71 + 4 * (mnI (A 25 (0 : Int32).toNatClampNeg) 5).toNatClampNeg))), some (.inl x2_19)]) (st' := [.inl x2_19, .inr (some (44 + (0 : Int32).toNatClampNeg)), .inl (I_19 29 10), .inr (some 29)]) (I' := I_19) rfl rfl ?_
            obtain ⟨hi, hv⟩ := hv
            refine g_iald hC dX6_chooseFirst_103 (rw_43 (vin_lt hr5)) hi ?_
            clear hi
            refine g_blk hC _ bX6_chooseFirst_104_110 (pc' := 110) (ls' := [some (.inr (some 29)), some (.inr (some (71 + 4 * (mnI (A 25 (0 : Int32).toNatClampNeg) 5).toNatClampNeg))), some (.inl x2_19)]) (st' := [.inl x2_19, .inr (some (71 + 4 * (mnI (A 25 (0 : Int32).toNatClampNeg) 5).toNatClampNeg))]) (I' := up2 I_19 29 10 ((I_19 29 10) + (A_19 (44 + (0 : Int32).toNatClampNeg) x2_19.toNatClampNeg))) rfl rfl ?_
            obtain ⟨hp6, hv⟩ := hv
            obtain ⟨fs9, hs9⟩ := ch_sh (chO_lt hp1.2)
            refine g_callV hC (c_X0_rankAt l D ads (up2 I_19 29 10 ((I_19 29 10) + (A_19 (44 + (0 : Int32).toNatClampNeg) x2_19.toNatClampNeg))) A_19 ((mnI (A 25 (0 : Int32).toNatClampNeg) 5).toNatClampNeg) x2_19 (chO_lt hp1.2) hp6) dX6_chooseFirst_110 nm_X0_rankAt hs9 rfl wl_X6_150 wi_X0_rankAt ws_X0_rankAt wn_X0 wc_X0_rankAt ⟨by decide, by decide⟩ (as := [.inl x2_19]) (rest := []) rfl (Nat.le_of_ble_eq_true rfl) ⟨Nat.le_refl _, Nat.le_refl _⟩ (k_qI ?_)
            refine g_blk hC _ bX6_chooseFirst_113_119 (pc' := 119) (ls' := [some (.inr (some 29)), some (.inr (some (71 + 4 * (mnI (A 25 (0 : Int32).toNatClampNeg) 5).toNatClampNeg))), some (.inl x2_19)]) (st' := [.inl 0, .inr (some 67), .inr (some (71 + 4 * (mnI (A 25 (0 : Int32).toNatClampNeg) 5).toNatClampNeg)), .inl (A_19 (74 + 4 * ((mnI (A 25 (0 : Int32).toNatClampNeg) 5).toNatClampNeg)) x2_19.toNatClampNeg)]) (I' := up2 I_19 29 10 ((I_19 29 10) + (A_19 (44 + (0 : Int32).toNatClampNeg) x2_19.toNatClampNeg))) rfl rfl ?_
            obtain ⟨hi, hv⟩ := hv
            refine g_iald hC dX6_chooseFirst_119 (rfl) hi ?_
            clear hi
            obtain ⟨hp7, hv⟩ := hv
            obtain ⟨fs9, hs9⟩ := ch_sh (chO_lt hp1.2)
            refine g_callV hC (c_X0_rankAt l D ads (up2 I_19 29 10 ((I_19 29 10) + (A_19 (44 + (0 : Int32).toNatClampNeg) x2_19.toNatClampNeg))) A_19 ((mnI (A 25 (0 : Int32).toNatClampNeg) 5).toNatClampNeg) (A_19 67 (0 : Int32).toNatClampNeg) (chO_lt hp1.2) hp7) dX6_chooseFirst_120 nm_X0_rankAt hs9 rfl wl_X6_150 wi_X0_rankAt ws_X0_rankAt wn_X0 wc_X0_rankAt ⟨by decide, by decide⟩ (as := [.inl (A_19 67 (0 : Int32).toNatClampNeg)]) (rest := [.inl (A_19 (74 + 4 * ((mnI (A 25 (0 : Int32).toNatClampNeg) 5).toNatClampNeg)) x2_19.toNatClampNeg)]) rfl (Nat.le_of_ble_eq_true rfl) ⟨Nat.le_refl _, Nat.le_refl _⟩ (k_qI ?_)
            obtain ⟨hv1, hv2⟩ := hv
            refine g_cge hC dX6_chooseFirst_123 (tgt := 133) (by decide) (fun hc => ?_) (fun hc => ?_)
            · have hv := hv1 hc
              clear hv1 hv2 hc
              refine g_blk hC _ bX6_chooseFirst_133_136 (pc' := 136) (ls' := [some (.inr (some 29)), some (.inr (some (71 + 4 * (mnI (A 25 (0 : Int32).toNatClampNeg) 5).toNatClampNeg))), some (.inl (x2_19 + 1))]) (st' := []) (I' := up2 I_19 29 10 ((I_19 29 10) + (A_19 (44 + (0 : Int32).toNatClampNeg) x2_19.toNatClampNeg))) rfl rfl ?_
              refine g_goto hC dX6_chooseFirst_136 (tgt := 19) (by decide) ?_
              exact g_weak (ls1 := [some (.inr (some 29)), some (.inr (some (71 + 4 * (mnI (A 25 (0 : Int32).toNatClampNeg) 5).toNatClampNeg))), some (.inl (x2_19 + 1))]) rfl (And.intro rfl (And.intro rfl (And.intro rfl trivial))) (ih19 (x2_19 + 1) (up2 I_19 29 10 ((I_19 29 10) + (A_19 (44 + (0 : Int32).toNatClampNeg) x2_19.toNatClampNeg))) A_19 hv.1 (Nat.lt_of_lt_of_le hv.2 (Nat.le_of_lt_succ hn19)))
            · have hv := hv2 hc
              clear hv1 hv2 hc
              refine g_blk hC _ bX6_chooseFirst_126_132 (pc' := 132) (ls' := [some (.inr (some 29)), some (.inr (some (71 + 4 * (mnI (A 25 (0 : Int32).toNatClampNeg) 5).toNatClampNeg))), some (.inl x2_19)]) (st' := [.inl x2_19, .inl 0, .inr (some 67)]) (I' := up2 I_19 29 10 ((I_19 29 10) + (A_19 (44 + (0 : Int32).toNatClampNeg) x2_19.toNatClampNeg))) rfl rfl ?_
              obtain ⟨hi, hv⟩ := hv
              refine g_iast hC dX6_chooseFirst_132 (rfl) hi ?_
              clear hi
              refine g_blk hC _ bX6_chooseFirst_133_136 (pc' := 136) (ls' := [some (.inr (some 29)), some (.inr (some (71 + 4 * (mnI (A 25 (0 : Int32).toNatClampNeg) 5).toNatClampNeg))), some (.inl (x2_19 + 1))]) (st' := []) (I' := up2 I_19 29 10 ((I_19 29 10) + (A_19 (44 + (0 : Int32).toNatClampNeg) x2_19.toNatClampNeg))) rfl rfl ?_
              refine g_goto hC dX6_chooseFirst_136 (tgt := 19) (by decide) ?_
              exact g_weak (ls1 := [some (.inr (some 29)), some (.inr (some (71 + 4 * (mnI (A 25 (0 : Int32).toNatClampNeg) 5).toNatClampNeg))), some (.inl (x2_19 + 1))]) rfl (And.intro rfl (And.intro rfl (And.intro rfl trivial))) (ih19 (x2_19 + 1) (up2 I_19 29 10 ((I_19 29 10) + (A_19 (44 + (0 : Int32).toNatClampNeg) x2_19.toNatClampNeg))) (up2 A_19 67 (0 : Int32).toNatClampNeg x2_19) hv.1 (Nat.lt_of_lt_of_le hv.2 (Nat.le_of_lt_succ hn19)))
        · have hv := hv2 hc
          clear hv1 hv2 hc
          refine g_blk hC _ bX6_chooseFirst_42_48 (pc' := 48) (ls' := [some (.inr (some 29)), some (.inr (some (71 + 4 * (mnI (A 25 (0 : Int32).toNatClampNeg) 5).toNatClampNeg))), some (.inl x2_19)]) (st' := [.inl 0, .inr (some 31), .inr (some 29)]) (I' := I_19) rfl rfl ?_
          obtain ⟨hr8, hv⟩ := hv
          refine g_aald hC dX6_chooseFirst_48 (f := _) rfl hr8 (ra_31 (vin_lt hr8)) ?_
          refine g_blk hC _ bX6_chooseFirst_49_50 (pc' := 50) (ls' := [some (.inr (some 29)), some (.inr (some (71 + 4 * (mnI (A 25 (0 : Int32).toNatClampNeg) 5).toNatClampNeg))), some (.inl x2_19)]) (st' := [.inl x2_19, .inr (some (32 + (0 : Int32).toNatClampNeg)), .inr (some 29)]) (I' := I_19) rfl rfl ?_
          obtain ⟨hi, hv⟩ := hv
          refine g_iald hC dX6_chooseFirst_50 (rw_31 (vin_lt hr8)) hi ?_
          clear hi
          refine g_blk hC _ bX6_chooseFirst_51_60 (pc' := 60) (ls' := [some (.inr (some 29)), some (.inr (some (71 + 4 * (mnI (A 25 (0 : Int32).toNatClampNeg) 5).toNatClampNeg))), some (.inl x2_19)]) (st' := [.inl 0, .inr (some 43), .inr (some 29)]) (I' := up2 I_19 29 9 (A_19 (32 + (0 : Int32).toNatClampNeg) x2_19.toNatClampNeg)) rfl rfl ?_
          obtain ⟨hr9, hv⟩ := hv
          refine g_aald hC dX6_chooseFirst_60 (f := _) rfl hr9 (ra_43 (vin_lt hr9)) ?_
          refine g_blk hC _ bX6_chooseFirst_61_62 (pc' := 62) (ls' := [some (.inr (some 29)), some (.inr (some (71 + 4 * (mnI (A 25 (0 : Int32).toNatClampNeg) 5).toNatClampNeg))), some (.inl x2_19)]) (st' := [.inl x2_19, .inr (some (44 + (0 : Int32).toNatClampNeg)), .inr (some 29)]) (I' := up2 I_19 29 9 (A_19 (32 + (0 : Int32).toNatClampNeg) x2_19.toNatClampNeg)) rfl rfl ?_
          obtain ⟨hi, hv⟩ := hv
          refine g_iald hC dX6_chooseFirst_62 (rw_43 (vin_lt hr9)) hi ?_
          clear hi
          refine g_blk hC _ bX6_chooseFirst_63_72 (pc' := 72) (ls' := [some (.inr (some 29)), some (.inr (some (71 + 4 * (mnI (A 25 (0 : Int32).toNatClampNeg) 5).toNatClampNeg))), some (.inl x2_19)]) (st' := [.inl x2_19, .inl 0, .inr (some 67)]) (I' := up2 (up2 I_19 29 9 (A_19 (32 + (0 : Int32).toNatClampNeg) x2_19.toNatClampNeg)) 29 10 (A_19 (44 + (0 : Int32).toNatClampNeg) x2_19.toNatClampNeg)) rfl rfl ?_
          obtain ⟨hi, hv⟩ := hv
          refine g_iast hC dX6_chooseFirst_72 (rfl) hi ?_
          clear hi
          refine g_goto hC dX6_chooseFirst_73 (tgt := 133) (by decide) ?_
          refine g_blk hC _ bX6_chooseFirst_133_136 (pc' := 136) (ls' := [some (.inr (some 29)), some (.inr (some (71 + 4 * (mnI (A 25 (0 : Int32).toNatClampNeg) 5).toNatClampNeg))), some (.inl (x2_19 + 1))]) (st' := []) (I' := up2 (up2 I_19 29 9 (A_19 (32 + (0 : Int32).toNatClampNeg) x2_19.toNatClampNeg)) 29 10 (A_19 (44 + (0 : Int32).toNatClampNeg) x2_19.toNatClampNeg)) rfl rfl ?_
          refine g_goto hC dX6_chooseFirst_136 (tgt := 19) (by decide) ?_
          exact g_weak (ls1 := [some (.inr (some 29)), some (.inr (some (71 + 4 * (mnI (A 25 (0 : Int32).toNatClampNeg) 5).toNatClampNeg))), some (.inl (x2_19 + 1))]) rfl (And.intro rfl (And.intro rfl (And.intro rfl trivial))) (ih19 (x2_19 + 1) (up2 (up2 I_19 29 9 (A_19 (32 + (0 : Int32).toNatClampNeg) x2_19.toNatClampNeg)) 29 10 (A_19 (44 + (0 : Int32).toNatClampNeg) x2_19.toNatClampNeg)) (up2 A_19 67 (0 : Int32).toNatClampNeg x2_19) hv.1 (Nat.lt_of_lt_of_le hv.2 (Nat.le_of_lt_succ hn19)))
  exact g_weak (ls1 := [some (.inr (some 29)), some (.inr (some (71 + 4 * (mnI (A 25 (0 : Int32).toNatClampNeg) 5).toNatClampNeg))), some (.inl 0)]) rfl (And.intro rfl (And.intro rfl (And.intro rfl trivial))) (L19 _ 0 (up2 (up2 I 29 9 2147483647) 29 10 0) A hi19 (Nat.lt_succ_self _))
theorem bX6_countCrosses_0_2 : okB cX6_countCrosses RX6 0 [(5, 0, 0, 0, 0), (3, 1, 0, 0, 0)] := And.intro ⟨_, dX6_countCrosses_0, rfl⟩ (And.intro ⟨_, dX6_countCrosses_1, rfl⟩ trivial)
theorem bX6_countCrosses_5_10 : okB cX6_countCrosses RX6 5 [(5, 0, 0, 0, 0), (23, 28, 6, 8, 0), (3, 1, 0, 0, 0)] := And.intro ⟨_, dX6_countCrosses_5, rfl⟩ (And.intro ⟨dX6_countCrosses_6, fl_X6_28⟩ (And.intro ⟨_, dX6_countCrosses_9, rfl⟩ trivial))
theorem bX6_countCrosses_11_12 : okB cX6_countCrosses RX6 11 [(3, 2, 0, 0, 0)] := And.intro ⟨_, dX6_countCrosses_11, rfl⟩ trivial
theorem bX6_countCrosses_15_19 : okB cX6_countCrosses RX6 15 [(8, 4, 0, 0, 0), (5, 0, 0, 0, 0), (3, 1, 0, 0, 0)] := And.intro dX6_countCrosses_15 (And.intro ⟨_, dX6_countCrosses_17, rfl⟩ (And.intro ⟨_, dX6_countCrosses_18, rfl⟩ trivial))
theorem bX6_countCrosses_22_27 : okB cX6_countCrosses RX6 22 [(5, 0, 0, 0, 0), (23, 28, 6, 8, 0), (3, 1, 0, 0, 0)] := And.intro ⟨_, dX6_countCrosses_22, rfl⟩ (And.intro ⟨dX6_countCrosses_23, fl_X6_28⟩ (And.intro ⟨_, dX6_countCrosses_26, rfl⟩ trivial))
theorem bX6_countCrosses_28_29 : okB cX6_countCrosses RX6 28 [(3, 3, 0, 0, 0)] := And.intro ⟨_, dX6_countCrosses_28, rfl⟩ trivial
theorem bX6_countCrosses_32_38 : okB cX6_countCrosses RX6 32 [(8, 5, 0, 0, 0), (5, 0, 0, 0, 0), (3, 1, 0, 0, 0), (0, 0, 0, 0, 1), (12, 0, 0, 0, 0)] := And.intro dX6_countCrosses_32 (And.intro ⟨_, dX6_countCrosses_34, rfl⟩ (And.intro ⟨_, dX6_countCrosses_35, rfl⟩ (And.intro ⟨_, dX6_countCrosses_36, by decide⟩ (And.intro dX6_countCrosses_37 trivial))))
theorem bX6_countCrosses_41_46 : okB cX6_countCrosses RX6 41 [(10, 6, 0, 0, 0), (0, 0, 0, 0, 0), (8, 7, 0, 0, 0)] := And.intro dX6_countCrosses_41 (And.intro ⟨_, dX6_countCrosses_43, by decide⟩ (And.intro dX6_countCrosses_44 trivial))
theorem bX6_countCrosses_46_55 : okB cX6_countCrosses RX6 46 [(4, 7, 0, 0, 0), (5, 0, 0, 0, 0), (23, 52, 6, 1, 0), (3, 1, 0, 0, 0), (0, 0, 0, 0, 1), (12, 0, 0, 0, 0)] := And.intro dX6_countCrosses_46 (And.intro ⟨_, dX6_countCrosses_48, rfl⟩ (And.intro ⟨dX6_countCrosses_49, fl_X6_52⟩ (And.intro ⟨_, dX6_countCrosses_52, rfl⟩ (And.intro ⟨_, dX6_countCrosses_53, by decide⟩ (And.intro dX6_countCrosses_54 trivial)))))
theorem bX6_countCrosses_61_67 : okB cX6_countCrosses RX6 61 [(4, 7, 0, 0, 0), (0, 0, 0, 0, 1), (12, 0, 0, 0, 0), (8, 8, 0, 0, 0)] := And.intro dX6_countCrosses_61 (And.intro ⟨_, dX6_countCrosses_63, by decide⟩ (And.intro dX6_countCrosses_64 (And.intro dX6_countCrosses_65 trivial)))
theorem bX6_countCrosses_67_76 : okB cX6_countCrosses RX6 67 [(4, 8, 0, 0, 0), (5, 0, 0, 0, 0), (23, 52, 6, 1, 0), (3, 1, 0, 0, 0), (0, 0, 0, 0, 1), (12, 0, 0, 0, 0)] := And.intro dX6_countCrosses_67 (And.intro ⟨_, dX6_countCrosses_69, rfl⟩ (And.intro ⟨dX6_countCrosses_70, fl_X6_52⟩ (And.intro ⟨_, dX6_countCrosses_73, rfl⟩ (And.intro ⟨_, dX6_countCrosses_74, by decide⟩ (And.intro dX6_countCrosses_75 trivial)))))
theorem bX6_countCrosses_169_172 : okB cX6_countCrosses RX6 169 [(11, 7, 0, 0, 1)] := And.intro ⟨_, dX6_countCrosses_169, by decide⟩ trivial
theorem bX6_countCrosses_82_91 : okB cX6_countCrosses RX6 82 [(6, 6, 0, 0, 0), (5, 0, 0, 0, 0), (23, 28, 6, 8, 0), (3, 1, 0, 0, 0), (0, 0, 0, 0, 1), (12, 0, 0, 0, 0)] := And.intro dX6_countCrosses_82 (And.intro ⟨_, dX6_countCrosses_84, rfl⟩ (And.intro ⟨dX6_countCrosses_85, fl_X6_28⟩ (And.intro ⟨_, dX6_countCrosses_88, rfl⟩ (And.intro ⟨_, dX6_countCrosses_89, by decide⟩ (And.intro dX6_countCrosses_90 trivial)))))
theorem bX6_countCrosses_92_94 : okB cX6_countCrosses RX6 92 [(4, 7, 0, 0, 0)] := And.intro dX6_countCrosses_92 trivial
theorem bX6_countCrosses_97_108 : okB cX6_countCrosses RX6 97 [(8, 9, 0, 0, 0), (6, 6, 0, 0, 0), (5, 0, 0, 0, 0), (23, 28, 6, 8, 0), (3, 1, 0, 0, 0), (0, 0, 0, 0, 1), (12, 0, 0, 0, 0)] := And.intro dX6_countCrosses_97 (And.intro dX6_countCrosses_99 (And.intro ⟨_, dX6_countCrosses_101, rfl⟩ (And.intro ⟨dX6_countCrosses_102, fl_X6_28⟩ (And.intro ⟨_, dX6_countCrosses_105, rfl⟩ (And.intro ⟨_, dX6_countCrosses_106, by decide⟩ (And.intro dX6_countCrosses_107 trivial))))))
theorem bX6_countCrosses_109_111 : okB cX6_countCrosses RX6 109 [(4, 8, 0, 0, 0)] := And.intro dX6_countCrosses_109 trivial
theorem bX6_countCrosses_114_128 : okB cX6_countCrosses RX6 114 [(8, 10, 0, 0, 0), (5, 0, 0, 0, 0), (23, 65, 6, 3, 0), (4, 4, 0, 0, 0), (4, 5, 0, 0, 0), (4, 9, 0, 0, 0), (4, 10, 0, 0, 0)] := And.intro dX6_countCrosses_114 (And.intro ⟨_, dX6_countCrosses_116, rfl⟩ (And.intro ⟨dX6_countCrosses_117, fl_X6_65⟩ (And.intro dX6_countCrosses_120 (And.intro dX6_countCrosses_122 (And.intro dX6_countCrosses_124 (And.intro dX6_countCrosses_126 trivial))))))
theorem bX6_countCrosses_131_151 : okB cX6_countCrosses RX6 131 [(8, 11, 0, 0, 0), (5, 0, 0, 0, 0), (20, 0, 0, 0, 0), (23, 39, 6, 11, 0), (4, 11, 0, 0, 0), (12, 0, 0, 0, 0), (24, 39, 6, 11, 0), (5, 0, 0, 0, 0), (20, 0, 0, 0, 0), (23, 42, 6, 12, 0), (4, 11, 0, 0, 0)] := And.intro dX6_countCrosses_131 (And.intro ⟨_, dX6_countCrosses_133, rfl⟩ (And.intro dX6_countCrosses_134 (And.intro ⟨dX6_countCrosses_135, fl_X6_39⟩ (And.intro dX6_countCrosses_138 (And.intro dX6_countCrosses_140 (And.intro ⟨dX6_countCrosses_141, fl_X6_39, rfl, rfl⟩ (And.intro ⟨_, dX6_countCrosses_144, rfl⟩ (And.intro dX6_countCrosses_145 (And.intro ⟨dX6_countCrosses_146, fl_X6_42⟩ (And.intro dX6_countCrosses_149 trivial))))))))))
theorem bX6_countCrosses_158_166 : okB cX6_countCrosses RX6 158 [(0, 0, 0, 0, 0), (12, 0, 0, 0, 0), (24, 42, 6, 12, 0), (11, 8, 0, 0, 1)] := And.intro ⟨_, dX6_countCrosses_158, by decide⟩ (And.intro dX6_countCrosses_159 (And.intro ⟨dX6_countCrosses_160, fl_X6_42, rfl, rfl⟩ (And.intro ⟨_, dX6_countCrosses_163, by decide⟩ trivial)))
theorem bX6_countCrosses_154_155 : okB cX6_countCrosses RX6 154 [(0, 0, 0, 0, 1)] := And.intro ⟨_, dX6_countCrosses_154, by decide⟩ trivial
theorem bX6_countCrosses_159_166 : okB cX6_countCrosses RX6 159 [(12, 0, 0, 0, 0), (24, 42, 6, 12, 0), (11, 8, 0, 0, 1)] := And.intro dX6_countCrosses_159 (And.intro ⟨dX6_countCrosses_160, fl_X6_42, rfl, rfl⟩ (And.intro ⟨_, dX6_countCrosses_163, by decide⟩ trivial))
set_option maxHeartbeats 4000000 in
set_option maxRecDepth 100000 in
theorem k_X6_countCrosses (l : Launch) (D : va_G) (ads : AD) (I A : HI) (a1 : Int32) (a2 : Int32) (a3 : Int32) (po : Option AV → HI → HI → Prop) (Iv46 : Int32 → HI → Prop) (mu46 : Int32 → HI → Nat) (Iv67 : Int32 → HI → Int32 → HI → Prop) (mu67 : Int32 → HI → Int32 → HI → Nat)
    (hv : ((vp_in a1 11 ∧ 0 ≤ A 25 a1.toNatClampNeg) ∧ (vp_in a1 11 ∧ ((vp_in ((A 67 a1.toNatClampNeg) * I (71 + 4 * ((mnI (A 25 a1.toNatClampNeg) 5).toNatClampNeg)) 0 + a2) (chT ((mnI (A 25 a1.toNatClampNeg) 5).toNatClampNeg))) ∧ ((vp_in a1 11 ∧ 0 ≤ A 25 a1.toNatClampNeg) ∧ (vp_in a1 11 ∧ ((vp_in ((A 67 a1.toNatClampNeg) * I (71 + 4 * ((mnI (A 25 a1.toNatClampNeg) 5).toNatClampNeg)) 0 + a3) (chT ((mnI (A 25 a1.toNatClampNeg) 5).toNatClampNeg))) ∧ ((vp_in (a1 + 1) 11 ∧ 0 ≤ A 25 (a1 + 1).toNatClampNeg) ∧ (Iv46 0 I ∧ ∀ (x7_46 : Int32) (I_46 : HI), Iv46 x7_46 I_46 → ((vp_in (a1 + 1) 11) ∧ (((A 25 (a1 + 1).toNatClampNeg) ≤ x7_46 → po none I_46 A) ∧ (¬ (A 25 (a1 + 1).toNatClampNeg) ≤ x7_46 → (Iv67 x7_46 I_46 (x7_46 + 1) I_46 ∧ ∀ (x8_67 : Int32) (I_67 : HI), Iv67 x7_46 I_46 x8_67 I_67 → ((vp_in (a1 + 1) 11) ∧ (((A 25 (a1 + 1).toNatClampNeg) ≤ x8_67 → (Iv46 (x7_46 + 1) I_67 ∧ mu46 (x7_46 + 1) I_67 < mu46 x7_46 I_46)) ∧ (¬ (A 25 (a1 + 1).toNatClampNeg) ≤ x8_67 → (vp_in (a1 + 1) 11 ∧ ((vp_in ((A 67 (a1 + 1).toNatClampNeg) * I_67 (71 + 4 * ((mnI (A 25 (a1 + 1).toNatClampNeg) 5).toNatClampNeg)) 0 + x7_46) (chT ((mnI (A 25 (a1 + 1).toNatClampNeg) 5).toNatClampNeg))) ∧ (vp_in (a1 + 1) 11 ∧ ((vp_in ((A 67 (a1 + 1).toNatClampNeg) * I_67 (71 + 4 * ((mnI (A 25 (a1 + 1).toNatClampNeg) 5).toNatClampNeg)) 0 + x8_67) (chT ((mnI (A 25 (a1 + 1).toNatClampNeg) 5).toNatClampNeg))) ∧ ((vp_in ((A (72 + 4 * ((mnI (A 25 a1.toNatClampNeg) 5).toNatClampNeg)) ((A 67 a1.toNatClampNeg) * I (71 + 4 * ((mnI (A 25 a1.toNatClampNeg) 5).toNatClampNeg)) 0 + a2).toNatClampNeg) * 5 + (A (72 + 4 * ((mnI (A 25 (a1 + 1).toNatClampNeg) 5).toNatClampNeg)) ((A 67 (a1 + 1).toNatClampNeg) * I_67 (71 + 4 * ((mnI (A 25 (a1 + 1).toNatClampNeg) 5).toNatClampNeg)) 0 + x8_67).toNatClampNeg)) 25 ∧ vp_in ((A (72 + 4 * ((mnI (A 25 a1.toNatClampNeg) 5).toNatClampNeg)) ((A 67 a1.toNatClampNeg) * I (71 + 4 * ((mnI (A 25 a1.toNatClampNeg) 5).toNatClampNeg)) 0 + a3).toNatClampNeg) * 5 + (A (72 + 4 * ((mnI (A 25 (a1 + 1).toNatClampNeg) 5).toNatClampNeg)) ((A 67 (a1 + 1).toNatClampNeg) * I_67 (71 + 4 * ((mnI (A 25 (a1 + 1).toNatClampNeg) 5).toNatClampNeg)) 0 + x7_46).toNatClampNeg)) 25) ∧ (((A 69 ((A (72 + 4 * ((mnI (A 25 a1.toNatClampNeg) 5).toNatClampNeg)) ((A 67 a1.toNatClampNeg) * I (71 + 4 * ((mnI (A 25 a1.toNatClampNeg) 5).toNatClampNeg)) 0 + a2).toNatClampNeg) * 5 + (A (72 + 4 * ((mnI (A 25 (a1 + 1).toNatClampNeg) 5).toNatClampNeg)) ((A 67 (a1 + 1).toNatClampNeg) * I_67 (71 + 4 * ((mnI (A 25 (a1 + 1).toNatClampNeg) 5).toNatClampNeg)) 0 + x8_67).toNatClampNeg)).toNatClampNeg * A 69 ((A (72 + 4 * ((mnI (A 25 a1.toNatClampNeg) 5).toNatClampNeg)) ((A 67 a1.toNatClampNeg) * I (71 + 4 * ((mnI (A 25 a1.toNatClampNeg) 5).toNatClampNeg)) 0 + a3).toNatClampNeg) * 5 + (A (72 + 4 * ((mnI (A 25 (a1 + 1).toNatClampNeg) 5).toNatClampNeg)) ((A 67 (a1 + 1).toNatClampNeg) * I_67 (71 + 4 * ((mnI (A 25 (a1 + 1).toNatClampNeg) 5).toNatClampNeg)) 0 + x7_46).toNatClampNeg)).toNatClampNeg) ≤ 0 → (Iv67 x7_46 I_46 (x8_67 + 1) (up2 (up2 I_67 29 11 ((I_67 29 11) + (A 69 ((A (72 + 4 * ((mnI (A 25 a1.toNatClampNeg) 5).toNatClampNeg)) ((A 67 a1.toNatClampNeg) * I (71 + 4 * ((mnI (A 25 a1.toNatClampNeg) 5).toNatClampNeg)) 0 + a2).toNatClampNeg) * 5 + (A (72 + 4 * ((mnI (A 25 (a1 + 1).toNatClampNeg) 5).toNatClampNeg)) ((A 67 (a1 + 1).toNatClampNeg) * I_67 (71 + 4 * ((mnI (A 25 (a1 + 1).toNatClampNeg) 5).toNatClampNeg)) 0 + x8_67).toNatClampNeg)).toNatClampNeg * A 69 ((A (72 + 4 * ((mnI (A 25 a1.toNatClampNeg) 5).toNatClampNeg)) ((A 67 a1.toNatClampNeg) * I (71 + 4 * ((mnI (A 25 a1.toNatClampNeg) 5).toNatClampNeg)) 0 + a3).toNatClampNeg) * 5 + (A (72 + 4 * ((mnI (A 25 (a1 + 1).toNatClampNeg) 5).toNatClampNeg)) ((A 67 (a1 + 1).toNatClampNeg) * I_67 (71 + 4 * ((mnI (A 25 (a1 + 1).toNatClampNeg) 5).toNatClampNeg)) 0 + x7_46).toNatClampNeg)).toNatClampNeg))) 29 12 (((up2 I_67 29 11 ((I_67 29 11) + (A 69 ((A (72 + 4 * ((mnI (A 25 a1.toNatClampNeg) 5).toNatClampNeg)) ((A 67 a1.toNatClampNeg) * I (71 + 4 * ((mnI (A 25 a1.toNatClampNeg) 5).toNatClampNeg)) 0 + a2).toNatClampNeg) * 5 + (A (72 + 4 * ((mnI (A 25 (a1 + 1).toNatClampNeg) 5).toNatClampNeg)) ((A 67 (a1 + 1).toNatClampNeg) * I_67 (71 + 4 * ((mnI (A 25 (a1 + 1).toNatClampNeg) 5).toNatClampNeg)) 0 + x8_67).toNatClampNeg)).toNatClampNeg * A 69 ((A (72 + 4 * ((mnI (A 25 a1.toNatClampNeg) 5).toNatClampNeg)) ((A 67 a1.toNatClampNeg) * I (71 + 4 * ((mnI (A 25 a1.toNatClampNeg) 5).toNatClampNeg)) 0 + a3).toNatClampNeg) * 5 + (A (72 + 4 * ((mnI (A 25 (a1 + 1).toNatClampNeg) 5).toNatClampNeg)) ((A 67 (a1 + 1).toNatClampNeg) * I_67 (71 + 4 * ((mnI (A 25 (a1 + 1).toNatClampNeg) 5).toNatClampNeg)) 0 + x7_46).toNatClampNeg)).toNatClampNeg))) 29 12) + 0)) ∧ mu67 x7_46 I_46 (x8_67 + 1) (up2 (up2 I_67 29 11 ((I_67 29 11) + (A 69 ((A (72 + 4 * ((mnI (A 25 a1.toNatClampNeg) 5).toNatClampNeg)) ((A 67 a1.toNatClampNeg) * I (71 + 4 * ((mnI (A 25 a1.toNatClampNeg) 5).toNatClampNeg)) 0 + a2).toNatClampNeg) * 5 + (A (72 + 4 * ((mnI (A 25 (a1 + 1).toNatClampNeg) 5).toNatClampNeg)) ((A 67 (a1 + 1).toNatClampNeg) * I_67 (71 + 4 * ((mnI (A 25 (a1 + 1).toNatClampNeg) 5).toNatClampNeg)) 0 + x8_67).toNatClampNeg)).toNatClampNeg * A 69 ((A (72 + 4 * ((mnI (A 25 a1.toNatClampNeg) 5).toNatClampNeg)) ((A 67 a1.toNatClampNeg) * I (71 + 4 * ((mnI (A 25 a1.toNatClampNeg) 5).toNatClampNeg)) 0 + a3).toNatClampNeg) * 5 + (A (72 + 4 * ((mnI (A 25 (a1 + 1).toNatClampNeg) 5).toNatClampNeg)) ((A 67 (a1 + 1).toNatClampNeg) * I_67 (71 + 4 * ((mnI (A 25 (a1 + 1).toNatClampNeg) 5).toNatClampNeg)) 0 + x7_46).toNatClampNeg)).toNatClampNeg))) 29 12 (((up2 I_67 29 11 ((I_67 29 11) + (A 69 ((A (72 + 4 * ((mnI (A 25 a1.toNatClampNeg) 5).toNatClampNeg)) ((A 67 a1.toNatClampNeg) * I (71 + 4 * ((mnI (A 25 a1.toNatClampNeg) 5).toNatClampNeg)) 0 + a2).toNatClampNeg) * 5 + (A (72 + 4 * ((mnI (A 25 (a1 + 1).toNatClampNeg) 5).toNatClampNeg)) ((A 67 (a1 + 1).toNatClampNeg) * I_67 (71 + 4 * ((mnI (A 25 (a1 + 1).toNatClampNeg) 5).toNatClampNeg)) 0 + x8_67).toNatClampNeg)).toNatClampNeg * A 69 ((A (72 + 4 * ((mnI (A 25 a1.toNatClampNeg) 5).toNatClampNeg)) ((A 67 a1.toNatClampNeg) * I (71 + 4 * ((mnI (A 25 a1.toNatClampNeg) 5).toNatClampNeg)) 0 + a3).toNatClampNeg) * 5 + (A (72 + 4 * ((mnI (A 25 (a1 + 1).toNatClampNeg) 5).toNatClampNeg)) ((A 67 (a1 + 1).toNatClampNeg) * I_67 (71 + 4 * ((mnI (A 25 (a1 + 1).toNatClampNeg) 5).toNatClampNeg)) 0 + x7_46).toNatClampNeg)).toNatClampNeg))) 29 12) + 0)) < mu67 x7_46 I_46 x8_67 I_67)) ∧ (¬ (A 69 ((A (72 + 4 * ((mnI (A 25 a1.toNatClampNeg) 5).toNatClampNeg)) ((A 67 a1.toNatClampNeg) * I (71 + 4 * ((mnI (A 25 a1.toNatClampNeg) 5).toNatClampNeg)) 0 + a2).toNatClampNeg) * 5 + (A (72 + 4 * ((mnI (A 25 (a1 + 1).toNatClampNeg) 5).toNatClampNeg)) ((A 67 (a1 + 1).toNatClampNeg) * I_67 (71 + 4 * ((mnI (A 25 (a1 + 1).toNatClampNeg) 5).toNatClampNeg)) 0 + x8_67).toNatClampNeg)).toNatClampNeg * A 69 ((A (72 + 4 * ((mnI (A 25 a1.toNatClampNeg) 5).toNatClampNeg)) ((A 67 a1.toNatClampNeg) * I (71 + 4 * ((mnI (A 25 a1.toNatClampNeg) 5).toNatClampNeg)) 0 + a3).toNatClampNeg) * 5 + (A (72 + 4 * ((mnI (A 25 (a1 + 1).toNatClampNeg) 5).toNatClampNeg)) ((A 67 (a1 + 1).toNatClampNeg) * I_67 (71 + 4 * ((mnI (A 25 (a1 + 1).toNatClampNeg) 5).toNatClampNeg)) 0 + x7_46).toNatClampNeg)).toNatClampNeg) ≤ 0 → (Iv67 x7_46 I_46 (x8_67 + 1) (up2 (up2 I_67 29 11 ((I_67 29 11) + (A 69 ((A (72 + 4 * ((mnI (A 25 a1.toNatClampNeg) 5).toNatClampNeg)) ((A 67 a1.toNatClampNeg) * I (71 + 4 * ((mnI (A 25 a1.toNatClampNeg) 5).toNatClampNeg)) 0 + a2).toNatClampNeg) * 5 + (A (72 + 4 * ((mnI (A 25 (a1 + 1).toNatClampNeg) 5).toNatClampNeg)) ((A 67 (a1 + 1).toNatClampNeg) * I_67 (71 + 4 * ((mnI (A 25 (a1 + 1).toNatClampNeg) 5).toNatClampNeg)) 0 + x8_67).toNatClampNeg)).toNatClampNeg * A 69 ((A (72 + 4 * ((mnI (A 25 a1.toNatClampNeg) 5).toNatClampNeg)) ((A 67 a1.toNatClampNeg) * I (71 + 4 * ((mnI (A 25 a1.toNatClampNeg) 5).toNatClampNeg)) 0 + a3).toNatClampNeg) * 5 + (A (72 + 4 * ((mnI (A 25 (a1 + 1).toNatClampNeg) 5).toNatClampNeg)) ((A 67 (a1 + 1).toNatClampNeg) * I_67 (71 + 4 * ((mnI (A 25 (a1 + 1).toNatClampNeg) 5).toNatClampNeg)) 0 + x7_46).toNatClampNeg)).toNatClampNeg))) 29 12 (((up2 I_67 29 11 ((I_67 29 11) + (A 69 ((A (72 + 4 * ((mnI (A 25 a1.toNatClampNeg) 5).toNatClampNeg)) ((A 67 a1.toNatClampNeg) * I (71 + 4 * ((mnI (A 25 a1.toNatClampNeg) 5).toNatClampNeg)) 0 + a2).toNatClampNeg) * 5 + (A (72 + 4 * ((mnI (A 25 (a1 + 1).toNatClampNeg) 5).toNatClampNeg)) ((A 67 (a1 + 1).toNatClampNeg) * I_67 (71 + 4 * ((mnI (A 25 (a1 + 1).toNatClampNeg) 5).toNatClampNeg)) 0 + x8_67).toNatClampNeg)).toNatClampNeg * A 69 ((A (72 + 4 * ((mnI (A 25 a1.toNatClampNeg) 5).toNatClampNeg)) ((A 67 a1.toNatClampNeg) * I (71 + 4 * ((mnI (A 25 a1.toNatClampNeg) 5).toNatClampNeg)) 0 + a3).toNatClampNeg) * 5 + (A (72 + 4 * ((mnI (A 25 (a1 + 1).toNatClampNeg) 5).toNatClampNeg)) ((A 67 (a1 + 1).toNatClampNeg) * I_67 (71 + 4 * ((mnI (A 25 (a1 + 1).toNatClampNeg) 5).toNatClampNeg)) 0 + x7_46).toNatClampNeg)).toNatClampNeg))) 29 12) + 1)) ∧ mu67 x7_46 I_46 (x8_67 + 1) (up2 (up2 I_67 29 11 ((I_67 29 11) + (A 69 ((A (72 + 4 * ((mnI (A 25 a1.toNatClampNeg) 5).toNatClampNeg)) ((A 67 a1.toNatClampNeg) * I (71 + 4 * ((mnI (A 25 a1.toNatClampNeg) 5).toNatClampNeg)) 0 + a2).toNatClampNeg) * 5 + (A (72 + 4 * ((mnI (A 25 (a1 + 1).toNatClampNeg) 5).toNatClampNeg)) ((A 67 (a1 + 1).toNatClampNeg) * I_67 (71 + 4 * ((mnI (A 25 (a1 + 1).toNatClampNeg) 5).toNatClampNeg)) 0 + x8_67).toNatClampNeg)).toNatClampNeg * A 69 ((A (72 + 4 * ((mnI (A 25 a1.toNatClampNeg) 5).toNatClampNeg)) ((A 67 a1.toNatClampNeg) * I (71 + 4 * ((mnI (A 25 a1.toNatClampNeg) 5).toNatClampNeg)) 0 + a3).toNatClampNeg) * 5 + (A (72 + 4 * ((mnI (A 25 (a1 + 1).toNatClampNeg) 5).toNatClampNeg)) ((A 67 (a1 + 1).toNatClampNeg) * I_67 (71 + 4 * ((mnI (A 25 (a1 + 1).toNatClampNeg) 5).toNatClampNeg)) 0 + x7_46).toNatClampNeg)).toNatClampNeg))) 29 12 (((up2 I_67 29 11 ((I_67 29 11) + (A 69 ((A (72 + 4 * ((mnI (A 25 a1.toNatClampNeg) 5).toNatClampNeg)) ((A 67 a1.toNatClampNeg) * I (71 + 4 * ((mnI (A 25 a1.toNatClampNeg) 5).toNatClampNeg)) 0 + a2).toNatClampNeg) * 5 + (A (72 + 4 * ((mnI (A 25 (a1 + 1).toNatClampNeg) 5).toNatClampNeg)) ((A 67 (a1 + 1).toNatClampNeg) * I_67 (71 + 4 * ((mnI (A 25 (a1 + 1).toNatClampNeg) 5).toNatClampNeg)) 0 + x8_67).toNatClampNeg)).toNatClampNeg * A 69 ((A (72 + 4 * ((mnI (A 25 a1.toNatClampNeg) 5).toNatClampNeg)) ((A 67 a1.toNatClampNeg) * I (71 + 4 * ((mnI (A 25 a1.toNatClampNeg) 5).toNatClampNeg)) 0 + a3).toNatClampNeg) * 5 + (A (72 + 4 * ((mnI (A 25 (a1 + 1).toNatClampNeg) 5).toNatClampNeg)) ((A 67 (a1 + 1).toNatClampNeg) * I_67 (71 + 4 * ((mnI (A 25 (a1 + 1).toNatClampNeg) 5).toNatClampNeg)) 0 + x7_46).toNatClampNeg)).toNatClampNeg))) 29 12) + 1)) < mu67 x7_46 I_46 x8_67 I_67)))))))))))))))))))))))) : Ct l yX6_countCrosses cX6_countCrosses 12 none 2 45 D ads shp [.inr (some 29), .inl a1, .inl a2, .inl a3] I A po := by
  refine Ct_of (by decide) (Nat.le_of_ble_eq_true rfl) ?_
  intro p e s m args below meth c hC hr
  replace hC : CX p s m args meth c cX6_countCrosses 12 RX6 (AdS ads s.heap.size) := hC
  show Gm p l e s m args below meth c D ads 2 45 12 po I A 0 [some (.inr (some 29)), some (.inl a1), some (.inl a2), some (.inl a3), none, none, none, none, none, none, none, none] []
  refine g_blk hC _ bX6_countCrosses_0_2 (pc' := 2) (ls' := [some (.inr (some 29)), some (.inl a1), some (.inl a2), some (.inl a3), none, none, none, none, none, none, none, none]) (st' := [.inl a1, .inr (some 29)]) (I' := I) rfl rfl ?_
  obtain ⟨hp1, hv⟩ := hv
  refine g_callV hC (c_X6_changesOf l D ads I A a1 hp1) dX6_countCrosses_2 nm_X6_changesOf rfl rfl wl_X6_96 wi_X6_changesOf ws_X6_changesOf wn_X6 wc_X6_changesOf ⟨by decide, by decide⟩ (as := [.inl a1]) (rest := []) rfl (Nat.le_of_ble_eq_true rfl) ⟨Nat.le_refl _, Nat.le_refl _⟩ (k_qR ?_)
  refine g_blk hC _ bX6_countCrosses_5_10 (pc' := 10) (ls' := [some (.inr (some 29)), some (.inl a1), some (.inl a2), some (.inl a3), none, none, none, none, none, none, none, none]) (st' := [.inl a1, .inr (some 67), .inr (some (71 + 4 * (mnI (A 25 a1.toNatClampNeg) 5).toNatClampNeg))]) (I' := I) rfl rfl ?_
  obtain ⟨hi, hv⟩ := hv
  refine g_iald hC dX6_countCrosses_10 (rfl) hi ?_
  clear hi
  refine g_blk hC _ bX6_countCrosses_11_12 (pc' := 12) (ls' := [some (.inr (some 29)), some (.inl a1), some (.inl a2), some (.inl a3), none, none, none, none, none, none, none, none]) (st' := [.inl a2, .inl (A 67 a1.toNatClampNeg), .inr (some (71 + 4 * (mnI (A 25 a1.toNatClampNeg) 5).toNatClampNeg))]) (I' := I) rfl rfl ?_
  obtain ⟨hp2, hv⟩ := hv
  obtain ⟨fs9, hs9⟩ := ch_sh (chO_lt hp1.2)
  refine g_callV hC (c_X0_thingAt l D ads I A ((mnI (A 25 a1.toNatClampNeg) 5).toNatClampNeg) (A 67 a1.toNatClampNeg) a2 (chO_lt hp1.2) hp2) dX6_countCrosses_12 nm_X0_thingAt hs9 rfl wl_X6_100 wi_X0_thingAt ws_X0_thingAt wn_X0 wc_X0_thingAt ⟨by decide, by decide⟩ (as := [.inl (A 67 a1.toNatClampNeg), .inl a2]) (rest := []) rfl (Nat.le_of_ble_eq_true rfl) ⟨Nat.le_refl _, Nat.le_refl _⟩ (k_qI ?_)
  refine g_blk hC _ bX6_countCrosses_15_19 (pc' := 19) (ls' := [some (.inr (some 29)), some (.inl a1), some (.inl a2), some (.inl a3), some (.inl (A (72 + 4 * ((mnI (A 25 a1.toNatClampNeg) 5).toNatClampNeg)) ((A 67 a1.toNatClampNeg) * I (71 + 4 * ((mnI (A 25 a1.toNatClampNeg) 5).toNatClampNeg)) 0 + a2).toNatClampNeg)), none, none, none, none, none, none, none]) (st' := [.inl a1, .inr (some 29)]) (I' := I) rfl rfl ?_
  obtain ⟨hp3, hv⟩ := hv
  refine g_callV hC (c_X6_changesOf l D ads I A a1 hp3) dX6_countCrosses_19 nm_X6_changesOf rfl rfl wl_X6_96 wi_X6_changesOf ws_X6_changesOf wn_X6 wc_X6_changesOf ⟨by decide, by decide⟩ (as := [.inl a1]) (rest := []) rfl (Nat.le_of_ble_eq_true rfl) ⟨Nat.le_refl _, Nat.le_refl _⟩ (k_qR ?_)
  refine g_blk hC _ bX6_countCrosses_22_27 (pc' := 27) (ls' := [some (.inr (some 29)), some (.inl a1), some (.inl a2), some (.inl a3), some (.inl (A (72 + 4 * ((mnI (A 25 a1.toNatClampNeg) 5).toNatClampNeg)) ((A 67 a1.toNatClampNeg) * I (71 + 4 * ((mnI (A 25 a1.toNatClampNeg) 5).toNatClampNeg)) 0 + a2).toNatClampNeg)), none, none, none, none, none, none, none]) (st' := [.inl a1, .inr (some 67), .inr (some (71 + 4 * (mnI (A 25 a1.toNatClampNeg) 5).toNatClampNeg))]) (I' := I) rfl rfl ?_
  obtain ⟨hi, hv⟩ := hv
  refine g_iald hC dX6_countCrosses_27 (rfl) hi ?_
  clear hi
  refine g_blk hC _ bX6_countCrosses_28_29 (pc' := 29) (ls' := [some (.inr (some 29)), some (.inl a1), some (.inl a2), some (.inl a3), some (.inl (A (72 + 4 * ((mnI (A 25 a1.toNatClampNeg) 5).toNatClampNeg)) ((A 67 a1.toNatClampNeg) * I (71 + 4 * ((mnI (A 25 a1.toNatClampNeg) 5).toNatClampNeg)) 0 + a2).toNatClampNeg)), none, none, none, none, none, none, none]) (st' := [.inl a3, .inl (A 67 a1.toNatClampNeg), .inr (some (71 + 4 * (mnI (A 25 a1.toNatClampNeg) 5).toNatClampNeg))]) (I' := I) rfl rfl ?_
  obtain ⟨hp4, hv⟩ := hv
  obtain ⟨fs9, hs9⟩ := ch_sh (chO_lt hp3.2)
  refine g_callV hC (c_X0_thingAt l D ads I A ((mnI (A 25 a1.toNatClampNeg) 5).toNatClampNeg) (A 67 a1.toNatClampNeg) a3 (chO_lt hp3.2) hp4) dX6_countCrosses_29 nm_X0_thingAt hs9 rfl wl_X6_100 wi_X0_thingAt ws_X0_thingAt wn_X0 wc_X0_thingAt ⟨by decide, by decide⟩ (as := [.inl (A 67 a1.toNatClampNeg), .inl a3]) (rest := []) rfl (Nat.le_of_ble_eq_true rfl) ⟨Nat.le_refl _, Nat.le_refl _⟩ (k_qI ?_)
  refine g_blk hC _ bX6_countCrosses_32_38 (pc' := 38) (ls' := [some (.inr (some 29)), some (.inl a1), some (.inl a2), some (.inl a3), some (.inl (A (72 + 4 * ((mnI (A 25 a1.toNatClampNeg) 5).toNatClampNeg)) ((A 67 a1.toNatClampNeg) * I (71 + 4 * ((mnI (A 25 a1.toNatClampNeg) 5).toNatClampNeg)) 0 + a2).toNatClampNeg)), some (.inl (A (72 + 4 * ((mnI (A 25 a1.toNatClampNeg) 5).toNatClampNeg)) ((A 67 a1.toNatClampNeg) * I (71 + 4 * ((mnI (A 25 a1.toNatClampNeg) 5).toNatClampNeg)) 0 + a3).toNatClampNeg)), none, none, none, none, none, none]) (st' := [.inl (a1 + 1), .inr (some 29)]) (I' := I) rfl rfl ?_
  obtain ⟨hp5, hv⟩ := hv
  refine g_callV hC (c_X6_changesOf l D ads I A (a1 + 1) hp5) dX6_countCrosses_38 nm_X6_changesOf rfl rfl wl_X6_96 wi_X6_changesOf ws_X6_changesOf wn_X6 wc_X6_changesOf ⟨by decide, by decide⟩ (as := [.inl (a1 + 1)]) (rest := []) rfl (Nat.le_of_ble_eq_true rfl) ⟨Nat.le_refl _, Nat.le_refl _⟩ (k_qR ?_)
  refine g_blk hC _ bX6_countCrosses_41_46 (pc' := 46) (ls' := [some (.inr (some 29)), some (.inl a1), some (.inl a2), some (.inl a3), some (.inl (A (72 + 4 * ((mnI (A 25 a1.toNatClampNeg) 5).toNatClampNeg)) ((A 67 a1.toNatClampNeg) * I (71 + 4 * ((mnI (A 25 a1.toNatClampNeg) 5).toNatClampNeg)) 0 + a2).toNatClampNeg)), some (.inl (A (72 + 4 * ((mnI (A 25 a1.toNatClampNeg) 5).toNatClampNeg)) ((A 67 a1.toNatClampNeg) * I (71 + 4 * ((mnI (A 25 a1.toNatClampNeg) 5).toNatClampNeg)) 0 + a3).toNatClampNeg)), some (.inr (some (71 + 4 * (mnI (A 25 (a1 + 1).toNatClampNeg) 5).toNatClampNeg))), some (.inl 0), none, none, none, none]) (st' := []) (I' := I) rfl rfl ?_
  obtain ⟨hi46, hb46⟩ := hv
  have L46 : ∀ (n : Nat) (x7_46 : Int32) (I_46 : HI), Iv46 x7_46 I_46 → mu46 x7_46 I_46 < n → Gm p l e s m args below meth c D ads 2 45 12 po I_46 A 46 [some (.inr (some 29)), some (.inl a1), none, none, some (.inl (A (72 + 4 * ((mnI (A 25 a1.toNatClampNeg) 5).toNatClampNeg)) ((A 67 a1.toNatClampNeg) * I (71 + 4 * ((mnI (A 25 a1.toNatClampNeg) 5).toNatClampNeg)) 0 + a2).toNatClampNeg)), some (.inl (A (72 + 4 * ((mnI (A 25 a1.toNatClampNeg) 5).toNatClampNeg)) ((A 67 a1.toNatClampNeg) * I (71 + 4 * ((mnI (A 25 a1.toNatClampNeg) 5).toNatClampNeg)) 0 + a3).toNatClampNeg)), some (.inr (some (71 + 4 * (mnI (A 25 (a1 + 1).toNatClampNeg) 5).toNatClampNeg))), some (.inl x7_46), none, none, none, none] [] := by
    intro n
    induction n with
    | zero => intro x7_46 I_46 _ hn; exact absurd hn (Nat.not_lt_zero _)
    | succ n ih46 =>
      intro x7_46 I_46 hv hn46
      replace hv := hb46 x7_46 I_46 hv
      skip
      refine g_blk hC _ bX6_countCrosses_46_55 (pc' := 55) (ls' := [some (.inr (some 29)), some (.inl a1), none, none, some (.inl (A (72 + 4 * ((mnI (A 25 a1.toNatClampNeg) 5).toNatClampNeg)) ((A 67 a1.toNatClampNeg) * I (71 + 4 * ((mnI (A 25 a1.toNatClampNeg) 5).toNatClampNeg)) 0 + a2).toNatClampNeg)), some (.inl (A (72 + 4 * ((mnI (A 25 a1.toNatClampNeg) 5).toNatClampNeg)) ((A 67 a1.toNatClampNeg) * I (71 + 4 * ((mnI (A 25 a1.toNatClampNeg) 5).toNatClampNeg)) 0 + a3).toNatClampNeg)), some (.inr (some (71 + 4 * (mnI (A 25 (a1 + 1).toNatClampNeg) 5).toNatClampNeg))), some (.inl x7_46), none, none, none, none]) (st' := [.inl (a1 + 1), .inr (some 13), .inl x7_46]) (I' := I_46) rfl rfl ?_
      obtain ⟨hp6, hv⟩ := hv
      refine g_callV hC (c_X7_countIn l D ads I_46 A (a1 + 1) hp6) dX6_countCrosses_55 nm_X7_countIn rfl rfl wl_X6_90 wi_X7_countIn ws_X7_countIn wn_X7 wc_X7_countIn ⟨by decide, by decide⟩ (as := [.inl (a1 + 1)]) (rest := [.inl x7_46]) rfl (Nat.le_of_ble_eq_true rfl) ⟨Nat.le_refl _, Nat.le_refl _⟩ (k_qI ?_)
      obtain ⟨hv1, hv2⟩ := hv
      refine g_cge hC dX6_countCrosses_58 (tgt := 175) (by decide) (fun hc => ?_) (fun hc => ?_)
      · have hv := hv1 hc
        clear hv1 hv2 hc
        exact g_retv hC hr dX6_countCrosses_175 hv
      · have hv := hv2 hc
        clear hv1 hv2 hc
        refine g_blk hC _ bX6_countCrosses_61_67 (pc' := 67) (ls' := [some (.inr (some 29)), some (.inl a1), none, none, some (.inl (A (72 + 4 * ((mnI (A 25 a1.toNatClampNeg) 5).toNatClampNeg)) ((A 67 a1.toNatClampNeg) * I (71 + 4 * ((mnI (A 25 a1.toNatClampNeg) 5).toNatClampNeg)) 0 + a2).toNatClampNeg)), some (.inl (A (72 + 4 * ((mnI (A 25 a1.toNatClampNeg) 5).toNatClampNeg)) ((A 67 a1.toNatClampNeg) * I (71 + 4 * ((mnI (A 25 a1.toNatClampNeg) 5).toNatClampNeg)) 0 + a3).toNatClampNeg)), some (.inr (some (71 + 4 * (mnI (A 25 (a1 + 1).toNatClampNeg) 5).toNatClampNeg))), some (.inl x7_46), some (.inl (x7_46 + 1)), none, none, none]) (st' := []) (I' := I_46) rfl rfl ?_
        obtain ⟨hi67, hb67⟩ := hv
        have L67 : ∀ (n : Nat) (x8_67 : Int32) (I_67 : HI), Iv67 x7_46 I_46 x8_67 I_67 → mu67 x7_46 I_46 x8_67 I_67 < n → Gm p l e s m args below meth c D ads 2 45 12 po I_67 A 67 [some (.inr (some 29)), some (.inl a1), none, none, some (.inl (A (72 + 4 * ((mnI (A 25 a1.toNatClampNeg) 5).toNatClampNeg)) ((A 67 a1.toNatClampNeg) * I (71 + 4 * ((mnI (A 25 a1.toNatClampNeg) 5).toNatClampNeg)) 0 + a2).toNatClampNeg)), some (.inl (A (72 + 4 * ((mnI (A 25 a1.toNatClampNeg) 5).toNatClampNeg)) ((A 67 a1.toNatClampNeg) * I (71 + 4 * ((mnI (A 25 a1.toNatClampNeg) 5).toNatClampNeg)) 0 + a3).toNatClampNeg)), some (.inr (some (71 + 4 * (mnI (A 25 (a1 + 1).toNatClampNeg) 5).toNatClampNeg))), some (.inl x7_46), some (.inl x8_67), none, none, none] [] := by
          intro n
          induction n with
          | zero => intro x8_67 I_67 _ hn; exact absurd hn (Nat.not_lt_zero _)
          | succ n ih67 =>
            intro x8_67 I_67 hv hn67
            replace hv := hb67 x8_67 I_67 hv
            skip
            refine g_blk hC _ bX6_countCrosses_67_76 (pc' := 76) (ls' := [some (.inr (some 29)), some (.inl a1), none, none, some (.inl (A (72 + 4 * ((mnI (A 25 a1.toNatClampNeg) 5).toNatClampNeg)) ((A 67 a1.toNatClampNeg) * I (71 + 4 * ((mnI (A 25 a1.toNatClampNeg) 5).toNatClampNeg)) 0 + a2).toNatClampNeg)), some (.inl (A (72 + 4 * ((mnI (A 25 a1.toNatClampNeg) 5).toNatClampNeg)) ((A 67 a1.toNatClampNeg) * I (71 + 4 * ((mnI (A 25 a1.toNatClampNeg) 5).toNatClampNeg)) 0 + a3).toNatClampNeg)), some (.inr (some (71 + 4 * (mnI (A 25 (a1 + 1).toNatClampNeg) 5).toNatClampNeg))), some (.inl x7_46), some (.inl x8_67), none, none, none]) (st' := [.inl (a1 + 1), .inr (some 13), .inl x8_67]) (I' := I_67) rfl rfl ?_
            obtain ⟨hp7, hv⟩ := hv
            refine g_callV hC (c_X7_countIn l D ads I_67 A (a1 + 1) hp7) dX6_countCrosses_76 nm_X7_countIn rfl rfl wl_X6_90 wi_X7_countIn ws_X7_countIn wn_X7 wc_X7_countIn ⟨by decide, by decide⟩ (as := [.inl (a1 + 1)]) (rest := [.inl x8_67]) rfl (Nat.le_of_ble_eq_true rfl) ⟨Nat.le_refl _, Nat.le_refl _⟩ (k_qI ?_)
            obtain ⟨hv1, hv2⟩ := hv
            refine g_cge hC dX6_countCrosses_79 (tgt := 169) (by decide) (fun hc => ?_) (fun hc => ?_)
            · have hv := hv1 hc
              clear hv1 hv2 hc
              refine g_blk hC _ bX6_countCrosses_169_172 (pc' := 172) (ls' := [some (.inr (some 29)), some (.inl a1), none, none, some (.inl (A (72 + 4 * ((mnI (A 25 a1.toNatClampNeg) 5).toNatClampNeg)) ((A 67 a1.toNatClampNeg) * I (71 + 4 * ((mnI (A 25 a1.toNatClampNeg) 5).toNatClampNeg)) 0 + a2).toNatClampNeg)), some (.inl (A (72 + 4 * ((mnI (A 25 a1.toNatClampNeg) 5).toNatClampNeg)) ((A 67 a1.toNatClampNeg) * I (71 + 4 * ((mnI (A 25 a1.toNatClampNeg) 5).toNatClampNeg)) 0 + a3).toNatClampNeg)), some (.inr (some (71 + 4 * (mnI (A 25 (a1 + 1).toNatClampNeg) 5).toNatClampNeg))), some (.inl (x7_46 + 1)), some (.inl x8_67), none, none, none]) (st' := []) (I' := I_67) rfl rfl ?_
              refine g_goto hC dX6_countCrosses_172 (tgt := 46) (by decide) ?_
              exact g_weak (ls1 := [some (.inr (some 29)), some (.inl a1), none, none, some (.inl (A (72 + 4 * ((mnI (A 25 a1.toNatClampNeg) 5).toNatClampNeg)) ((A 67 a1.toNatClampNeg) * I (71 + 4 * ((mnI (A 25 a1.toNatClampNeg) 5).toNatClampNeg)) 0 + a2).toNatClampNeg)), some (.inl (A (72 + 4 * ((mnI (A 25 a1.toNatClampNeg) 5).toNatClampNeg)) ((A 67 a1.toNatClampNeg) * I (71 + 4 * ((mnI (A 25 a1.toNatClampNeg) 5).toNatClampNeg)) 0 + a3).toNatClampNeg)), some (.inr (some (71 + 4 * (mnI (A 25 (a1 + 1).toNatClampNeg) 5).toNatClampNeg))), some (.inl (x7_46 + 1)), none, none, none, none]) rfl (And.intro rfl (And.intro rfl (And.intro rfl (And.intro rfl (And.intro rfl (And.intro rfl trivial)))))) (ih46 (x7_46 + 1) I_67 hv.1 (Nat.lt_of_lt_of_le hv.2 (Nat.le_of_lt_succ hn46)))
            · have hv := hv2 hc
              clear hv1 hv2 hc
              refine g_blk hC _ bX6_countCrosses_82_91 (pc' := 91) (ls' := [some (.inr (some 29)), some (.inl a1), none, none, some (.inl (A (72 + 4 * ((mnI (A 25 a1.toNatClampNeg) 5).toNatClampNeg)) ((A 67 a1.toNatClampNeg) * I (71 + 4 * ((mnI (A 25 a1.toNatClampNeg) 5).toNatClampNeg)) 0 + a2).toNatClampNeg)), some (.inl (A (72 + 4 * ((mnI (A 25 a1.toNatClampNeg) 5).toNatClampNeg)) ((A 67 a1.toNatClampNeg) * I (71 + 4 * ((mnI (A 25 a1.toNatClampNeg) 5).toNatClampNeg)) 0 + a3).toNatClampNeg)), some (.inr (some (71 + 4 * (mnI (A 25 (a1 + 1).toNatClampNeg) 5).toNatClampNeg))), some (.inl x7_46), some (.inl x8_67), none, none, none]) (st' := [.inl (a1 + 1), .inr (some 67), .inr (some (71 + 4 * (mnI (A 25 (a1 + 1).toNatClampNeg) 5).toNatClampNeg))]) (I' := I_67) rfl rfl ?_
              obtain ⟨hi, hv⟩ := hv
              refine g_iald hC dX6_countCrosses_91 (rfl) hi ?_
              clear hi
              refine g_blk hC _ bX6_countCrosses_92_94 (pc' := 94) (ls' := [some (.inr (some 29)), some (.inl a1), none, none, some (.inl (A (72 + 4 * ((mnI (A 25 a1.toNatClampNeg) 5).toNatClampNeg)) ((A 67 a1.toNatClampNeg) * I (71 + 4 * ((mnI (A 25 a1.toNatClampNeg) 5).toNatClampNeg)) 0 + a2).toNatClampNeg)), some (.inl (A (72 + 4 * ((mnI (A 25 a1.toNatClampNeg) 5).toNatClampNeg)) ((A 67 a1.toNatClampNeg) * I (71 + 4 * ((mnI (A 25 a1.toNatClampNeg) 5).toNatClampNeg)) 0 + a3).toNatClampNeg)), some (.inr (some (71 + 4 * (mnI (A 25 (a1 + 1).toNatClampNeg) 5).toNatClampNeg))), some (.inl x7_46), some (.inl x8_67), none, none, none]) (st' := [.inl x7_46, .inl (A 67 (a1 + 1).toNatClampNeg), .inr (some (71 + 4 * (mnI (A 25 (a1 + 1).toNatClampNeg) 5).toNatClampNeg))]) (I' := I_67) rfl rfl ?_
              obtain ⟨hp8, hv⟩ := hv
              obtain ⟨fs9, hs9⟩ := ch_sh (chO_lt hp5.2)
              refine g_callV hC (c_X0_thingAt l D ads I_67 A ((mnI (A 25 (a1 + 1).toNatClampNeg) 5).toNatClampNeg) (A 67 (a1 + 1).toNatClampNeg) x7_46 (chO_lt hp5.2) hp8) dX6_countCrosses_94 nm_X0_thingAt hs9 rfl wl_X6_100 wi_X0_thingAt ws_X0_thingAt wn_X0 wc_X0_thingAt ⟨by decide, by decide⟩ (as := [.inl (A 67 (a1 + 1).toNatClampNeg), .inl x7_46]) (rest := []) rfl (Nat.le_of_ble_eq_true rfl) ⟨Nat.le_refl _, Nat.le_refl _⟩ (k_qI ?_)
              refine g_blk hC _ bX6_countCrosses_97_108 (pc' := 108) (ls' := [some (.inr (some 29)), some (.inl a1), none, none, some (.inl (A (72 + 4 * ((mnI (A 25 a1.toNatClampNeg) 5).toNatClampNeg)) ((A 67 a1.toNatClampNeg) * I (71 + 4 * ((mnI (A 25 a1.toNatClampNeg) 5).toNatClampNeg)) 0 + a2).toNatClampNeg)), some (.inl (A (72 + 4 * ((mnI (A 25 a1.toNatClampNeg) 5).toNatClampNeg)) ((A 67 a1.toNatClampNeg) * I (71 + 4 * ((mnI (A 25 a1.toNatClampNeg) 5).toNatClampNeg)) 0 + a3).toNatClampNeg)), some (.inr (some (71 + 4 * (mnI (A 25 (a1 + 1).toNatClampNeg) 5).toNatClampNeg))), some (.inl x7_46), some (.inl x8_67), some (.inl (A (72 + 4 * ((mnI (A 25 (a1 + 1).toNatClampNeg) 5).toNatClampNeg)) ((A 67 (a1 + 1).toNatClampNeg) * I_67 (71 + 4 * ((mnI (A 25 (a1 + 1).toNatClampNeg) 5).toNatClampNeg)) 0 + x7_46).toNatClampNeg)), none, none]) (st' := [.inl (a1 + 1), .inr (some 67), .inr (some (71 + 4 * (mnI (A 25 (a1 + 1).toNatClampNeg) 5).toNatClampNeg))]) (I' := I_67) rfl rfl ?_
              obtain ⟨hi, hv⟩ := hv
              refine g_iald hC dX6_countCrosses_108 (rfl) hi ?_
              clear hi
              refine g_blk hC _ bX6_countCrosses_109_111 (pc' := 111) (ls' := [some (.inr (some 29)), some (.inl a1), none, none, some (.inl (A (72 + 4 * ((mnI (A 25 a1.toNatClampNeg) 5).toNatClampNeg)) ((A 67 a1.toNatClampNeg) * I (71 + 4 * ((mnI (A 25 a1.toNatClampNeg) 5).toNatClampNeg)) 0 + a2).toNatClampNeg)), some (.inl (A (72 + 4 * ((mnI (A 25 a1.toNatClampNeg) 5).toNatClampNeg)) ((A 67 a1.toNatClampNeg) * I (71 + 4 * ((mnI (A 25 a1.toNatClampNeg) 5).toNatClampNeg)) 0 + a3).toNatClampNeg)), some (.inr (some (71 + 4 * (mnI (A 25 (a1 + 1).toNatClampNeg) 5).toNatClampNeg))), some (.inl x7_46), some (.inl x8_67), some (.inl (A (72 + 4 * ((mnI (A 25 (a1 + 1).toNatClampNeg) 5).toNatClampNeg)) ((A 67 (a1 + 1).toNatClampNeg) * I_67 (71 + 4 * ((mnI (A 25 (a1 + 1).toNatClampNeg) 5).toNatClampNeg)) 0 + x7_46).toNatClampNeg)), none, none]) (st' := [.inl x8_67, .inl (A 67 (a1 + 1).toNatClampNeg), .inr (some (71 + 4 * (mnI (A 25 (a1 + 1).toNatClampNeg) 5).toNatClampNeg))]) (I' := I_67) rfl rfl ?_
              obtain ⟨hp9, hv⟩ := hv
              obtain ⟨fs9, hs9⟩ := ch_sh (chO_lt hp5.2)
              refine g_callV hC (c_X0_thingAt l D ads I_67 A ((mnI (A 25 (a1 + 1).toNatClampNeg) 5).toNatClampNeg) (A 67 (a1 + 1).toNatClampNeg) x8_67 (chO_lt hp5.2) hp9) dX6_countCrosses_111 nm_X0_thingAt hs9 rfl wl_X6_100 wi_X0_thingAt ws_X0_thingAt wn_X0 wc_X0_thingAt ⟨by decide, by decide⟩ (as := [.inl (A 67 (a1 + 1).toNatClampNeg), .inl x8_67]) (rest := []) rfl (Nat.le_of_ble_eq_true rfl) ⟨Nat.le_refl _, Nat.le_refl _⟩ (k_qI ?_)
              refine g_blk hC _ bX6_countCrosses_114_128 (pc' := 128) (ls' := [some (.inr (some 29)), some (.inl a1), none, none, some (.inl (A (72 + 4 * ((mnI (A 25 a1.toNatClampNeg) 5).toNatClampNeg)) ((A 67 a1.toNatClampNeg) * I (71 + 4 * ((mnI (A 25 a1.toNatClampNeg) 5).toNatClampNeg)) 0 + a2).toNatClampNeg)), some (.inl (A (72 + 4 * ((mnI (A 25 a1.toNatClampNeg) 5).toNatClampNeg)) ((A 67 a1.toNatClampNeg) * I (71 + 4 * ((mnI (A 25 a1.toNatClampNeg) 5).toNatClampNeg)) 0 + a3).toNatClampNeg)), some (.inr (some (71 + 4 * (mnI (A 25 (a1 + 1).toNatClampNeg) 5).toNatClampNeg))), some (.inl x7_46), some (.inl x8_67), some (.inl (A (72 + 4 * ((mnI (A 25 (a1 + 1).toNatClampNeg) 5).toNatClampNeg)) ((A 67 (a1 + 1).toNatClampNeg) * I_67 (71 + 4 * ((mnI (A 25 (a1 + 1).toNatClampNeg) 5).toNatClampNeg)) 0 + x7_46).toNatClampNeg)), some (.inl (A (72 + 4 * ((mnI (A 25 (a1 + 1).toNatClampNeg) 5).toNatClampNeg)) ((A 67 (a1 + 1).toNatClampNeg) * I_67 (71 + 4 * ((mnI (A 25 (a1 + 1).toNatClampNeg) 5).toNatClampNeg)) 0 + x8_67).toNatClampNeg)), none]) (st' := [.inl (A (72 + 4 * ((mnI (A 25 (a1 + 1).toNatClampNeg) 5).toNatClampNeg)) ((A 67 (a1 + 1).toNatClampNeg) * I_67 (71 + 4 * ((mnI (A 25 (a1 + 1).toNatClampNeg) 5).toNatClampNeg)) 0 + x8_67).toNatClampNeg), .inl (A (72 + 4 * ((mnI (A 25 (a1 + 1).toNatClampNeg) 5).toNatClampNeg)) ((A 67 (a1 + 1).toNatClampNeg) * I_67 (71 + 4 * ((mnI (A 25 (a1 + 1).toNatClampNeg) 5).toNatClampNeg)) 0 + x7_46).toNatClampNeg), .inl (A (72 + 4 * ((mnI (A 25 a1.toNatClampNeg) 5).toNatClampNeg)) ((A 67 a1.toNatClampNeg) * I (71 + 4 * ((mnI (A 25 a1.toNatClampNeg) 5).toNatClampNeg)) 0 + a3).toNatClampNeg), .inl (A (72 + 4 * ((mnI (A 25 a1.toNatClampNeg) 5).toNatClampNeg)) ((A 67 a1.toNatClampNeg) * I (71 + 4 * ((mnI (A 25 a1.toNatClampNeg) 5).toNatClampNeg)) 0 + a2).toNatClampNeg), .inr (some 68)]) (I' := I_67) rfl rfl ?_
              obtain ⟨hp10, hv⟩ := hv
              refine g_callV hC (c_X3_crossing l D ads I_67 A (A (72 + 4 * ((mnI (A 25 a1.toNatClampNeg) 5).toNatClampNeg)) ((A 67 a1.toNatClampNeg) * I (71 + 4 * ((mnI (A 25 a1.toNatClampNeg) 5).toNatClampNeg)) 0 + a2).toNatClampNeg) (A (72 + 4 * ((mnI (A 25 a1.toNatClampNeg) 5).toNatClampNeg)) ((A 67 a1.toNatClampNeg) * I (71 + 4 * ((mnI (A 25 a1.toNatClampNeg) 5).toNatClampNeg)) 0 + a3).toNatClampNeg) (A (72 + 4 * ((mnI (A 25 (a1 + 1).toNatClampNeg) 5).toNatClampNeg)) ((A 67 (a1 + 1).toNatClampNeg) * I_67 (71 + 4 * ((mnI (A 25 (a1 + 1).toNatClampNeg) 5).toNatClampNeg)) 0 + x7_46).toNatClampNeg) (A (72 + 4 * ((mnI (A 25 (a1 + 1).toNatClampNeg) 5).toNatClampNeg)) ((A 67 (a1 + 1).toNatClampNeg) * I_67 (71 + 4 * ((mnI (A 25 (a1 + 1).toNatClampNeg) 5).toNatClampNeg)) 0 + x8_67).toNatClampNeg) hp10) dX6_countCrosses_128 nm_X3_crossing rfl rfl wl_X6_162 wi_X3_crossing ws_X3_crossing wn_X3 wc_X3_crossing ⟨by decide, by decide⟩ (as := [.inl (A (72 + 4 * ((mnI (A 25 a1.toNatClampNeg) 5).toNatClampNeg)) ((A 67 a1.toNatClampNeg) * I (71 + 4 * ((mnI (A 25 a1.toNatClampNeg) 5).toNatClampNeg)) 0 + a2).toNatClampNeg), .inl (A (72 + 4 * ((mnI (A 25 a1.toNatClampNeg) 5).toNatClampNeg)) ((A 67 a1.toNatClampNeg) * I (71 + 4 * ((mnI (A 25 a1.toNatClampNeg) 5).toNatClampNeg)) 0 + a3).toNatClampNeg), .inl (A (72 + 4 * ((mnI (A 25 (a1 + 1).toNatClampNeg) 5).toNatClampNeg)) ((A 67 (a1 + 1).toNatClampNeg) * I_67 (71 + 4 * ((mnI (A 25 (a1 + 1).toNatClampNeg) 5).toNatClampNeg)) 0 + x7_46).toNatClampNeg), .inl (A (72 + 4 * ((mnI (A 25 (a1 + 1).toNatClampNeg) 5).toNatClampNeg)) ((A 67 (a1 + 1).toNatClampNeg) * I_67 (71 + 4 * ((mnI (A 25 (a1 + 1).toNatClampNeg) 5).toNatClampNeg)) 0 + x8_67).toNatClampNeg)]) (rest := []) rfl (Nat.le_of_ble_eq_true rfl) ⟨Nat.le_refl _, Nat.le_refl _⟩ (k_qI ?_)
              refine g_blk hC _ bX6_countCrosses_131_151 (pc' := 151) (ls' := [some (.inr (some 29)), some (.inl a1), none, none, some (.inl (A (72 + 4 * ((mnI (A 25 a1.toNatClampNeg) 5).toNatClampNeg)) ((A 67 a1.toNatClampNeg) * I (71 + 4 * ((mnI (A 25 a1.toNatClampNeg) 5).toNatClampNeg)) 0 + a2).toNatClampNeg)), some (.inl (A (72 + 4 * ((mnI (A 25 a1.toNatClampNeg) 5).toNatClampNeg)) ((A 67 a1.toNatClampNeg) * I (71 + 4 * ((mnI (A 25 a1.toNatClampNeg) 5).toNatClampNeg)) 0 + a3).toNatClampNeg)), some (.inr (some (71 + 4 * (mnI (A 25 (a1 + 1).toNatClampNeg) 5).toNatClampNeg))), some (.inl x7_46), some (.inl x8_67), some (.inl (A (72 + 4 * ((mnI (A 25 (a1 + 1).toNatClampNeg) 5).toNatClampNeg)) ((A 67 (a1 + 1).toNatClampNeg) * I_67 (71 + 4 * ((mnI (A 25 (a1 + 1).toNatClampNeg) 5).toNatClampNeg)) 0 + x7_46).toNatClampNeg)), some (.inl (A (72 + 4 * ((mnI (A 25 (a1 + 1).toNatClampNeg) 5).toNatClampNeg)) ((A 67 (a1 + 1).toNatClampNeg) * I_67 (71 + 4 * ((mnI (A 25 (a1 + 1).toNatClampNeg) 5).toNatClampNeg)) 0 + x8_67).toNatClampNeg)), some (.inl (A 69 ((A (72 + 4 * ((mnI (A 25 a1.toNatClampNeg) 5).toNatClampNeg)) ((A 67 a1.toNatClampNeg) * I (71 + 4 * ((mnI (A 25 a1.toNatClampNeg) 5).toNatClampNeg)) 0 + a2).toNatClampNeg) * 5 + (A (72 + 4 * ((mnI (A 25 (a1 + 1).toNatClampNeg) 5).toNatClampNeg)) ((A 67 (a1 + 1).toNatClampNeg) * I_67 (71 + 4 * ((mnI (A 25 (a1 + 1).toNatClampNeg) 5).toNatClampNeg)) 0 + x8_67).toNatClampNeg)).toNatClampNeg * A 69 ((A (72 + 4 * ((mnI (A 25 a1.toNatClampNeg) 5).toNatClampNeg)) ((A 67 a1.toNatClampNeg) * I (71 + 4 * ((mnI (A 25 a1.toNatClampNeg) 5).toNatClampNeg)) 0 + a3).toNatClampNeg) * 5 + (A (72 + 4 * ((mnI (A 25 (a1 + 1).toNatClampNeg) 5).toNatClampNeg)) ((A 67 (a1 + 1).toNatClampNeg) * I_67 (71 + 4 * ((mnI (A 25 (a1 + 1).toNatClampNeg) 5).toNatClampNeg)) 0 + x7_46).toNatClampNeg)).toNatClampNeg))]) (st' := [.inl (A 69 ((A (72 + 4 * ((mnI (A 25 a1.toNatClampNeg) 5).toNatClampNeg)) ((A 67 a1.toNatClampNeg) * I (71 + 4 * ((mnI (A 25 a1.toNatClampNeg) 5).toNatClampNeg)) 0 + a2).toNatClampNeg) * 5 + (A (72 + 4 * ((mnI (A 25 (a1 + 1).toNatClampNeg) 5).toNatClampNeg)) ((A 67 (a1 + 1).toNatClampNeg) * I_67 (71 + 4 * ((mnI (A 25 (a1 + 1).toNatClampNeg) 5).toNatClampNeg)) 0 + x8_67).toNatClampNeg)).toNatClampNeg * A 69 ((A (72 + 4 * ((mnI (A 25 a1.toNatClampNeg) 5).toNatClampNeg)) ((A 67 a1.toNatClampNeg) * I (71 + 4 * ((mnI (A 25 a1.toNatClampNeg) 5).toNatClampNeg)) 0 + a3).toNatClampNeg) * 5 + (A (72 + 4 * ((mnI (A 25 (a1 + 1).toNatClampNeg) 5).toNatClampNeg)) ((A 67 (a1 + 1).toNatClampNeg) * I_67 (71 + 4 * ((mnI (A 25 (a1 + 1).toNatClampNeg) 5).toNatClampNeg)) 0 + x7_46).toNatClampNeg)).toNatClampNeg), .inl ((up2 I_67 29 11 ((I_67 29 11) + (A 69 ((A (72 + 4 * ((mnI (A 25 a1.toNatClampNeg) 5).toNatClampNeg)) ((A 67 a1.toNatClampNeg) * I (71 + 4 * ((mnI (A 25 a1.toNatClampNeg) 5).toNatClampNeg)) 0 + a2).toNatClampNeg) * 5 + (A (72 + 4 * ((mnI (A 25 (a1 + 1).toNatClampNeg) 5).toNatClampNeg)) ((A 67 (a1 + 1).toNatClampNeg) * I_67 (71 + 4 * ((mnI (A 25 (a1 + 1).toNatClampNeg) 5).toNatClampNeg)) 0 + x8_67).toNatClampNeg)).toNatClampNeg * A 69 ((A (72 + 4 * ((mnI (A 25 a1.toNatClampNeg) 5).toNatClampNeg)) ((A 67 a1.toNatClampNeg) * I (71 + 4 * ((mnI (A 25 a1.toNatClampNeg) 5).toNatClampNeg)) 0 + a3).toNatClampNeg) * 5 + (A (72 + 4 * ((mnI (A 25 (a1 + 1).toNatClampNeg) 5).toNatClampNeg)) ((A 67 (a1 + 1).toNatClampNeg) * I_67 (71 + 4 * ((mnI (A 25 (a1 + 1).toNatClampNeg) 5).toNatClampNeg)) 0 + x7_46).toNatClampNeg)).toNatClampNeg))) 29 12), .inr (some 29)]) (I' := up2 I_67 29 11 ((I_67 29 11) + (A 69 ((A (72 + 4 * ((mnI (A 25 a1.toNatClampNeg) 5).toNatClampNeg)) ((A 67 a1.toNatClampNeg) * I (71 + 4 * ((mnI (A 25 a1.toNatClampNeg) 5).toNatClampNeg)) 0 + a2).toNatClampNeg) * 5 + (A (72 + 4 * ((mnI (A 25 (a1 + 1).toNatClampNeg) 5).toNatClampNeg)) ((A 67 (a1 + 1).toNatClampNeg) * I_67 (71 + 4 * ((mnI (A 25 (a1 + 1).toNatClampNeg) 5).toNatClampNeg)) 0 + x8_67).toNatClampNeg)).toNatClampNeg * A 69 ((A (72 + 4 * ((mnI (A 25 a1.toNatClampNeg) 5).toNatClampNeg)) ((A 67 a1.toNatClampNeg) * I (71 + 4 * ((mnI (A 25 a1.toNatClampNeg) 5).toNatClampNeg)) 0 + a3).toNatClampNeg) * 5 + (A (72 + 4 * ((mnI (A 25 (a1 + 1).toNatClampNeg) 5).toNatClampNeg)) ((A 67 (a1 + 1).toNatClampNeg) * I_67 (71 + 4 * ((mnI (A 25 (a1 + 1).toNatClampNeg) 5).toNatClampNeg)) 0 + x7_46).toNatClampNeg)).toNatClampNeg))) rfl rfl ?_
              obtain ⟨hv1, hv2⟩ := hv
              refine g_ifle hC dX6_countCrosses_151 (tgt := 158) (by decide) (fun hc => ?_) (fun hc => ?_)
              · have hv := hv1 hc
                clear hv1 hv2 hc
                refine g_blk hC _ bX6_countCrosses_158_166 (pc' := 166) (ls' := [some (.inr (some 29)), some (.inl a1), none, none, some (.inl (A (72 + 4 * ((mnI (A 25 a1.toNatClampNeg) 5).toNatClampNeg)) ((A 67 a1.toNatClampNeg) * I (71 + 4 * ((mnI (A 25 a1.toNatClampNeg) 5).toNatClampNeg)) 0 + a2).toNatClampNeg)), some (.inl (A (72 + 4 * ((mnI (A 25 a1.toNatClampNeg) 5).toNatClampNeg)) ((A 67 a1.toNatClampNeg) * I (71 + 4 * ((mnI (A 25 a1.toNatClampNeg) 5).toNatClampNeg)) 0 + a3).toNatClampNeg)), some (.inr (some (71 + 4 * (mnI (A 25 (a1 + 1).toNatClampNeg) 5).toNatClampNeg))), some (.inl x7_46), some (.inl (x8_67 + 1)), some (.inl (A (72 + 4 * ((mnI (A 25 (a1 + 1).toNatClampNeg) 5).toNatClampNeg)) ((A 67 (a1 + 1).toNatClampNeg) * I_67 (71 + 4 * ((mnI (A 25 (a1 + 1).toNatClampNeg) 5).toNatClampNeg)) 0 + x7_46).toNatClampNeg)), some (.inl (A (72 + 4 * ((mnI (A 25 (a1 + 1).toNatClampNeg) 5).toNatClampNeg)) ((A 67 (a1 + 1).toNatClampNeg) * I_67 (71 + 4 * ((mnI (A 25 (a1 + 1).toNatClampNeg) 5).toNatClampNeg)) 0 + x8_67).toNatClampNeg)), some (.inl (A 69 ((A (72 + 4 * ((mnI (A 25 a1.toNatClampNeg) 5).toNatClampNeg)) ((A 67 a1.toNatClampNeg) * I (71 + 4 * ((mnI (A 25 a1.toNatClampNeg) 5).toNatClampNeg)) 0 + a2).toNatClampNeg) * 5 + (A (72 + 4 * ((mnI (A 25 (a1 + 1).toNatClampNeg) 5).toNatClampNeg)) ((A 67 (a1 + 1).toNatClampNeg) * I_67 (71 + 4 * ((mnI (A 25 (a1 + 1).toNatClampNeg) 5).toNatClampNeg)) 0 + x8_67).toNatClampNeg)).toNatClampNeg * A 69 ((A (72 + 4 * ((mnI (A 25 a1.toNatClampNeg) 5).toNatClampNeg)) ((A 67 a1.toNatClampNeg) * I (71 + 4 * ((mnI (A 25 a1.toNatClampNeg) 5).toNatClampNeg)) 0 + a3).toNatClampNeg) * 5 + (A (72 + 4 * ((mnI (A 25 (a1 + 1).toNatClampNeg) 5).toNatClampNeg)) ((A 67 (a1 + 1).toNatClampNeg) * I_67 (71 + 4 * ((mnI (A 25 (a1 + 1).toNatClampNeg) 5).toNatClampNeg)) 0 + x7_46).toNatClampNeg)).toNatClampNeg))]) (st' := []) (I' := up2 (up2 I_67 29 11 ((I_67 29 11) + (A 69 ((A (72 + 4 * ((mnI (A 25 a1.toNatClampNeg) 5).toNatClampNeg)) ((A 67 a1.toNatClampNeg) * I (71 + 4 * ((mnI (A 25 a1.toNatClampNeg) 5).toNatClampNeg)) 0 + a2).toNatClampNeg) * 5 + (A (72 + 4 * ((mnI (A 25 (a1 + 1).toNatClampNeg) 5).toNatClampNeg)) ((A 67 (a1 + 1).toNatClampNeg) * I_67 (71 + 4 * ((mnI (A 25 (a1 + 1).toNatClampNeg) 5).toNatClampNeg)) 0 + x8_67).toNatClampNeg)).toNatClampNeg * A 69 ((A (72 + 4 * ((mnI (A 25 a1.toNatClampNeg) 5).toNatClampNeg)) ((A 67 a1.toNatClampNeg) * I (71 + 4 * ((mnI (A 25 a1.toNatClampNeg) 5).toNatClampNeg)) 0 + a3).toNatClampNeg) * 5 + (A (72 + 4 * ((mnI (A 25 (a1 + 1).toNatClampNeg) 5).toNatClampNeg)) ((A 67 (a1 + 1).toNatClampNeg) * I_67 (71 + 4 * ((mnI (A 25 (a1 + 1).toNatClampNeg) 5).toNatClampNeg)) 0 + x7_46).toNatClampNeg)).toNatClampNeg))) 29 12 (((up2 I_67 29 11 ((I_67 29 11) + (A 69 ((A (72 + 4 * ((mnI (A 25 a1.toNatClampNeg) 5).toNatClampNeg)) ((A 67 a1.toNatClampNeg) * I (71 + 4 * ((mnI (A 25 a1.toNatClampNeg) 5).toNatClampNeg)) 0 + a2).toNatClampNeg) * 5 + (A (72 + 4 * ((mnI (A 25 (a1 + 1).toNatClampNeg) 5).toNatClampNeg)) ((A 67 (a1 + 1).toNatClampNeg) * I_67 (71 + 4 * ((mnI (A 25 (a1 + 1).toNatClampNeg) 5).toNatClampNeg)) 0 + x8_67).toNatClampNeg)).toNatClampNeg * A 69 ((A (72 + 4 * ((mnI (A 25 a1.toNatClampNeg) 5).toNatClampNeg)) ((A 67 a1.toNatClampNeg) * I (71 + 4 * ((mnI (A 25 a1.toNatClampNeg) 5).toNatClampNeg)) 0 + a3).toNatClampNeg) * 5 + (A (72 + 4 * ((mnI (A 25 (a1 + 1).toNatClampNeg) 5).toNatClampNeg)) ((A 67 (a1 + 1).toNatClampNeg) * I_67 (71 + 4 * ((mnI (A 25 (a1 + 1).toNatClampNeg) 5).toNatClampNeg)) 0 + x7_46).toNatClampNeg)).toNatClampNeg))) 29 12) + 0)) rfl rfl ?_
                refine g_goto hC dX6_countCrosses_166 (tgt := 67) (by decide) ?_
                exact g_weak (ls1 := [some (.inr (some 29)), some (.inl a1), none, none, some (.inl (A (72 + 4 * ((mnI (A 25 a1.toNatClampNeg) 5).toNatClampNeg)) ((A 67 a1.toNatClampNeg) * I (71 + 4 * ((mnI (A 25 a1.toNatClampNeg) 5).toNatClampNeg)) 0 + a2).toNatClampNeg)), some (.inl (A (72 + 4 * ((mnI (A 25 a1.toNatClampNeg) 5).toNatClampNeg)) ((A 67 a1.toNatClampNeg) * I (71 + 4 * ((mnI (A 25 a1.toNatClampNeg) 5).toNatClampNeg)) 0 + a3).toNatClampNeg)), some (.inr (some (71 + 4 * (mnI (A 25 (a1 + 1).toNatClampNeg) 5).toNatClampNeg))), some (.inl x7_46), some (.inl (x8_67 + 1)), none, none, none]) rfl (And.intro rfl (And.intro rfl (And.intro rfl (And.intro rfl (And.intro rfl (And.intro rfl (And.intro rfl trivial))))))) (ih67 (x8_67 + 1) (up2 (up2 I_67 29 11 ((I_67 29 11) + (A 69 ((A (72 + 4 * ((mnI (A 25 a1.toNatClampNeg) 5).toNatClampNeg)) ((A 67 a1.toNatClampNeg) * I (71 + 4 * ((mnI (A 25 a1.toNatClampNeg) 5).toNatClampNeg)) 0 + a2).toNatClampNeg) * 5 + (A (72 + 4 * ((mnI (A 25 (a1 + 1).toNatClampNeg) 5).toNatClampNeg)) ((A 67 (a1 + 1).toNatClampNeg) * I_67 (71 + 4 * ((mnI (A 25 (a1 + 1).toNatClampNeg) 5).toNatClampNeg)) 0 + x8_67).toNatClampNeg)).toNatClampNeg * A 69 ((A (72 + 4 * ((mnI (A 25 a1.toNatClampNeg) 5).toNatClampNeg)) ((A 67 a1.toNatClampNeg) * I (71 + 4 * ((mnI (A 25 a1.toNatClampNeg) 5).toNatClampNeg)) 0 + a3).toNatClampNeg) * 5 + (A (72 + 4 * ((mnI (A 25 (a1 + 1).toNatClampNeg) 5).toNatClampNeg)) ((A 67 (a1 + 1).toNatClampNeg) * I_67 (71 + 4 * ((mnI (A 25 (a1 + 1).toNatClampNeg) 5).toNatClampNeg)) 0 + x7_46).toNatClampNeg)).toNatClampNeg))) 29 12 (((up2 I_67 29 11 ((I_67 29 11) + (A 69 ((A (72 + 4 * ((mnI (A 25 a1.toNatClampNeg) 5).toNatClampNeg)) ((A 67 a1.toNatClampNeg) * I (71 + 4 * ((mnI (A 25 a1.toNatClampNeg) 5).toNatClampNeg)) 0 + a2).toNatClampNeg) * 5 + (A (72 + 4 * ((mnI (A 25 (a1 + 1).toNatClampNeg) 5).toNatClampNeg)) ((A 67 (a1 + 1).toNatClampNeg) * I_67 (71 + 4 * ((mnI (A 25 (a1 + 1).toNatClampNeg) 5).toNatClampNeg)) 0 + x8_67).toNatClampNeg)).toNatClampNeg * A 69 ((A (72 + 4 * ((mnI (A 25 a1.toNatClampNeg) 5).toNatClampNeg)) ((A 67 a1.toNatClampNeg) * I (71 + 4 * ((mnI (A 25 a1.toNatClampNeg) 5).toNatClampNeg)) 0 + a3).toNatClampNeg) * 5 + (A (72 + 4 * ((mnI (A 25 (a1 + 1).toNatClampNeg) 5).toNatClampNeg)) ((A 67 (a1 + 1).toNatClampNeg) * I_67 (71 + 4 * ((mnI (A 25 (a1 + 1).toNatClampNeg) 5).toNatClampNeg)) 0 + x7_46).toNatClampNeg)).toNatClampNeg))) 29 12) + 0)) hv.1 (Nat.lt_of_lt_of_le hv.2 (Nat.le_of_lt_succ hn67)))
              · have hv := hv2 hc
                clear hv1 hv2 hc
                refine g_blk hC _ bX6_countCrosses_154_155 (pc' := 155) (ls' := [some (.inr (some 29)), some (.inl a1), none, none, some (.inl (A (72 + 4 * ((mnI (A 25 a1.toNatClampNeg) 5).toNatClampNeg)) ((A 67 a1.toNatClampNeg) * I (71 + 4 * ((mnI (A 25 a1.toNatClampNeg) 5).toNatClampNeg)) 0 + a2).toNatClampNeg)), some (.inl (A (72 + 4 * ((mnI (A 25 a1.toNatClampNeg) 5).toNatClampNeg)) ((A 67 a1.toNatClampNeg) * I (71 + 4 * ((mnI (A 25 a1.toNatClampNeg) 5).toNatClampNeg)) 0 + a3).toNatClampNeg)), some (.inr (some (71 + 4 * (mnI (A 25 (a1 + 1).toNatClampNeg) 5).toNatClampNeg))), some (.inl x7_46), some (.inl x8_67), some (.inl (A (72 + 4 * ((mnI (A 25 (a1 + 1).toNatClampNeg) 5).toNatClampNeg)) ((A 67 (a1 + 1).toNatClampNeg) * I_67 (71 + 4 * ((mnI (A 25 (a1 + 1).toNatClampNeg) 5).toNatClampNeg)) 0 + x7_46).toNatClampNeg)), some (.inl (A (72 + 4 * ((mnI (A 25 (a1 + 1).toNatClampNeg) 5).toNatClampNeg)) ((A 67 (a1 + 1).toNatClampNeg) * I_67 (71 + 4 * ((mnI (A 25 (a1 + 1).toNatClampNeg) 5).toNatClampNeg)) 0 + x8_67).toNatClampNeg)), some (.inl (A 69 ((A (72 + 4 * ((mnI (A 25 a1.toNatClampNeg) 5).toNatClampNeg)) ((A 67 a1.toNatClampNeg) * I (71 + 4 * ((mnI (A 25 a1.toNatClampNeg) 5).toNatClampNeg)) 0 + a2).toNatClampNeg) * 5 + (A (72 + 4 * ((mnI (A 25 (a1 + 1).toNatClampNeg) 5).toNatClampNeg)) ((A 67 (a1 + 1).toNatClampNeg) * I_67 (71 + 4 * ((mnI (A 25 (a1 + 1).toNatClampNeg) 5).toNatClampNeg)) 0 + x8_67).toNatClampNeg)).toNatClampNeg * A 69 ((A (72 + 4 * ((mnI (A 25 a1.toNatClampNeg) 5).toNatClampNeg)) ((A 67 a1.toNatClampNeg) * I (71 + 4 * ((mnI (A 25 a1.toNatClampNeg) 5).toNatClampNeg)) 0 + a3).toNatClampNeg) * 5 + (A (72 + 4 * ((mnI (A 25 (a1 + 1).toNatClampNeg) 5).toNatClampNeg)) ((A 67 (a1 + 1).toNatClampNeg) * I_67 (71 + 4 * ((mnI (A 25 (a1 + 1).toNatClampNeg) 5).toNatClampNeg)) 0 + x7_46).toNatClampNeg)).toNatClampNeg))]) (st' := [.inl 1, .inl ((up2 I_67 29 11 ((I_67 29 11) + (A 69 ((A (72 + 4 * ((mnI (A 25 a1.toNatClampNeg) 5).toNatClampNeg)) ((A 67 a1.toNatClampNeg) * I (71 + 4 * ((mnI (A 25 a1.toNatClampNeg) 5).toNatClampNeg)) 0 + a2).toNatClampNeg) * 5 + (A (72 + 4 * ((mnI (A 25 (a1 + 1).toNatClampNeg) 5).toNatClampNeg)) ((A 67 (a1 + 1).toNatClampNeg) * I_67 (71 + 4 * ((mnI (A 25 (a1 + 1).toNatClampNeg) 5).toNatClampNeg)) 0 + x8_67).toNatClampNeg)).toNatClampNeg * A 69 ((A (72 + 4 * ((mnI (A 25 a1.toNatClampNeg) 5).toNatClampNeg)) ((A 67 a1.toNatClampNeg) * I (71 + 4 * ((mnI (A 25 a1.toNatClampNeg) 5).toNatClampNeg)) 0 + a3).toNatClampNeg) * 5 + (A (72 + 4 * ((mnI (A 25 (a1 + 1).toNatClampNeg) 5).toNatClampNeg)) ((A 67 (a1 + 1).toNatClampNeg) * I_67 (71 + 4 * ((mnI (A 25 (a1 + 1).toNatClampNeg) 5).toNatClampNeg)) 0 + x7_46).toNatClampNeg)).toNatClampNeg))) 29 12), .inr (some 29)]) (I' := up2 I_67 29 11 ((I_67 29 11) + (A 69 ((A (72 + 4 * ((mnI (A 25 a1.toNatClampNeg) 5).toNatClampNeg)) ((A 67 a1.toNatClampNeg) * I (71 + 4 * ((mnI (A 25 a1.toNatClampNeg) 5).toNatClampNeg)) 0 + a2).toNatClampNeg) * 5 + (A (72 + 4 * ((mnI (A 25 (a1 + 1).toNatClampNeg) 5).toNatClampNeg)) ((A 67 (a1 + 1).toNatClampNeg) * I_67 (71 + 4 * ((mnI (A 25 (a1 + 1).toNatClampNeg) 5).toNatClampNeg)) 0 + x8_67).toNatClampNeg)).toNatClampNeg * A 69 ((A (72 + 4 * ((mnI (A 25 a1.toNatClampNeg) 5).toNatClampNeg)) ((A 67 a1.toNatClampNeg) * I (71 + 4 * ((mnI (A 25 a1.toNatClampNeg) 5).toNatClampNeg)) 0 + a3).toNatClampNeg) * 5 + (A (72 + 4 * ((mnI (A 25 (a1 + 1).toNatClampNeg) 5).toNatClampNeg)) ((A 67 (a1 + 1).toNatClampNeg) * I_67 (71 + 4 * ((mnI (A 25 (a1 + 1).toNatClampNeg) 5).toNatClampNeg)) 0 + x7_46).toNatClampNeg)).toNatClampNeg))) rfl rfl ?_
                refine g_goto hC dX6_countCrosses_155 (tgt := 159) (by decide) ?_
                refine g_blk hC _ bX6_countCrosses_159_166 (pc' := 166) (ls' := [some (.inr (some 29)), some (.inl a1), none, none, some (.inl (A (72 + 4 * ((mnI (A 25 a1.toNatClampNeg) 5).toNatClampNeg)) ((A 67 a1.toNatClampNeg) * I (71 + 4 * ((mnI (A 25 a1.toNatClampNeg) 5).toNatClampNeg)) 0 + a2).toNatClampNeg)), some (.inl (A (72 + 4 * ((mnI (A 25 a1.toNatClampNeg) 5).toNatClampNeg)) ((A 67 a1.toNatClampNeg) * I (71 + 4 * ((mnI (A 25 a1.toNatClampNeg) 5).toNatClampNeg)) 0 + a3).toNatClampNeg)), some (.inr (some (71 + 4 * (mnI (A 25 (a1 + 1).toNatClampNeg) 5).toNatClampNeg))), some (.inl x7_46), some (.inl (x8_67 + 1)), some (.inl (A (72 + 4 * ((mnI (A 25 (a1 + 1).toNatClampNeg) 5).toNatClampNeg)) ((A 67 (a1 + 1).toNatClampNeg) * I_67 (71 + 4 * ((mnI (A 25 (a1 + 1).toNatClampNeg) 5).toNatClampNeg)) 0 + x7_46).toNatClampNeg)), some (.inl (A (72 + 4 * ((mnI (A 25 (a1 + 1).toNatClampNeg) 5).toNatClampNeg)) ((A 67 (a1 + 1).toNatClampNeg) * I_67 (71 + 4 * ((mnI (A 25 (a1 + 1).toNatClampNeg) 5).toNatClampNeg)) 0 + x8_67).toNatClampNeg)), some (.inl (A 69 ((A (72 + 4 * ((mnI (A 25 a1.toNatClampNeg) 5).toNatClampNeg)) ((A 67 a1.toNatClampNeg) * I (71 + 4 * ((mnI (A 25 a1.toNatClampNeg) 5).toNatClampNeg)) 0 + a2).toNatClampNeg) * 5 + (A (72 + 4 * ((mnI (A 25 (a1 + 1).toNatClampNeg) 5).toNatClampNeg)) ((A 67 (a1 + 1).toNatClampNeg) * I_67 (71 + 4 * ((mnI (A 25 (a1 + 1).toNatClampNeg) 5).toNatClampNeg)) 0 + x8_67).toNatClampNeg)).toNatClampNeg * A 69 ((A (72 + 4 * ((mnI (A 25 a1.toNatClampNeg) 5).toNatClampNeg)) ((A 67 a1.toNatClampNeg) * I (71 + 4 * ((mnI (A 25 a1.toNatClampNeg) 5).toNatClampNeg)) 0 + a3).toNatClampNeg) * 5 + (A (72 + 4 * ((mnI (A 25 (a1 + 1).toNatClampNeg) 5).toNatClampNeg)) ((A 67 (a1 + 1).toNatClampNeg) * I_67 (71 + 4 * ((mnI (A 25 (a1 + 1).toNatClampNeg) 5).toNatClampNeg)) 0 + x7_46).toNatClampNeg)).toNatClampNeg))]) (st' := []) (I' := up2 (up2 I_67 29 11 ((I_67 29 11) + (A 69 ((A (72 + 4 * ((mnI (A 25 a1.toNatClampNeg) 5).toNatClampNeg)) ((A 67 a1.toNatClampNeg) * I (71 + 4 * ((mnI (A 25 a1.toNatClampNeg) 5).toNatClampNeg)) 0 + a2).toNatClampNeg) * 5 + (A (72 + 4 * ((mnI (A 25 (a1 + 1).toNatClampNeg) 5).toNatClampNeg)) ((A 67 (a1 + 1).toNatClampNeg) * I_67 (71 + 4 * ((mnI (A 25 (a1 + 1).toNatClampNeg) 5).toNatClampNeg)) 0 + x8_67).toNatClampNeg)).toNatClampNeg * A 69 ((A (72 + 4 * ((mnI (A 25 a1.toNatClampNeg) 5).toNatClampNeg)) ((A 67 a1.toNatClampNeg) * I (71 + 4 * ((mnI (A 25 a1.toNatClampNeg) 5).toNatClampNeg)) 0 + a3).toNatClampNeg) * 5 + (A (72 + 4 * ((mnI (A 25 (a1 + 1).toNatClampNeg) 5).toNatClampNeg)) ((A 67 (a1 + 1).toNatClampNeg) * I_67 (71 + 4 * ((mnI (A 25 (a1 + 1).toNatClampNeg) 5).toNatClampNeg)) 0 + x7_46).toNatClampNeg)).toNatClampNeg))) 29 12 (((up2 I_67 29 11 ((I_67 29 11) + (A 69 ((A (72 + 4 * ((mnI (A 25 a1.toNatClampNeg) 5).toNatClampNeg)) ((A 67 a1.toNatClampNeg) * I (71 + 4 * ((mnI (A 25 a1.toNatClampNeg) 5).toNatClampNeg)) 0 + a2).toNatClampNeg) * 5 + (A (72 + 4 * ((mnI (A 25 (a1 + 1).toNatClampNeg) 5).toNatClampNeg)) ((A 67 (a1 + 1).toNatClampNeg) * I_67 (71 + 4 * ((mnI (A 25 (a1 + 1).toNatClampNeg) 5).toNatClampNeg)) 0 + x8_67).toNatClampNeg)).toNatClampNeg * A 69 ((A (72 + 4 * ((mnI (A 25 a1.toNatClampNeg) 5).toNatClampNeg)) ((A 67 a1.toNatClampNeg) * I (71 + 4 * ((mnI (A 25 a1.toNatClampNeg) 5).toNatClampNeg)) 0 + a3).toNatClampNeg) * 5 + (A (72 + 4 * ((mnI (A 25 (a1 + 1).toNatClampNeg) 5).toNatClampNeg)) ((A 67 (a1 + 1).toNatClampNeg) * I_67 (71 + 4 * ((mnI (A 25 (a1 + 1).toNatClampNeg) 5).toNatClampNeg)) 0 + x7_46).toNatClampNeg)).toNatClampNeg))) 29 12) + 1)) rfl rfl ?_
                refine g_goto hC dX6_countCrosses_166 (tgt := 67) (by decide) ?_
                exact g_weak (ls1 := [some (.inr (some 29)), some (.inl a1), none, none, some (.inl (A (72 + 4 * ((mnI (A 25 a1.toNatClampNeg) 5).toNatClampNeg)) ((A 67 a1.toNatClampNeg) * I (71 + 4 * ((mnI (A 25 a1.toNatClampNeg) 5).toNatClampNeg)) 0 + a2).toNatClampNeg)), some (.inl (A (72 + 4 * ((mnI (A 25 a1.toNatClampNeg) 5).toNatClampNeg)) ((A 67 a1.toNatClampNeg) * I (71 + 4 * ((mnI (A 25 a1.toNatClampNeg) 5).toNatClampNeg)) 0 + a3).toNatClampNeg)), some (.inr (some (71 + 4 * (mnI (A 25 (a1 + 1).toNatClampNeg) 5).toNatClampNeg))), some (.inl x7_46), some (.inl (x8_67 + 1)), none, none, none]) rfl (And.intro rfl (And.intro rfl (And.intro rfl (And.intro rfl (And.intro rfl (And.intro rfl (And.intro rfl trivial))))))) (ih67 (x8_67 + 1) (up2 (up2 I_67 29 11 ((I_67 29 11) + (A 69 ((A (72 + 4 * ((mnI (A 25 a1.toNatClampNeg) 5).toNatClampNeg)) ((A 67 a1.toNatClampNeg) * I (71 + 4 * ((mnI (A 25 a1.toNatClampNeg) 5).toNatClampNeg)) 0 + a2).toNatClampNeg) * 5 + (A (72 + 4 * ((mnI (A 25 (a1 + 1).toNatClampNeg) 5).toNatClampNeg)) ((A 67 (a1 + 1).toNatClampNeg) * I_67 (71 + 4 * ((mnI (A 25 (a1 + 1).toNatClampNeg) 5).toNatClampNeg)) 0 + x8_67).toNatClampNeg)).toNatClampNeg * A 69 ((A (72 + 4 * ((mnI (A 25 a1.toNatClampNeg) 5).toNatClampNeg)) ((A 67 a1.toNatClampNeg) * I (71 + 4 * ((mnI (A 25 a1.toNatClampNeg) 5).toNatClampNeg)) 0 + a3).toNatClampNeg) * 5 + (A (72 + 4 * ((mnI (A 25 (a1 + 1).toNatClampNeg) 5).toNatClampNeg)) ((A 67 (a1 + 1).toNatClampNeg) * I_67 (71 + 4 * ((mnI (A 25 (a1 + 1).toNatClampNeg) 5).toNatClampNeg)) 0 + x7_46).toNatClampNeg)).toNatClampNeg))) 29 12 (((up2 I_67 29 11 ((I_67 29 11) + (A 69 ((A (72 + 4 * ((mnI (A 25 a1.toNatClampNeg) 5).toNatClampNeg)) ((A 67 a1.toNatClampNeg) * I (71 + 4 * ((mnI (A 25 a1.toNatClampNeg) 5).toNatClampNeg)) 0 + a2).toNatClampNeg) * 5 + (A (72 + 4 * ((mnI (A 25 (a1 + 1).toNatClampNeg) 5).toNatClampNeg)) ((A 67 (a1 + 1).toNatClampNeg) * I_67 (71 + 4 * ((mnI (A 25 (a1 + 1).toNatClampNeg) 5).toNatClampNeg)) 0 + x8_67).toNatClampNeg)).toNatClampNeg * A 69 ((A (72 + 4 * ((mnI (A 25 a1.toNatClampNeg) 5).toNatClampNeg)) ((A 67 a1.toNatClampNeg) * I (71 + 4 * ((mnI (A 25 a1.toNatClampNeg) 5).toNatClampNeg)) 0 + a3).toNatClampNeg) * 5 + (A (72 + 4 * ((mnI (A 25 (a1 + 1).toNatClampNeg) 5).toNatClampNeg)) ((A 67 (a1 + 1).toNatClampNeg) * I_67 (71 + 4 * ((mnI (A 25 (a1 + 1).toNatClampNeg) 5).toNatClampNeg)) 0 + x7_46).toNatClampNeg)).toNatClampNeg))) 29 12) + 1)) hv.1 (Nat.lt_of_lt_of_le hv.2 (Nat.le_of_lt_succ hn67)))
        exact g_weak (ls1 := [some (.inr (some 29)), some (.inl a1), none, none, some (.inl (A (72 + 4 * ((mnI (A 25 a1.toNatClampNeg) 5).toNatClampNeg)) ((A 67 a1.toNatClampNeg) * I (71 + 4 * ((mnI (A 25 a1.toNatClampNeg) 5).toNatClampNeg)) 0 + a2).toNatClampNeg)), some (.inl (A (72 + 4 * ((mnI (A 25 a1.toNatClampNeg) 5).toNatClampNeg)) ((A 67 a1.toNatClampNeg) * I (71 + 4 * ((mnI (A 25 a1.toNatClampNeg) 5).toNatClampNeg)) 0 + a3).toNatClampNeg)), some (.inr (some (71 + 4 * (mnI (A 25 (a1 + 1).toNatClampNeg) 5).toNatClampNeg))), some (.inl x7_46), some (.inl (x7_46 + 1)), none, none, none]) rfl (And.intro rfl (And.intro rfl (And.intro rfl (And.intro rfl (And.intro rfl (And.intro rfl (And.intro rfl trivial))))))) (L67 _ (x7_46 + 1) I_46 hi67 (Nat.lt_succ_self _))
  exact g_weak (ls1 := [some (.inr (some 29)), some (.inl a1), none, none, some (.inl (A (72 + 4 * ((mnI (A 25 a1.toNatClampNeg) 5).toNatClampNeg)) ((A 67 a1.toNatClampNeg) * I (71 + 4 * ((mnI (A 25 a1.toNatClampNeg) 5).toNatClampNeg)) 0 + a2).toNatClampNeg)), some (.inl (A (72 + 4 * ((mnI (A 25 a1.toNatClampNeg) 5).toNatClampNeg)) ((A 67 a1.toNatClampNeg) * I (71 + 4 * ((mnI (A 25 a1.toNatClampNeg) 5).toNatClampNeg)) 0 + a3).toNatClampNeg)), some (.inr (some (71 + 4 * (mnI (A 25 (a1 + 1).toNatClampNeg) 5).toNatClampNeg))), some (.inl 0), none, none, none, none]) rfl (And.intro rfl (And.intro rfl (And.intro rfl (And.intro rfl (And.intro rfl (And.intro rfl trivial)))))) (L46 _ 0 I hi46 (Nat.lt_succ_self _))
theorem bX6_countParts_0_17 : okB cX6_countParts RX6 0 [(5, 0, 0, 0, 0), (0, 0, 0, 0, 0), (24, 39, 6, 11, 0), (5, 0, 0, 0, 0), (0, 0, 0, 0, 0), (24, 42, 6, 12, 0), (5, 0, 0, 0, 0), (0, 0, 0, 0, 0), (24, 45, 6, 13, 0), (0, 0, 0, 0, 0), (7, 2, 0, 0, 0)] := And.intro ⟨_, dX6_countParts_0, rfl⟩ (And.intro ⟨_, dX6_countParts_1, by decide⟩ (And.intro ⟨dX6_countParts_2, fl_X6_39, rfl, rfl⟩ (And.intro ⟨_, dX6_countParts_5, rfl⟩ (And.intro ⟨_, dX6_countParts_6, by decide⟩ (And.intro ⟨dX6_countParts_7, fl_X6_42, rfl, rfl⟩ (And.intro ⟨_, dX6_countParts_10, rfl⟩ (And.intro ⟨_, dX6_countParts_11, by decide⟩ (And.intro ⟨dX6_countParts_12, fl_X6_45, rfl, rfl⟩ (And.intro ⟨_, dX6_countParts_15, by decide⟩ (And.intro ⟨_, dX6_countParts_16, rfl⟩ trivial))))))))))
theorem bX6_countParts_17_19 : okB cX6_countParts RX6 17 [(3, 2, 0, 0, 0), (3, 1, 0, 0, 0)] := And.intro ⟨_, dX6_countParts_17, rfl⟩ (And.intro ⟨_, dX6_countParts_18, rfl⟩ trivial)
theorem bX6_countParts_22_27 : okB cX6_countParts RX6 22 [(5, 0, 0, 0, 0), (23, 65, 6, 3, 0), (3, 2, 0, 0, 0)] := And.intro ⟨_, dX6_countParts_22, rfl⟩ (And.intro ⟨dX6_countParts_23, fl_X6_65⟩ (And.intro ⟨_, dX6_countParts_26, rfl⟩ trivial))
theorem bX6_countParts_30_32 : okB cX6_countParts RX6 30 [(0, 0, 0, 0, 0), (7, 3, 0, 0, 0)] := And.intro ⟨_, dX6_countParts_30, by decide⟩ (And.intro ⟨_, dX6_countParts_31, rfl⟩ trivial)
theorem bX6_countParts_32_38 : okB cX6_countParts RX6 32 [(3, 3, 0, 0, 0), (5, 0, 0, 0, 0), (23, 52, 6, 1, 0), (3, 2, 0, 0, 0)] := And.intro ⟨_, dX6_countParts_32, rfl⟩ (And.intro ⟨_, dX6_countParts_33, rfl⟩ (And.intro ⟨dX6_countParts_34, fl_X6_52⟩ (And.intro ⟨_, dX6_countParts_37, rfl⟩ trivial)))
theorem bX6_countParts_111_114 : okB cX6_countParts RX6 111 [(11, 2, 0, 0, 1)] := And.intro ⟨_, dX6_countParts_111, by decide⟩ trivial
theorem bX6_countParts_44_49 : okB cX6_countParts RX6 44 [(3, 3, 0, 0, 0), (0, 0, 0, 0, 1), (12, 0, 0, 0, 0), (8, 4, 0, 0, 0)] := And.intro ⟨_, dX6_countParts_44, rfl⟩ (And.intro ⟨_, dX6_countParts_45, by decide⟩ (And.intro dX6_countParts_46 (And.intro dX6_countParts_47 trivial)))
theorem bX6_countParts_49_56 : okB cX6_countParts RX6 49 [(4, 4, 0, 0, 0), (5, 0, 0, 0, 0), (23, 52, 6, 1, 0), (3, 2, 0, 0, 0)] := And.intro dX6_countParts_49 (And.intro ⟨_, dX6_countParts_51, rfl⟩ (And.intro ⟨dX6_countParts_52, fl_X6_52⟩ (And.intro ⟨_, dX6_countParts_55, rfl⟩ trivial)))
theorem bX6_countParts_105_108 : okB cX6_countParts RX6 105 [(11, 3, 0, 0, 1)] := And.intro ⟨_, dX6_countParts_105, by decide⟩ trivial
theorem bX6_countParts_62_74 : okB cX6_countParts RX6 62 [(5, 0, 0, 0, 0), (20, 0, 0, 0, 0), (23, 45, 6, 13, 0), (5, 0, 0, 0, 0), (23, 56, 6, 2, 0), (5, 0, 0, 0, 0), (3, 2, 0, 0, 0), (3, 3, 0, 0, 0)] := And.intro ⟨_, dX6_countParts_62, rfl⟩ (And.intro dX6_countParts_63 (And.intro ⟨dX6_countParts_64, fl_X6_45⟩ (And.intro ⟨_, dX6_countParts_67, rfl⟩ (And.intro ⟨dX6_countParts_68, fl_X6_56⟩ (And.intro ⟨_, dX6_countParts_71, rfl⟩ (And.intro ⟨_, dX6_countParts_72, rfl⟩ (And.intro ⟨_, dX6_countParts_73, rfl⟩ trivial)))))))
theorem bX6_countParts_77_81 : okB cX6_countParts RX6 77 [(5, 0, 0, 0, 0), (3, 2, 0, 0, 0), (4, 4, 0, 0, 0)] := And.intro ⟨_, dX6_countParts_77, rfl⟩ (And.intro ⟨_, dX6_countParts_78, rfl⟩ (And.intro dX6_countParts_79 trivial))
theorem bX6_countParts_87_96 : okB cX6_countParts RX6 87 [(12, 0, 0, 0, 0), (24, 45, 6, 13, 0), (5, 0, 0, 0, 0), (3, 2, 0, 0, 0), (3, 3, 0, 0, 0), (4, 4, 0, 0, 0)] := And.intro dX6_countParts_87 (And.intro ⟨dX6_countParts_88, fl_X6_45, rfl, rfl⟩ (And.intro ⟨_, dX6_countParts_91, rfl⟩ (And.intro ⟨_, dX6_countParts_92, rfl⟩ (And.intro ⟨_, dX6_countParts_93, rfl⟩ (And.intro dX6_countParts_94 trivial)))))
theorem bX6_countParts_99_102 : okB cX6_countParts RX6 99 [(11, 4, 0, 0, 1)] := And.intro ⟨_, dX6_countParts_99, by decide⟩ trivial
set_option maxHeartbeats 4000000 in
set_option maxRecDepth 100000 in
theorem k_X6_countParts (l : Launch) (D : va_G) (ads : AD) (I A : HI) (a1 : Int32) (po : Option AV → HI → HI → Prop) {pp_X3_gatherLinks : HI → HI → Int32 → Prop} {qq_X3_gatherLinks : HI → HI → Int32 → HI → HI → Prop} (hh_X3_gatherLinks : ∀ (I A : HI) (a1 : Int32), pp_X3_gatherLinks I A a1 → Ct l yX3_gatherLinks cX3_gatherLinks 6 none 2 44 D ads shp [.inr (some 68), .inl a1] I A (qV (qq_X3_gatherLinks I A a1))) {pp_X6_shownAt : HI → HI → Int32 → Int32 → Prop} {ff_X6_shownAt : HI → HI → Int32 → Int32 → Int32} (hh_X6_shownAt : ∀ (I A : HI) (a1 : Int32) (a2 : Int32), pp_X6_shownAt I A a1 a2 → Ct l yX6_shownAt cX6_shownAt 3 (some .int) 2 42 D ads shp [.inr (some 29), .inl a1, .inl a2] I A (qI (ff_X6_shownAt I A a1 a2) I A)) {pp_X6_countCrosses : HI → HI → Int32 → Int32 → Int32 → Prop} {qq_X6_countCrosses : HI → HI → Int32 → Int32 → Int32 → HI → HI → Prop} (hh_X6_countCrosses : ∀ (I A : HI) (a1 : Int32) (a2 : Int32) (a3 : Int32), pp_X6_countCrosses I A a1 a2 a3 → Ct l yX6_countCrosses cX6_countCrosses 12 none 2 45 D ads shp [.inr (some 29), .inl a1, .inl a2, .inl a3] I A (qV (qq_X6_countCrosses I A a1 a2 a3))) (Iv17 : Int32 → HI → HI → Prop) (mu17 : Int32 → HI → HI → Nat) (Iv32 : Int32 → HI → HI → HI → HI → Int32 → HI → HI → Prop) (mu32 : Int32 → HI → HI → HI → HI → Int32 → HI → HI → Nat) (Iv49 : Int32 → HI → HI → HI → HI → Int32 → HI → HI → Int32 → HI → HI → Prop) (mu49 : Int32 → HI → HI → HI → HI → Int32 → HI → HI → Int32 → HI → HI → Nat)
    (hv : (Iv17 0 (up2 (up2 (up2 I 29 11 0) 29 12 0) 29 13 0) A ∧ ∀ (x2_17 : Int32) (I_17 : HI) (A_17 : HI), Iv17 x2_17 I_17 A_17 → ((a1 ≤ x2_17 → po none I_17 A_17) ∧ (¬ a1 ≤ x2_17 → ((pp_X3_gatherLinks I_17 A_17 x2_17) ∧ (∀ (I2 A2 : HI), qq_X3_gatherLinks I_17 A_17 x2_17 I2 A2 → (Iv32 x2_17 I_17 A_17 I2 A2 0 I2 A2 ∧ ∀ (x3_32 : Int32) (I_32 : HI) (A_32 : HI), Iv32 x2_17 I_17 A_17 I2 A2 x3_32 I_32 A_32 → ((vp_in x2_17 11) ∧ (((A_32 25 x2_17.toNatClampNeg) ≤ x3_32 → (Iv17 (x2_17 + 1) I_32 A_32 ∧ mu17 (x2_17 + 1) I_32 A_32 < mu17 x2_17 I_17 A_17)) ∧ (¬ (A_32 25 x2_17.toNatClampNeg) ≤ x3_32 → (Iv49 x2_17 I_17 A_17 I2 A2 x3_32 I_32 A_32 (x3_32 + 1) I_32 A_32 ∧ ∀ (x4_49 : Int32) (I_49 : HI) (A_49 : HI), Iv49 x2_17 I_17 A_17 I2 A2 x3_32 I_32 A_32 x4_49 I_49 A_49 → ((vp_in x2_17 11) ∧ (((A_49 25 x2_17.toNatClampNeg) ≤ x4_49 → (Iv32 x2_17 I_17 A_17 I2 A2 (x3_32 + 1) I_49 A_49 ∧ mu32 x2_17 I_17 A_17 I2 A2 (x3_32 + 1) I_49 A_49 < mu32 x2_17 I_17 A_17 I2 A2 x3_32 I_32 A_32)) ∧ (¬ (A_49 25 x2_17.toNatClampNeg) ≤ x4_49 → ((pp_X6_shownAt I_49 A_49 x2_17 x3_32) ∧ ((pp_X6_shownAt I_49 A_49 x2_17 x4_49) ∧ ((pp_X6_countCrosses (up2 I_49 29 13 ((I_49 29 13) + (mvI (A_49 27) (A_49 28) (ff_X6_shownAt I_49 A_49 x2_17 x3_32) (ff_X6_shownAt I_49 A_49 x2_17 x4_49)))) A_49 x2_17 x3_32 x4_49) ∧ (∀ (I9 A9 : HI), qq_X6_countCrosses (up2 I_49 29 13 ((I_49 29 13) + (mvI (A_49 27) (A_49 28) (ff_X6_shownAt I_49 A_49 x2_17 x3_32) (ff_X6_shownAt I_49 A_49 x2_17 x4_49)))) A_49 x2_17 x3_32 x4_49 I9 A9 → (Iv49 x2_17 I_17 A_17 I2 A2 x3_32 I_32 A_32 (x4_49 + 1) I9 A9 ∧ mu49 x2_17 I_17 A_17 I2 A2 x3_32 I_32 A_32 (x4_49 + 1) I9 A9 < mu49 x2_17 I_17 A_17 I2 A2 x3_32 I_32 A_32 x4_49 I_49 A_49))))))))))))))))))) : Ct l yX6_countParts cX6_countParts 5 none 3 76 D ads shp [.inr (some 29), .inl a1] I A po := by
  refine Ct_of (by decide) (Nat.le_of_ble_eq_true rfl) ?_
  intro p e s m args below meth c hC hr
  replace hC : CX p s m args meth c cX6_countParts 5 RX6 (AdS ads s.heap.size) := hC
  show Gm p l e s m args below meth c D ads 3 76 5 po I A 0 [some (.inr (some 29)), some (.inl a1), none, none, none] []
  refine g_blk hC _ bX6_countParts_0_17 (pc' := 17) (ls' := [some (.inr (some 29)), some (.inl a1), some (.inl 0), none, none]) (st' := []) (I' := up2 (up2 (up2 I 29 11 0) 29 12 0) 29 13 0) rfl rfl ?_
  obtain ⟨hi17, hb17⟩ := hv
  have L17 : ∀ (n : Nat) (x2_17 : Int32) (I_17 : HI) (A_17 : HI), Iv17 x2_17 I_17 A_17 → mu17 x2_17 I_17 A_17 < n → Gm p l e s m args below meth c D ads 3 76 5 po I_17 A_17 17 [some (.inr (some 29)), some (.inl a1), some (.inl x2_17), none, none] [] := by
    intro n
    induction n with
    | zero => intro x2_17 I_17 A_17 _ hn; exact absurd hn (Nat.not_lt_zero _)
    | succ n ih17 =>
      intro x2_17 I_17 A_17 hv hn17
      replace hv := hb17 x2_17 I_17 A_17 hv
      skip
      refine g_blk hC _ bX6_countParts_17_19 (pc' := 19) (ls' := [some (.inr (some 29)), some (.inl a1), some (.inl x2_17), none, none]) (st' := [.inl a1, .inl x2_17]) (I' := I_17) rfl rfl ?_
      obtain ⟨hv1, hv2⟩ := hv
      refine g_cge hC dX6_countParts_19 (tgt := 117) (by decide) (fun hc => ?_) (fun hc => ?_)
      · have hv := hv1 hc
        clear hv1 hv2 hc
        exact g_retv hC hr dX6_countParts_117 hv
      · have hv := hv2 hc
        clear hv1 hv2 hc
        refine g_blk hC _ bX6_countParts_22_27 (pc' := 27) (ls' := [some (.inr (some 29)), some (.inl a1), some (.inl x2_17), none, none]) (st' := [.inl x2_17, .inr (some 68)]) (I' := I_17) rfl rfl ?_
        obtain ⟨hp1, hv⟩ := hv
        refine g_callV hC (hh_X3_gatherLinks I_17 A_17 x2_17 hp1) dX6_countParts_27 nm_X3_gatherLinks rfl rfl wl_X6_115 wi_X3_gatherLinks ws_X3_gatherLinks wn_X3 wc_X3_gatherLinks ⟨by decide, by decide⟩ (as := [.inl x2_17]) (rest := []) rfl (Nat.le_of_ble_eq_true rfl) ⟨Nat.le_refl _, Nat.le_refl _⟩ (k_qV ?_)
        intro I2 A2 hq2
        replace hv := hv I2 A2 hq2
        refine g_blk hC _ bX6_countParts_30_32 (pc' := 32) (ls' := [some (.inr (some 29)), some (.inl a1), some (.inl x2_17), some (.inl 0), none]) (st' := []) (I' := I2) rfl rfl ?_
        obtain ⟨hi32, hb32⟩ := hv
        have L32 : ∀ (n : Nat) (x3_32 : Int32) (I_32 : HI) (A_32 : HI), Iv32 x2_17 I_17 A_17 I2 A2 x3_32 I_32 A_32 → mu32 x2_17 I_17 A_17 I2 A2 x3_32 I_32 A_32 < n → Gm p l e s m args below meth c D ads 3 76 5 po I_32 A_32 32 [some (.inr (some 29)), some (.inl a1), some (.inl x2_17), some (.inl x3_32), none] [] := by
          intro n
          induction n with
          | zero => intro x3_32 I_32 A_32 _ hn; exact absurd hn (Nat.not_lt_zero _)
          | succ n ih32 =>
            intro x3_32 I_32 A_32 hv hn32
            replace hv := hb32 x3_32 I_32 A_32 hv
            skip
            refine g_blk hC _ bX6_countParts_32_38 (pc' := 38) (ls' := [some (.inr (some 29)), some (.inl a1), some (.inl x2_17), some (.inl x3_32), none]) (st' := [.inl x2_17, .inr (some 13), .inl x3_32]) (I' := I_32) rfl rfl ?_
            obtain ⟨hp3, hv⟩ := hv
            refine g_callV hC (c_X7_countIn l D ads I_32 A_32 x2_17 hp3) dX6_countParts_38 nm_X7_countIn rfl rfl wl_X6_90 wi_X7_countIn ws_X7_countIn wn_X7 wc_X7_countIn ⟨by decide, by decide⟩ (as := [.inl x2_17]) (rest := [.inl x3_32]) rfl (Nat.le_of_ble_eq_true rfl) ⟨Nat.le_refl _, Nat.le_refl _⟩ (k_qI ?_)
            obtain ⟨hv1, hv2⟩ := hv
            refine g_cge hC dX6_countParts_41 (tgt := 111) (by decide) (fun hc => ?_) (fun hc => ?_)
            · have hv := hv1 hc
              clear hv1 hv2 hc
              refine g_blk hC _ bX6_countParts_111_114 (pc' := 114) (ls' := [some (.inr (some 29)), some (.inl a1), some (.inl (x2_17 + 1)), some (.inl x3_32), none]) (st' := []) (I' := I_32) rfl rfl ?_
              refine g_goto hC dX6_countParts_114 (tgt := 17) (by decide) ?_
              exact g_weak (ls1 := [some (.inr (some 29)), some (.inl a1), some (.inl (x2_17 + 1)), none, none]) rfl (And.intro rfl (And.intro rfl (And.intro rfl trivial))) (ih17 (x2_17 + 1) I_32 A_32 hv.1 (Nat.lt_of_lt_of_le hv.2 (Nat.le_of_lt_succ hn17)))
            · have hv := hv2 hc
              clear hv1 hv2 hc
              refine g_blk hC _ bX6_countParts_44_49 (pc' := 49) (ls' := [some (.inr (some 29)), some (.inl a1), some (.inl x2_17), some (.inl x3_32), some (.inl (x3_32 + 1))]) (st' := []) (I' := I_32) rfl rfl ?_
              obtain ⟨hi49, hb49⟩ := hv
              have L49 : ∀ (n : Nat) (x4_49 : Int32) (I_49 : HI) (A_49 : HI), Iv49 x2_17 I_17 A_17 I2 A2 x3_32 I_32 A_32 x4_49 I_49 A_49 → mu49 x2_17 I_17 A_17 I2 A2 x3_32 I_32 A_32 x4_49 I_49 A_49 < n → Gm p l e s m args below meth c D ads 3 76 5 po I_49 A_49 49 [some (.inr (some 29)), some (.inl a1), some (.inl x2_17), some (.inl x3_32), some (.inl x4_49)] [] := by
                intro n
                induction n with
                | zero => intro x4_49 I_49 A_49 _ hn; exact absurd hn (Nat.not_lt_zero _)
                | succ n ih49 =>
                  intro x4_49 I_49 A_49 hv hn49
                  replace hv := hb49 x4_49 I_49 A_49 hv
                  skip
                  refine g_blk hC _ bX6_countParts_49_56 (pc' := 56) (ls' := [some (.inr (some 29)), some (.inl a1), some (.inl x2_17), some (.inl x3_32), some (.inl x4_49)]) (st' := [.inl x2_17, .inr (some 13), .inl x4_49]) (I' := I_49) rfl rfl ?_
                  obtain ⟨hp4, hv⟩ := hv
                  refine g_callV hC (c_X7_countIn l D ads I_49 A_49 x2_17 hp4) dX6_countParts_56 nm_X7_countIn rfl rfl wl_X6_90 wi_X7_countIn ws_X7_countIn wn_X7 wc_X7_countIn ⟨by decide, by decide⟩ (as := [.inl x2_17]) (rest := [.inl x4_49]) rfl (Nat.le_of_ble_eq_true rfl) ⟨Nat.le_refl _, Nat.le_refl _⟩ (k_qI ?_)
                  obtain ⟨hv1, hv2⟩ := hv
                  refine g_cge hC dX6_countParts_59 (tgt := 105) (by decide) (fun hc => ?_) (fun hc => ?_)
                  · have hv := hv1 hc
                    clear hv1 hv2 hc
                    refine g_blk hC _ bX6_countParts_105_108 (pc' := 108) (ls' := [some (.inr (some 29)), some (.inl a1), some (.inl x2_17), some (.inl (x3_32 + 1)), some (.inl x4_49)]) (st' := []) (I' := I_49) rfl rfl ?_
                    refine g_goto hC dX6_countParts_108 (tgt := 32) (by decide) ?_
                    exact g_weak (ls1 := [some (.inr (some 29)), some (.inl a1), some (.inl x2_17), some (.inl (x3_32 + 1)), none]) rfl (And.intro rfl (And.intro rfl (And.intro rfl (And.intro rfl trivial)))) (ih32 (x3_32 + 1) I_49 A_49 hv.1 (Nat.lt_of_lt_of_le hv.2 (Nat.le_of_lt_succ hn32)))
                  · have hv := hv2 hc
                    clear hv1 hv2 hc
                    refine g_blk hC _ bX6_countParts_62_74 (pc' := 74) (ls' := [some (.inr (some 29)), some (.inl a1), some (.inl x2_17), some (.inl x3_32), some (.inl x4_49)]) (st' := [.inl x3_32, .inl x2_17, .inr (some 29), .inr (some 26), .inl (I_49 29 13), .inr (some 29)]) (I' := I_49) rfl rfl ?_
                    obtain ⟨hp5, hv⟩ := hv
                    refine g_callV hC (hh_X6_shownAt I_49 A_49 x2_17 x3_32 hp5) dX6_countParts_74 nm_X6_shownAt rfl rfl wl_X6_107 wi_X6_shownAt ws_X6_shownAt wn_X6 wc_X6_shownAt ⟨by decide, by decide⟩ (as := [.inl x2_17, .inl x3_32]) (rest := [.inr (some 26), .inl (I_49 29 13), .inr (some 29)]) rfl (Nat.le_of_ble_eq_true rfl) ⟨Nat.le_refl _, Nat.le_refl _⟩ (k_qI ?_)
                    refine g_blk hC _ bX6_countParts_77_81 (pc' := 81) (ls' := [some (.inr (some 29)), some (.inl a1), some (.inl x2_17), some (.inl x3_32), some (.inl x4_49)]) (st' := [.inl x4_49, .inl x2_17, .inr (some 29), .inl (ff_X6_shownAt I_49 A_49 x2_17 x3_32), .inr (some 26), .inl (I_49 29 13), .inr (some 29)]) (I' := I_49) rfl rfl ?_
                    obtain ⟨hp6, hv⟩ := hv
                    refine g_callV hC (hh_X6_shownAt I_49 A_49 x2_17 x4_49 hp6) dX6_countParts_81 nm_X6_shownAt rfl rfl wl_X6_107 wi_X6_shownAt ws_X6_shownAt wn_X6 wc_X6_shownAt ⟨by decide, by decide⟩ (as := [.inl x2_17, .inl x4_49]) (rest := [.inl (ff_X6_shownAt I_49 A_49 x2_17 x3_32), .inr (some 26), .inl (I_49 29 13), .inr (some 29)]) rfl (Nat.le_of_ble_eq_true rfl) ⟨Nat.le_refl _, Nat.le_refl _⟩ (k_qI ?_)
                    refine g_callV hC (c_X4_moves l D ads I_49 A_49 (ff_X6_shownAt I_49 A_49 x2_17 x3_32) (ff_X6_shownAt I_49 A_49 x2_17 x4_49)) dX6_countParts_84 nm_X4_moves rfl rfl wl_X6_153 wi_X4_moves ws_X4_moves wn_X4 wc_X4_moves ⟨by decide, by decide⟩ (as := [.inl (ff_X6_shownAt I_49 A_49 x2_17 x3_32), .inl (ff_X6_shownAt I_49 A_49 x2_17 x4_49)]) (rest := [.inl (I_49 29 13), .inr (some 29)]) rfl (Nat.le_of_ble_eq_true rfl) ⟨Nat.le_refl _, Nat.le_refl _⟩ (k_qI ?_)
                    refine g_blk hC _ bX6_countParts_87_96 (pc' := 96) (ls' := [some (.inr (some 29)), some (.inl a1), some (.inl x2_17), some (.inl x3_32), some (.inl x4_49)]) (st' := [.inl x4_49, .inl x3_32, .inl x2_17, .inr (some 29)]) (I' := up2 I_49 29 13 ((I_49 29 13) + (mvI (A_49 27) (A_49 28) (ff_X6_shownAt I_49 A_49 x2_17 x3_32) (ff_X6_shownAt I_49 A_49 x2_17 x4_49)))) rfl rfl ?_
                    obtain ⟨hp8, hv⟩ := hv
                    refine g_callV hC (hh_X6_countCrosses (up2 I_49 29 13 ((I_49 29 13) + (mvI (A_49 27) (A_49 28) (ff_X6_shownAt I_49 A_49 x2_17 x3_32) (ff_X6_shownAt I_49 A_49 x2_17 x4_49)))) A_49 x2_17 x3_32 x4_49 hp8) dX6_countParts_96 nm_X6_countCrosses rfl rfl wl_X6_158 wi_X6_countCrosses ws_X6_countCrosses wn_X6 wc_X6_countCrosses ⟨by decide, by decide⟩ (as := [.inl x2_17, .inl x3_32, .inl x4_49]) (rest := []) rfl (Nat.le_of_ble_eq_true rfl) ⟨Nat.le_refl _, Nat.le_refl _⟩ (k_qV ?_)
                    intro I9 A9 hq9
                    replace hv := hv I9 A9 hq9
                    refine g_blk hC _ bX6_countParts_99_102 (pc' := 102) (ls' := [some (.inr (some 29)), some (.inl a1), some (.inl x2_17), some (.inl x3_32), some (.inl (x4_49 + 1))]) (st' := []) (I' := I9) rfl rfl ?_
                    refine g_goto hC dX6_countParts_102 (tgt := 49) (by decide) ?_
                    exact g_weak (ls1 := [some (.inr (some 29)), some (.inl a1), some (.inl x2_17), some (.inl x3_32), some (.inl (x4_49 + 1))]) rfl (And.intro rfl (And.intro rfl (And.intro rfl (And.intro rfl (And.intro rfl trivial))))) (ih49 (x4_49 + 1) I9 A9 hv.1 (Nat.lt_of_lt_of_le hv.2 (Nat.le_of_lt_succ hn49)))
              exact g_weak (ls1 := [some (.inr (some 29)), some (.inl a1), some (.inl x2_17), some (.inl x3_32), some (.inl (x3_32 + 1))]) rfl (And.intro rfl (And.intro rfl (And.intro rfl (And.intro rfl (And.intro rfl trivial))))) (L49 _ (x3_32 + 1) I_32 A_32 hi49 (Nat.lt_succ_self _))
        exact g_weak (ls1 := [some (.inr (some 29)), some (.inl a1), some (.inl x2_17), some (.inl 0), none]) rfl (And.intro rfl (And.intro rfl (And.intro rfl (And.intro rfl trivial)))) (L32 _ 0 I2 A2 hi32 (Nat.lt_succ_self _))
  exact g_weak (ls1 := [some (.inr (some 29)), some (.inl a1), some (.inl 0), none, none]) rfl (And.intro rfl (And.intro rfl (And.intro rfl trivial))) (L17 _ 0 (up2 (up2 (up2 I 29 11 0) 29 12 0) 29 13 0) A hi17 (Nat.lt_succ_self _))
theorem bX6_solve_0_4 : okB cX6_solve RX6 0 [(5, 0, 0, 0, 0), (23, 48, 6, 0, 0)] := And.intro ⟨_, dX6_solve_0, rfl⟩ (And.intro ⟨dX6_solve_1, fl_X6_48⟩ trivial)
theorem bX6_solve_7_13 : okB cX6_solve RX6 7 [(7, 2, 0, 0, 0), (5, 0, 0, 0, 0), (23, 19, 6, 5, 0), (3, 2, 0, 0, 0)] := And.intro ⟨_, dX6_solve_7, rfl⟩ (And.intro ⟨_, dX6_solve_8, rfl⟩ (And.intro ⟨dX6_solve_9, fl_X6_19⟩ (And.intro ⟨_, dX6_solve_12, rfl⟩ trivial)))
theorem bX6_solve_14_16 : okB cX6_solve RX6 14 [(0, 0, 0, 0, 0), (0, 0, 0, 0, 0)] := And.intro ⟨_, dX6_solve_14, by decide⟩ (And.intro ⟨_, dX6_solve_15, by decide⟩ trivial)
theorem bX6_solve_17_22 : okB cX6_solve RX6 17 [(5, 0, 0, 0, 0), (23, 22, 6, 6, 0), (3, 2, 0, 0, 0)] := And.intro ⟨_, dX6_solve_17, rfl⟩ (And.intro ⟨dX6_solve_18, fl_X6_22⟩ (And.intro ⟨_, dX6_solve_21, rfl⟩ trivial))
theorem bX6_solve_23_25 : okB cX6_solve RX6 23 [(0, 0, 0, 0, 0), (0, 0, 0, 0, 1)] := And.intro ⟨_, dX6_solve_23, by decide⟩ (And.intro ⟨_, dX6_solve_24, by decide⟩ trivial)
theorem bX6_solve_26_30 : okB cX6_solve RX6 26 [(3, 2, 0, 0, 0), (0, 0, 0, 0, 1), (13, 0, 0, 0, 0), (7, 3, 0, 0, 0)] := And.intro ⟨_, dX6_solve_26, rfl⟩ (And.intro ⟨_, dX6_solve_27, by decide⟩ (And.intro dX6_solve_28 (And.intro ⟨_, dX6_solve_29, rfl⟩ trivial)))
theorem bX6_solve_30_31 : okB cX6_solve RX6 30 [(3, 3, 0, 0, 0)] := And.intro ⟨_, dX6_solve_30, rfl⟩ trivial
theorem bX6_solve_46_47 : okB cX6_solve RX6 46 [(5, 0, 0, 0, 0)] := And.intro ⟨_, dX6_solve_46, rfl⟩ trivial
theorem bX6_solve_50_52 : okB cX6_solve RX6 50 [(0, 0, 0, 0, 0), (7, 3, 0, 0, 0)] := And.intro ⟨_, dX6_solve_50, by decide⟩ (And.intro ⟨_, dX6_solve_51, rfl⟩ trivial)
theorem bX6_solve_52_54 : okB cX6_solve RX6 52 [(3, 3, 0, 0, 0), (3, 2, 0, 0, 0)] := And.intro ⟨_, dX6_solve_52, rfl⟩ (And.intro ⟨_, dX6_solve_53, rfl⟩ trivial)
theorem bX6_solve_84_86 : okB cX6_solve RX6 84 [(5, 0, 0, 0, 0), (3, 2, 0, 0, 0)] := And.intro ⟨_, dX6_solve_84, rfl⟩ (And.intro ⟨_, dX6_solve_85, rfl⟩ trivial)
theorem bX6_solve_57_69 : okB cX6_solve RX6 57 [(5, 0, 0, 0, 0), (23, 28, 6, 8, 0), (3, 3, 0, 0, 0), (0, 0, 0, 0, 1), (12, 0, 0, 0, 0), (5, 0, 0, 0, 0), (23, 25, 6, 7, 0), (3, 3, 0, 0, 0)] := And.intro ⟨_, dX6_solve_57, rfl⟩ (And.intro ⟨dX6_solve_58, fl_X6_28⟩ (And.intro ⟨_, dX6_solve_61, rfl⟩ (And.intro ⟨_, dX6_solve_62, by decide⟩ (And.intro dX6_solve_63 (And.intro ⟨_, dX6_solve_64, rfl⟩ (And.intro ⟨dX6_solve_65, fl_X6_25⟩ (And.intro ⟨_, dX6_solve_68, rfl⟩ trivial)))))))
theorem bX6_solve_70_75 : okB cX6_solve RX6 70 [(5, 0, 0, 0, 0), (23, 28, 6, 8, 0), (3, 3, 0, 0, 0)] := And.intro ⟨_, dX6_solve_70, rfl⟩ (And.intro ⟨dX6_solve_71, fl_X6_28⟩ (And.intro ⟨_, dX6_solve_74, rfl⟩ trivial))
theorem bX6_solve_78_81 : okB cX6_solve RX6 78 [(11, 3, 0, 0, 1)] := And.intro ⟨_, dX6_solve_78, by decide⟩ trivial
theorem bX6_solve_34_37 : okB cX6_solve RX6 34 [(5, 0, 0, 0, 0), (3, 3, 0, 0, 0), (3, 1, 0, 0, 0)] := And.intro ⟨_, dX6_solve_34, rfl⟩ (And.intro ⟨_, dX6_solve_35, rfl⟩ (And.intro ⟨_, dX6_solve_36, rfl⟩ trivial))
theorem bX6_solve_40_43 : okB cX6_solve RX6 40 [(11, 3, 0, 0, (-1))] := And.intro ⟨_, dX6_solve_40, by decide⟩ trivial
set_option maxHeartbeats 4000000 in
set_option maxRecDepth 100000 in
theorem k_X6_solve (l : Launch) (D : va_G) (ads : AD) (I A : HI) (a1 : Int32) (po : Option AV → HI → HI → Prop) {pp_X6_chooseFirst : HI → HI → Prop} {qq_X6_chooseFirst : HI → HI → HI → HI → Prop} (hh_X6_chooseFirst : ∀ (I A : HI), pp_X6_chooseFirst I A → Ct l yX6_chooseFirst cX6_chooseFirst 3 none 2 42 D ads shp [.inr (some 29)] I A (qV (qq_X6_chooseFirst I A))) {pp_X6_countParts : HI → HI → Int32 → Prop} {qq_X6_countParts : HI → HI → Int32 → HI → HI → Prop} (hh_X6_countParts : ∀ (I A : HI) (a1 : Int32), pp_X6_countParts I A a1 → Ct l yX6_countParts cX6_countParts 5 none 3 76 D ads shp [.inr (some 29), .inl a1] I A (qV (qq_X6_countParts I A a1))) {pp_X6_searchLayer : HI → HI → Int32 → Int32 → Prop} {qq_X6_searchLayer : HI → HI → Int32 → Int32 → HI → HI → Prop} (hh_X6_searchLayer : ∀ (I A : HI) (a1 : Int32) (a2 : Int32), pp_X6_searchLayer I A a1 a2 → Ct l yX6_searchLayer cX6_searchLayer 5 none 3 77 D ads shp [.inr (some 29), .inl a1, .inl a2] I A (qV (qq_X6_searchLayer I A a1 a2))) (Iv30 : Int32 → HI → HI → Prop) (mu30 : Int32 → HI → HI → Nat) (Iv52 : Int32 → HI → HI → HI → HI → Int32 → HI → Prop) (mu52 : Int32 → HI → HI → HI → HI → Int32 → HI → Nat)
    (hv : (vp_in (I 3 11) 11 ∧ (vp_in (0 : Int32) 120 ∧ (vp_in (I 3 11) 11 ∧ (vp_in (0 : Int32) 120 ∧ (Iv30 ((I 3 11) - 1) I (up2 (up2 A (32 + (I 3 11).toNatClampNeg) (0 : Int32).toNatClampNeg 0) (44 + (I 3 11).toNatClampNeg) (0 : Int32).toNatClampNeg 1) ∧ ∀ (x3_30 : Int32) (I_30 : HI) (A_30 : HI), Iv30 x3_30 I_30 A_30 → ((x3_30 < 0 → ((pp_X6_chooseFirst I_30 A_30) ∧ (∀ (I5 A5 : HI), qq_X6_chooseFirst I_30 A_30 I5 A5 → (Iv52 x3_30 I_30 A_30 I5 A5 0 A5 ∧ ∀ (x3_52 : Int32) (A_52 : HI), Iv52 x3_30 I_30 A_30 I5 A5 x3_52 A_52 → (((I 3 11) ≤ x3_52 → ((pp_X6_countParts I5 A_52 (I 3 11)) ∧ (∀ (I7 A7 : HI), qq_X6_countParts I5 A_52 (I 3 11) I7 A7 → po none I7 A7))) ∧ (¬ (I 3 11) ≤ x3_52 → (vp_in x3_52 11 ∧ (vp_in x3_52 11 ∧ (vp_in (A_52 67 x3_52.toNatClampNeg) 120 ∧ (vp_in (x3_52 + 1) 11 ∧ (Iv52 x3_30 I_30 A_30 I5 A5 (x3_52 + 1) (up2 A_52 67 (x3_52 + 1).toNatClampNeg (A_52 (56 + x3_52.toNatClampNeg) (A_52 67 x3_52.toNatClampNeg).toNatClampNeg)) ∧ mu52 x3_30 I_30 A_30 I5 A5 (x3_52 + 1) (up2 A_52 67 (x3_52 + 1).toNatClampNeg (A_52 (56 + x3_52.toNatClampNeg) (A_52 67 x3_52.toNatClampNeg).toNatClampNeg)) < mu52 x3_30 I_30 A_30 I5 A5 x3_52 A_52))))))))))) ∧ (¬ x3_30 < 0 → ((pp_X6_searchLayer I_30 A_30 x3_30 a1) ∧ (∀ (I10 A10 : HI), qq_X6_searchLayer I_30 A_30 x3_30 a1 I10 A10 → (Iv30 (x3_30 + (-1)) I10 A10 ∧ mu30 (x3_30 + (-1)) I10 A10 < mu30 x3_30 I_30 A_30))))))))))) : Ct l yX6_solve cX6_solve 4 none 4 101 D ads shp [.inr (some 29), .inl a1] I A po := by
  refine Ct_of (by decide) (Nat.le_of_ble_eq_true rfl) ?_
  intro p e s m args below meth c hC hr
  replace hC : CX p s m args meth c cX6_solve 4 RX6 (AdS ads s.heap.size) := hC
  show Gm p l e s m args below meth c D ads 4 101 4 po I A 0 [some (.inr (some 29)), some (.inl a1), none, none] []
  refine g_blk hC _ bX6_solve_0_4 (pc' := 4) (ls' := [some (.inr (some 29)), some (.inl a1), none, none]) (st' := [.inr (some 3)]) (I' := I) rfl rfl ?_
  refine g_callV hC (c_X5_layers l D ads I A ) dX6_solve_4 nm_X5_layers rfl rfl wl_X6_73 wi_X5_layers ws_X5_layers wn_X5 wc_X5_layers ⟨by decide, by decide⟩ (as := []) (rest := []) rfl (Nat.le_of_ble_eq_true rfl) ⟨Nat.le_refl _, Nat.le_refl _⟩ (k_qI ?_)
  refine g_blk hC _ bX6_solve_7_13 (pc' := 13) (ls' := [some (.inr (some 29)), some (.inl a1), some (.inl (I 3 11)), none]) (st' := [.inl (I 3 11), .inr (some 31)]) (I' := I) rfl rfl ?_
  obtain ⟨hr2, hv⟩ := hv
  refine g_aald hC dX6_solve_13 (f := _) rfl hr2 (ra_31 (vin_lt hr2)) ?_
  refine g_blk hC _ bX6_solve_14_16 (pc' := 16) (ls' := [some (.inr (some 29)), some (.inl a1), some (.inl (I 3 11)), none]) (st' := [.inl 0, .inl 0, .inr (some (32 + (I 3 11).toNatClampNeg))]) (I' := I) rfl rfl ?_
  obtain ⟨hi, hv⟩ := hv
  refine g_iast hC dX6_solve_16 (rw_31 (vin_lt hr2)) hi ?_
  clear hi
  refine g_blk hC _ bX6_solve_17_22 (pc' := 22) (ls' := [some (.inr (some 29)), some (.inl a1), some (.inl (I 3 11)), none]) (st' := [.inl (I 3 11), .inr (some 43)]) (I' := I) rfl rfl ?_
  obtain ⟨hr3, hv⟩ := hv
  refine g_aald hC dX6_solve_22 (f := _) rfl hr3 (ra_43 (vin_lt hr3)) ?_
  refine g_blk hC _ bX6_solve_23_25 (pc' := 25) (ls' := [some (.inr (some 29)), some (.inl a1), some (.inl (I 3 11)), none]) (st' := [.inl 1, .inl 0, .inr (some (44 + (I 3 11).toNatClampNeg))]) (I' := I) rfl rfl ?_
  obtain ⟨hi, hv⟩ := hv
  refine g_iast hC dX6_solve_25 (rw_43 (vin_lt hr3)) hi ?_
  clear hi
  refine g_blk hC _ bX6_solve_26_30 (pc' := 30) (ls' := [some (.inr (some 29)), some (.inl a1), some (.inl (I 3 11)), some (.inl ((I 3 11) - 1))]) (st' := []) (I' := I) rfl rfl ?_
  obtain ⟨hi30, hb30⟩ := hv
  have L30 : ∀ (n : Nat) (x3_30 : Int32) (I_30 : HI) (A_30 : HI), Iv30 x3_30 I_30 A_30 → mu30 x3_30 I_30 A_30 < n → Gm p l e s m args below meth c D ads 4 101 4 po I_30 A_30 30 [some (.inr (some 29)), some (.inl a1), some (.inl (I 3 11)), some (.inl x3_30)] [] := by
    intro n
    induction n with
    | zero => intro x3_30 I_30 A_30 _ hn; exact absurd hn (Nat.not_lt_zero _)
    | succ n ih30 =>
      intro x3_30 I_30 A_30 hv hn30
      replace hv := hb30 x3_30 I_30 A_30 hv
      skip
      refine g_blk hC _ bX6_solve_30_31 (pc' := 31) (ls' := [some (.inr (some 29)), some (.inl a1), some (.inl (I 3 11)), some (.inl x3_30)]) (st' := [.inl x3_30]) (I' := I_30) rfl rfl ?_
      obtain ⟨hv1, hv2⟩ := hv
      refine g_iflt hC dX6_solve_31 (tgt := 46) (by decide) (fun hc => ?_) (fun hc => ?_)
      · have hv := hv1 hc
        clear hv1 hv2 hc
        refine g_blk hC _ bX6_solve_46_47 (pc' := 47) (ls' := [some (.inr (some 29)), some (.inl a1), some (.inl (I 3 11)), some (.inl x3_30)]) (st' := [.inr (some 29)]) (I' := I_30) rfl rfl ?_
        obtain ⟨hp4, hv⟩ := hv
        refine g_callV hC (hh_X6_chooseFirst I_30 A_30  hp4) dX6_solve_47 nm_X6_chooseFirst rfl rfl wl_X6_83 wi_X6_chooseFirst ws_X6_chooseFirst wn_X6 wc_X6_chooseFirst ⟨by decide, by decide⟩ (as := []) (rest := []) rfl (Nat.le_of_ble_eq_true rfl) ⟨Nat.le_refl _, Nat.le_refl _⟩ (k_qV ?_)
        intro I5 A5 hq5
        replace hv := hv I5 A5 hq5
        refine g_blk hC _ bX6_solve_50_52 (pc' := 52) (ls' := [some (.inr (some 29)), some (.inl a1), some (.inl (I 3 11)), some (.inl 0)]) (st' := []) (I' := I5) rfl rfl ?_
        obtain ⟨hi52, hb52⟩ := hv
        have L52 : ∀ (n : Nat) (x3_52 : Int32) (A_52 : HI), Iv52 x3_30 I_30 A_30 I5 A5 x3_52 A_52 → mu52 x3_30 I_30 A_30 I5 A5 x3_52 A_52 < n → Gm p l e s m args below meth c D ads 4 101 4 po I5 A_52 52 [some (.inr (some 29)), none, some (.inl (I 3 11)), some (.inl x3_52)] [] := by
          intro n
          induction n with
          | zero => intro x3_52 A_52 _ hn; exact absurd hn (Nat.not_lt_zero _)
          | succ n ih52 =>
            intro x3_52 A_52 hv hn52
            replace hv := hb52 x3_52 A_52 hv
            skip
            refine g_blk hC _ bX6_solve_52_54 (pc' := 54) (ls' := [some (.inr (some 29)), none, some (.inl (I 3 11)), some (.inl x3_52)]) (st' := [.inl (I 3 11), .inl x3_52]) (I' := I5) rfl rfl ?_
            obtain ⟨hv1, hv2⟩ := hv
            refine g_cge hC dX6_solve_54 (tgt := 84) (by decide) (fun hc => ?_) (fun hc => ?_)
            · have hv := hv1 hc
              clear hv1 hv2 hc
              refine g_blk hC _ bX6_solve_84_86 (pc' := 86) (ls' := [some (.inr (some 29)), none, some (.inl (I 3 11)), some (.inl x3_52)]) (st' := [.inl (I 3 11), .inr (some 29)]) (I' := I5) rfl rfl ?_
              obtain ⟨hp6, hv⟩ := hv
              refine g_callV hC (hh_X6_countParts I5 A_52 (I 3 11) hp6) dX6_solve_86 nm_X6_countParts rfl rfl wl_X6_86 wi_X6_countParts ws_X6_countParts wn_X6 wc_X6_countParts ⟨by decide, by decide⟩ (as := [.inl (I 3 11)]) (rest := []) rfl (Nat.le_of_ble_eq_true rfl) ⟨Nat.le_refl _, Nat.le_refl _⟩ (k_qV ?_)
              intro I7 A7 hq7
              replace hv := hv I7 A7 hq7
              exact g_retv hC hr dX6_solve_89 hv
            · have hv := hv2 hc
              clear hv1 hv2 hc
              refine g_blk hC _ bX6_solve_57_69 (pc' := 69) (ls' := [some (.inr (some 29)), none, some (.inl (I 3 11)), some (.inl x3_52)]) (st' := [.inl x3_52, .inr (some 55), .inl (x3_52 + 1), .inr (some 67)]) (I' := I5) rfl rfl ?_
              obtain ⟨hr8, hv⟩ := hv
              refine g_aald hC dX6_solve_69 (f := _) rfl hr8 (ra_55 (vin_lt hr8)) ?_
              refine g_blk hC _ bX6_solve_70_75 (pc' := 75) (ls' := [some (.inr (some 29)), none, some (.inl (I 3 11)), some (.inl x3_52)]) (st' := [.inl x3_52, .inr (some 67), .inr (some (56 + x3_52.toNatClampNeg)), .inl (x3_52 + 1), .inr (some 67)]) (I' := I5) rfl rfl ?_
              obtain ⟨hi, hv⟩ := hv
              refine g_iald hC dX6_solve_75 (rfl) hi ?_
              clear hi
              obtain ⟨hi, hv⟩ := hv
              refine g_iald hC dX6_solve_76 (rw_55 (vin_lt hr8)) hi ?_
              clear hi
              obtain ⟨hi, hv⟩ := hv
              refine g_iast hC dX6_solve_77 (rfl) hi ?_
              clear hi
              refine g_blk hC _ bX6_solve_78_81 (pc' := 81) (ls' := [some (.inr (some 29)), none, some (.inl (I 3 11)), some (.inl (x3_52 + 1))]) (st' := []) (I' := I5) rfl rfl ?_
              refine g_goto hC dX6_solve_81 (tgt := 52) (by decide) ?_
              exact g_weak (ls1 := [some (.inr (some 29)), none, some (.inl (I 3 11)), some (.inl (x3_52 + 1))]) rfl (And.intro rfl (And.intro rfl (And.intro rfl trivial))) (ih52 (x3_52 + 1) (up2 A_52 67 (x3_52 + 1).toNatClampNeg (A_52 (56 + x3_52.toNatClampNeg) (A_52 67 x3_52.toNatClampNeg).toNatClampNeg)) hv.1 (Nat.lt_of_lt_of_le hv.2 (Nat.le_of_lt_succ hn52)))
        exact g_weak (ls1 := [some (.inr (some 29)), none, some (.inl (I 3 11)), some (.inl 0)]) rfl (And.intro rfl (And.intro rfl (And.intro rfl trivial))) (L52 _ 0 A5 hi52 (Nat.lt_succ_self _))
      · have hv := hv2 hc
        clear hv1 hv2 hc
        refine g_blk hC _ bX6_solve_34_37 (pc' := 37) (ls' := [some (.inr (some 29)), some (.inl a1), some (.inl (I 3 11)), some (.inl x3_30)]) (st' := [.inl a1, .inl x3_30, .inr (some 29)]) (I' := I_30) rfl rfl ?_
        obtain ⟨hp9, hv⟩ := hv
        refine g_callV hC (hh_X6_searchLayer I_30 A_30 x3_30 a1 hp9) dX6_solve_37 nm_X6_searchLayer rfl rfl wl_X6_79 wi_X6_searchLayer ws_X6_searchLayer wn_X6 wc_X6_searchLayer ⟨by decide, by decide⟩ (as := [.inl x3_30, .inl a1]) (rest := []) rfl (Nat.le_of_ble_eq_true rfl) ⟨Nat.le_refl _, Nat.le_refl _⟩ (k_qV ?_)
        intro I10 A10 hq10
        replace hv := hv I10 A10 hq10
        refine g_blk hC _ bX6_solve_40_43 (pc' := 43) (ls' := [some (.inr (some 29)), some (.inl a1), some (.inl (I 3 11)), some (.inl (x3_30 + (-1)))]) (st' := []) (I' := I10) rfl rfl ?_
        refine g_goto hC dX6_solve_43 (tgt := 30) (by decide) ?_
        exact g_weak (ls1 := [some (.inr (some 29)), some (.inl a1), some (.inl (I 3 11)), some (.inl (x3_30 + (-1)))]) rfl (And.intro rfl (And.intro rfl (And.intro rfl (And.intro rfl trivial)))) (ih30 (x3_30 + (-1)) I10 A10 hv.1 (Nat.lt_of_lt_of_le hv.2 (Nat.le_of_lt_succ hn30)))
  exact g_weak (ls1 := [some (.inr (some 29)), some (.inl a1), some (.inl (I 3 11)), some (.inl ((I 3 11) - 1))]) rfl (And.intro rfl (And.intro rfl (And.intro rfl (And.intro rfl trivial)))) (L30 _ ((I 3 11) - 1) I (up2 (up2 A (32 + (I 3 11).toNatClampNeg) (0 : Int32).toNatClampNeg 0) (44 + (I 3 11).toNatClampNeg) (0 : Int32).toNatClampNeg 1) hi30 (Nat.lt_succ_self _))
theorem bX1_sizeOf_0_1 : okB cX1_sizeOf RX1 0 [(3, 1, 0, 0, 0)] := And.intro ⟨_, dX1_sizeOf_0, rfl⟩ trivial
theorem bX1_sizeOf_28_35 : okB cX1_sizeOf RX1 28 [(0, 0, 0, 0, 0), (7, 2, 0, 0, 0), (0, 0, 0, 0, 0), (7, 3, 0, 0, 0), (0, 0, 0, 0, 0), (8, 4, 0, 0, 0)] := And.intro ⟨_, dX1_sizeOf_28, by decide⟩ (And.intro ⟨_, dX1_sizeOf_29, rfl⟩ (And.intro ⟨_, dX1_sizeOf_30, by decide⟩ (And.intro ⟨_, dX1_sizeOf_31, rfl⟩ (And.intro ⟨_, dX1_sizeOf_32, by decide⟩ (And.intro dX1_sizeOf_33 trivial)))))
theorem bX1_sizeOf_35_39 : okB cX1_sizeOf RX1 35 [(4, 4, 0, 0, 0), (1, 0, 0, 0, 10)] := And.intro dX1_sizeOf_35 (And.intro ⟨_, dX1_sizeOf_37, by decide⟩ trivial)
theorem bX1_sizeOf_74_77 : okB cX1_sizeOf RX1 74 [(0, 0, 0, 0, 1), (3, 2, 0, 0, 0), (3, 3, 0, 0, 0)] := And.intro ⟨_, dX1_sizeOf_74, by decide⟩ (And.intro ⟨_, dX1_sizeOf_75, rfl⟩ (And.intro ⟨_, dX1_sizeOf_76, rfl⟩ trivial))
theorem bX1_sizeOf_42_50 : okB cX1_sizeOf RX1 42 [(3, 2, 0, 0, 0), (5, 0, 0, 0, 0), (23, 9, 1, 0, 0), (4, 4, 0, 0, 0), (3, 1, 0, 0, 0)] := And.intro ⟨_, dX1_sizeOf_42, rfl⟩ (And.intro ⟨_, dX1_sizeOf_43, rfl⟩ (And.intro ⟨dX1_sizeOf_44, fl_X1_9⟩ (And.intro dX1_sizeOf_47 (And.intro ⟨_, dX1_sizeOf_49, rfl⟩ trivial))))
theorem bX1_sizeOf_53_63 : okB cX1_sizeOf RX1 53 [(12, 0, 0, 0, 0), (7, 2, 0, 0, 0), (3, 3, 0, 0, 0), (5, 0, 0, 0, 0), (23, 9, 1, 0, 0), (3, 1, 0, 0, 0), (4, 4, 0, 0, 0)] := And.intro dX1_sizeOf_53 (And.intro ⟨_, dX1_sizeOf_54, rfl⟩ (And.intro ⟨_, dX1_sizeOf_55, rfl⟩ (And.intro ⟨_, dX1_sizeOf_56, rfl⟩ (And.intro ⟨dX1_sizeOf_57, fl_X1_9⟩ (And.intro ⟨_, dX1_sizeOf_60, rfl⟩ (And.intro dX1_sizeOf_61 trivial))))))
theorem bX1_sizeOf_66_71 : okB cX1_sizeOf RX1 66 [(12, 0, 0, 0, 0), (7, 3, 0, 0, 0), (11, 4, 0, 0, 1)] := And.intro dX1_sizeOf_66 (And.intro ⟨_, dX1_sizeOf_67, rfl⟩ (And.intro ⟨_, dX1_sizeOf_68, by decide⟩ trivial))
theorem bX1_sizeOf_7_19 : okB cX1_sizeOf RX1 7 [(3, 1, 0, 0, 0), (1, 0, 0, 0, 100), (13, 0, 0, 0, 0), (7, 2, 0, 0, 0), (5, 0, 0, 0, 0), (23, 9, 1, 0, 0), (3, 2, 0, 0, 0), (1, 0, 0, 0, 10)] := And.intro ⟨_, dX1_sizeOf_7, rfl⟩ (And.intro ⟨_, dX1_sizeOf_8, by decide⟩ (And.intro dX1_sizeOf_10 (And.intro ⟨_, dX1_sizeOf_11, rfl⟩ (And.intro ⟨_, dX1_sizeOf_12, rfl⟩ (And.intro ⟨dX1_sizeOf_13, fl_X1_9⟩ (And.intro ⟨_, dX1_sizeOf_16, rfl⟩ (And.intro ⟨_, dX1_sizeOf_17, by decide⟩ trivial)))))))
theorem bX1_sizeOf_20_23 : okB cX1_sizeOf RX1 20 [(3, 2, 0, 0, 0), (1, 0, 0, 0, 10)] := And.intro ⟨_, dX1_sizeOf_20, rfl⟩ (And.intro ⟨_, dX1_sizeOf_21, by decide⟩ trivial)
set_option maxHeartbeats 4000000 in
set_option maxRecDepth 100000 in
theorem k_X1_sizeOf (l : Launch) (D : va_G) (ads : AD) (I A : HI) (a1 : Int32) (po : Option AV → HI → HI → Prop) (Iv35 : Int32 → Int32 → Int32 → Prop) (mu35 : Int32 → Int32 → Int32 → Nat)
    (hv : ((¬ (zP a1) = 0 → (Iv35 0 0 0 ∧ ∀ (x2_35 : Int32) (x3_35 : Int32) (x4_35 : Int32), Iv35 x2_35 x3_35 x4_35 → ((10 ≤ x4_35 → po (some (.inl (mxI 1 (mxI x2_35 x3_35)))) I A) ∧ (¬ 10 ≤ x4_35 → (Iv35 (x2_35 + (strI A x4_35 a1)) (x3_35 + (strI A a1 x4_35)) (x4_35 + 1) ∧ mu35 (x2_35 + (strI A x4_35 a1)) (x3_35 + (strI A a1 x4_35)) (x4_35 + 1) < mu35 x2_35 x3_35 x4_35))))) ∧ ((zP a1) = 0 → po (some (.inl (strI A ((a1 - 100) / 10) ((a1 - 100) - (a1 - 100) / 10 * 10)))) I A))) : Ct l yX1_sizeOf cX1_sizeOf 5 (some .int) 2 43 D ads shp [.inr (some 95), .inl a1] I A po := by
  refine Ct_of (by decide) (Nat.le_of_ble_eq_true rfl) ?_
  intro p e s m args below meth c hC hr
  replace hC : CX p s m args meth c cX1_sizeOf 5 RX1 (AdS ads s.heap.size) := hC
  show Gm p l e s m args below meth c D ads 2 43 5 po I A 0 [some (.inr (some 95)), some (.inl a1), none, none, none] []
  refine g_blk hC _ bX1_sizeOf_0_1 (pc' := 1) (ls' := [some (.inr (some 95)), some (.inl a1), none, none, none]) (st' := [.inl a1]) (I' := I) rfl rfl ?_
  refine g_callN (host := RX8) hC (c_X8_isPlace l D ads I A a1) dX1_sizeOf_1 nm_X8_isPlace (List.mem_of_getElem? (i := 6) rfl) wt_X8_isPlace wn_X8 wc_X8_isPlace ⟨by decide, by decide⟩ (as := [.inl a1]) (rest := []) rfl (Nat.le_of_ble_eq_true rfl) ⟨Nat.le_refl _, Nat.le_refl _⟩ (k_qI ?_)
  obtain ⟨hv1, hv2⟩ := hv
  refine g_ifne hC dX1_sizeOf_4 (tgt := 28) (by decide) (fun hc => ?_) (fun hc => ?_)
  · have hv := hv1 hc
    clear hv1 hv2 hc
    refine g_blk hC _ bX1_sizeOf_28_35 (pc' := 35) (ls' := [some (.inr (some 95)), some (.inl a1), some (.inl 0), some (.inl 0), some (.inl 0)]) (st' := []) (I' := I) rfl rfl ?_
    obtain ⟨hi35, hb35⟩ := hv
    have L35 : ∀ (n : Nat) (x2_35 : Int32) (x3_35 : Int32) (x4_35 : Int32), Iv35 x2_35 x3_35 x4_35 → mu35 x2_35 x3_35 x4_35 < n → Gm p l e s m args below meth c D ads 2 43 5 po I A 35 [some (.inr (some 95)), some (.inl a1), some (.inl x2_35), some (.inl x3_35), some (.inl x4_35)] [] := by
      intro n
      induction n with
      | zero => intro x2_35 x3_35 x4_35 _ hn; exact absurd hn (Nat.not_lt_zero _)
      | succ n ih35 =>
        intro x2_35 x3_35 x4_35 hv hn35
        replace hv := hb35 x2_35 x3_35 x4_35 hv
        skip
        refine g_blk hC _ bX1_sizeOf_35_39 (pc' := 39) (ls' := [some (.inr (some 95)), some (.inl a1), some (.inl x2_35), some (.inl x3_35), some (.inl x4_35)]) (st' := [.inl 10, .inl x4_35]) (I' := I) rfl rfl ?_
        obtain ⟨hv1, hv2⟩ := hv
        refine g_cge hC dX1_sizeOf_39 (tgt := 74) (by decide) (fun hc => ?_) (fun hc => ?_)
        · have hv := hv1 hc
          clear hv1 hv2 hc
          refine g_blk hC _ bX1_sizeOf_74_77 (pc' := 77) (ls' := [some (.inr (some 95)), some (.inl a1), some (.inl x2_35), some (.inl x3_35), some (.inl x4_35)]) (st' := [.inl x3_35, .inl x2_35, .inl 1]) (I' := I) rfl rfl ?_
          refine g_max hC dX1_sizeOf_77 wl_X1_29 (by decide) (Nat.le_of_ble_eq_true rfl) ⟨Nat.le_refl _, Nat.le_refl _⟩ ?_
          refine g_max hC dX1_sizeOf_80 wl_X1_29 (by decide) (Nat.le_of_ble_eq_true rfl) ⟨Nat.le_refl _, Nat.le_refl _⟩ ?_
          exact g_reti hC hr rfl dX1_sizeOf_83 hv
        · have hv := hv2 hc
          clear hv1 hv2 hc
          refine g_blk hC _ bX1_sizeOf_42_50 (pc' := 50) (ls' := [some (.inr (some 95)), some (.inl a1), some (.inl x2_35), some (.inl x3_35), some (.inl x4_35)]) (st' := [.inl a1, .inl x4_35, .inr (some 3), .inl x2_35]) (I' := I) rfl rfl ?_
          refine g_callV hC (c_X5_straight l D ads I A x4_35 a1) dX1_sizeOf_50 nm_X5_straight rfl rfl wl_X1_23 wi_X5_straight ws_X5_straight wn_X5 wc_X5_straight ⟨by decide, by decide⟩ (as := [.inl x4_35, .inl a1]) (rest := [.inl x2_35]) rfl (Nat.le_of_ble_eq_true rfl) ⟨Nat.le_refl _, Nat.le_refl _⟩ (k_qI ?_)
          refine g_blk hC _ bX1_sizeOf_53_63 (pc' := 63) (ls' := [some (.inr (some 95)), some (.inl a1), some (.inl (x2_35 + (strI A x4_35 a1))), some (.inl x3_35), some (.inl x4_35)]) (st' := [.inl x4_35, .inl a1, .inr (some 3), .inl x3_35]) (I' := I) rfl rfl ?_
          refine g_callV hC (c_X5_straight l D ads I A a1 x4_35) dX1_sizeOf_63 nm_X5_straight rfl rfl wl_X1_23 wi_X5_straight ws_X5_straight wn_X5 wc_X5_straight ⟨by decide, by decide⟩ (as := [.inl a1, .inl x4_35]) (rest := [.inl x3_35]) rfl (Nat.le_of_ble_eq_true rfl) ⟨Nat.le_refl _, Nat.le_refl _⟩ (k_qI ?_)
          refine g_blk hC _ bX1_sizeOf_66_71 (pc' := 71) (ls' := [some (.inr (some 95)), some (.inl a1), some (.inl (x2_35 + (strI A x4_35 a1))), some (.inl (x3_35 + (strI A a1 x4_35))), some (.inl (x4_35 + 1))]) (st' := []) (I' := I) rfl rfl ?_
          refine g_goto hC dX1_sizeOf_71 (tgt := 35) (by decide) ?_
          exact g_weak (ls1 := [some (.inr (some 95)), some (.inl a1), some (.inl (x2_35 + (strI A x4_35 a1))), some (.inl (x3_35 + (strI A a1 x4_35))), some (.inl (x4_35 + 1))]) rfl (And.intro rfl (And.intro rfl (And.intro rfl (And.intro rfl (And.intro rfl trivial))))) (ih35 (x2_35 + (strI A x4_35 a1)) (x3_35 + (strI A a1 x4_35)) (x4_35 + 1) hv.1 (Nat.lt_of_lt_of_le hv.2 (Nat.le_of_lt_succ hn35)))
    exact g_weak (ls1 := [some (.inr (some 95)), some (.inl a1), some (.inl 0), some (.inl 0), some (.inl 0)]) rfl (And.intro rfl (And.intro rfl (And.intro rfl (And.intro rfl (And.intro rfl trivial))))) (L35 _ 0 0 0 hi35 (Nat.lt_succ_self _))
  · have hv := hv2 hc
    clear hv1 hv2 hc
    refine g_blk hC _ bX1_sizeOf_7_19 (pc' := 19) (ls' := [some (.inr (some 95)), some (.inl a1), some (.inl (a1 - 100)), none, none]) (st' := [.inl 10, .inl (a1 - 100), .inr (some 3)]) (I' := I) rfl rfl ?_
    refine g_idiv hC dX1_sizeOf_19 (by decide) ?_
    refine g_blk hC _ bX1_sizeOf_20_23 (pc' := 23) (ls' := [some (.inr (some 95)), some (.inl a1), some (.inl (a1 - 100)), none, none]) (st' := [.inl 10, .inl (a1 - 100), .inl ((a1 - 100) / 10), .inr (some 3)]) (I' := I) rfl rfl ?_
    refine g_irem hC dX1_sizeOf_23 (by decide) ?_
    refine g_callV hC (c_X5_straight l D ads I A ((a1 - 100) / 10) ((a1 - 100) - (a1 - 100) / 10 * 10)) dX1_sizeOf_24 nm_X5_straight rfl rfl wl_X1_23 wi_X5_straight ws_X5_straight wn_X5 wc_X5_straight ⟨by decide, by decide⟩ (as := [.inl ((a1 - 100) / 10), .inl ((a1 - 100) - (a1 - 100) / 10 * 10)]) (rest := []) rfl (Nat.le_of_ble_eq_true rfl) ⟨Nat.le_refl _, Nat.le_refl _⟩ (k_qI ?_)
    exact g_reti hC hr rfl dX1_sizeOf_27 hv
theorem bX1_topOf_0_6 : okB cX1_topOf RX1 0 [(5, 0, 0, 0, 0), (23, 15, 1, 1, 0), (3, 1, 0, 0, 0), (3, 2, 0, 0, 0)] := And.intro ⟨_, dX1_topOf_0, rfl⟩ (And.intro ⟨dX1_topOf_1, fl_X1_15⟩ (And.intro ⟨_, dX1_topOf_4, rfl⟩ (And.intro ⟨_, dX1_topOf_5, rfl⟩ trivial)))
theorem bX1_topOf_9_17 : okB cX1_topOf RX1 9 [(8, 4, 0, 0, 0), (0, 0, 0, 0, 0), (8, 5, 0, 0, 0), (0, 0, 0, 0, 0), (8, 6, 0, 0, 0)] := And.intro dX1_topOf_9 (And.intro ⟨_, dX1_topOf_11, by decide⟩ (And.intro dX1_topOf_12 (And.intro ⟨_, dX1_topOf_14, by decide⟩ (And.intro dX1_topOf_15 trivial))))
theorem bX1_topOf_17_21 : okB cX1_topOf RX1 17 [(4, 6, 0, 0, 0), (4, 4, 0, 0, 0)] := And.intro dX1_topOf_17 (And.intro dX1_topOf_19 trivial)
theorem bX1_topOf_51_53 : okB cX1_topOf RX1 51 [(4, 5, 0, 0, 0)] := And.intro dX1_topOf_51 trivial
theorem bX1_topOf_24_34 : okB cX1_topOf RX1 24 [(4, 5, 0, 0, 0), (5, 0, 0, 0, 0), (5, 0, 0, 0, 0), (23, 15, 1, 1, 0), (3, 1, 0, 0, 0), (4, 6, 0, 0, 0)] := And.intro dX1_topOf_24 (And.intro ⟨_, dX1_topOf_26, rfl⟩ (And.intro ⟨_, dX1_topOf_27, rfl⟩ (And.intro ⟨dX1_topOf_28, fl_X1_15⟩ (And.intro ⟨_, dX1_topOf_31, rfl⟩ (And.intro dX1_topOf_32 trivial)))))
theorem bX1_topOf_40_48 : okB cX1_topOf RX1 40 [(3, 3, 0, 0, 0), (12, 0, 0, 0, 0), (12, 0, 0, 0, 0), (8, 5, 0, 0, 0), (11, 6, 0, 0, 1)] := And.intro ⟨_, dX1_topOf_40, rfl⟩ (And.intro dX1_topOf_41 (And.intro dX1_topOf_42 (And.intro dX1_topOf_43 (And.intro ⟨_, dX1_topOf_45, by decide⟩ trivial))))
set_option maxHeartbeats 4000000 in
set_option maxRecDepth 100000 in
theorem k_X1_topOf (l : Launch) (D : va_G) (ads : AD) (I A : HI) (a1 : Int32) (a2 : Int32) (a3 : Int32) (po : Option AV → HI → HI → Prop) {pp_X6_spotOf : HI → HI → Int32 → Int32 → Prop} {ff_X6_spotOf : HI → HI → Int32 → Int32 → Int32} (hh_X6_spotOf : ∀ (I A : HI) (a1 : Int32) (a2 : Int32), pp_X6_spotOf I A a1 a2 → Ct l yX6_spotOf cX6_spotOf 4 (some .int) 3 64 D ads shp [.inr (some 29), .inl a1, .inl a2] I A (qI (ff_X6_spotOf I A a1 a2) I A)) {pp_X6_shownAt : HI → HI → Int32 → Int32 → Prop} {ff_X6_shownAt : HI → HI → Int32 → Int32 → Int32} (hh_X6_shownAt : ∀ (I A : HI) (a1 : Int32) (a2 : Int32), pp_X6_shownAt I A a1 a2 → Ct l yX6_shownAt cX6_shownAt 3 (some .int) 2 42 D ads shp [.inr (some 29), .inl a1, .inl a2] I A (qI (ff_X6_shownAt I A a1 a2) I A)) {pp_X1_sizeOf : HI → HI → Int32 → Prop} {ff_X1_sizeOf : HI → HI → Int32 → Int32} (hh_X1_sizeOf : ∀ (I A : HI) (a1 : Int32), pp_X1_sizeOf I A a1 → Ct l yX1_sizeOf cX1_sizeOf 5 (some .int) 2 43 D ads shp [.inr (some 95), .inl a1] I A (qI (ff_X1_sizeOf I A a1) I A)) (Iv17 : Int32 → Int32 → Prop) (mu17 : Int32 → Int32 → Nat)
    (hv : ((pp_X6_spotOf I A a1 a2) ∧ (Iv17 0 0 ∧ ∀ (x5_17 : Int32) (x6_17 : Int32), Iv17 x5_17 x6_17 → (((ff_X6_spotOf I A a1 a2) ≤ x6_17 → po (some (.inl x5_17)) I A) ∧ (¬ (ff_X6_spotOf I A a1 a2) ≤ x6_17 → ((pp_X6_shownAt I A a1 x6_17) ∧ ((pp_X1_sizeOf I A (ff_X6_shownAt I A a1 x6_17)) ∧ (Iv17 (x5_17 + ((ff_X1_sizeOf I A (ff_X6_shownAt I A a1 x6_17)) + a3)) (x6_17 + 1) ∧ mu17 (x5_17 + ((ff_X1_sizeOf I A (ff_X6_shownAt I A a1 x6_17)) + a3)) (x6_17 + 1) < mu17 x5_17 x6_17)))))))) : Ct l yX1_topOf cX1_topOf 7 (some .int) 4 87 D ads shp [.inr (some 95), .inl a1, .inl a2, .inl a3] I A po := by
  refine Ct_of (by decide) (Nat.le_of_ble_eq_true rfl) ?_
  intro p e s m args below meth c hC hr
  replace hC : CX p s m args meth c cX1_topOf 7 RX1 (AdS ads s.heap.size) := hC
  show Gm p l e s m args below meth c D ads 4 87 7 po I A 0 [some (.inr (some 95)), some (.inl a1), some (.inl a2), some (.inl a3), none, none, none] []
  refine g_blk hC _ bX1_topOf_0_6 (pc' := 6) (ls' := [some (.inr (some 95)), some (.inl a1), some (.inl a2), some (.inl a3), none, none, none]) (st' := [.inl a2, .inl a1, .inr (some 29)]) (I' := I) rfl rfl ?_
  obtain ⟨hp1, hv⟩ := hv
  refine g_callV hC (hh_X6_spotOf I A a1 a2 hp1) dX1_topOf_6 nm_X6_spotOf rfl rfl wl_X1_34 wi_X6_spotOf ws_X6_spotOf wn_X6 wc_X6_spotOf ⟨by decide, by decide⟩ (as := [.inl a1, .inl a2]) (rest := []) rfl (Nat.le_of_ble_eq_true rfl) ⟨Nat.le_refl _, Nat.le_refl _⟩ (k_qI ?_)
  refine g_blk hC _ bX1_topOf_9_17 (pc' := 17) (ls' := [some (.inr (some 95)), some (.inl a1), some (.inl a2), some (.inl a3), some (.inl (ff_X6_spotOf I A a1 a2)), some (.inl 0), some (.inl 0)]) (st' := []) (I' := I) rfl rfl ?_
  obtain ⟨hi17, hb17⟩ := hv
  have L17 : ∀ (n : Nat) (x5_17 : Int32) (x6_17 : Int32), Iv17 x5_17 x6_17 → mu17 x5_17 x6_17 < n → Gm p l e s m args below meth c D ads 4 87 7 po I A 17 [some (.inr (some 95)), some (.inl a1), none, some (.inl a3), some (.inl (ff_X6_spotOf I A a1 a2)), some (.inl x5_17), some (.inl x6_17)] [] := by
    intro n
    induction n with
    | zero => intro x5_17 x6_17 _ hn; exact absurd hn (Nat.not_lt_zero _)
    | succ n ih17 =>
      intro x5_17 x6_17 hv hn17
      replace hv := hb17 x5_17 x6_17 hv
      skip
      refine g_blk hC _ bX1_topOf_17_21 (pc' := 21) (ls' := [some (.inr (some 95)), some (.inl a1), none, some (.inl a3), some (.inl (ff_X6_spotOf I A a1 a2)), some (.inl x5_17), some (.inl x6_17)]) (st' := [.inl (ff_X6_spotOf I A a1 a2), .inl x6_17]) (I' := I) rfl rfl ?_
      obtain ⟨hv1, hv2⟩ := hv
      refine g_cge hC dX1_topOf_21 (tgt := 51) (by decide) (fun hc => ?_) (fun hc => ?_)
      · have hv := hv1 hc
        clear hv1 hv2 hc
        refine g_blk hC _ bX1_topOf_51_53 (pc' := 53) (ls' := [some (.inr (some 95)), some (.inl a1), none, some (.inl a3), some (.inl (ff_X6_spotOf I A a1 a2)), some (.inl x5_17), some (.inl x6_17)]) (st' := [.inl x5_17]) (I' := I) rfl rfl ?_
        exact g_reti hC hr rfl dX1_topOf_53 hv
      · have hv := hv2 hc
        clear hv1 hv2 hc
        refine g_blk hC _ bX1_topOf_24_34 (pc' := 34) (ls' := [some (.inr (some 95)), some (.inl a1), none, some (.inl a3), some (.inl (ff_X6_spotOf I A a1 a2)), some (.inl x5_17), some (.inl x6_17)]) (st' := [.inl x6_17, .inl a1, .inr (some 29), .inr (some 95), .inl x5_17]) (I' := I) rfl rfl ?_
        obtain ⟨hp2, hv⟩ := hv
        refine g_callV hC (hh_X6_shownAt I A a1 x6_17 hp2) dX1_topOf_34 nm_X6_shownAt rfl rfl wl_X1_39 wi_X6_shownAt ws_X6_shownAt wn_X6 wc_X6_shownAt ⟨by decide, by decide⟩ (as := [.inl a1, .inl x6_17]) (rest := [.inr (some 95), .inl x5_17]) rfl (Nat.le_of_ble_eq_true rfl) ⟨Nat.le_refl _, Nat.le_refl _⟩ (k_qI ?_)
        obtain ⟨hp3, hv⟩ := hv
        refine g_callV hC (hh_X1_sizeOf I A (ff_X6_shownAt I A a1 x6_17) hp3) dX1_topOf_37 nm_X1_sizeOf rfl rfl wl_X1_42 wi_X1_sizeOf ws_X1_sizeOf wn_X1 wc_X1_sizeOf ⟨by decide, by decide⟩ (as := [.inl (ff_X6_shownAt I A a1 x6_17)]) (rest := [.inl x5_17]) rfl (Nat.le_of_ble_eq_true rfl) ⟨Nat.le_refl _, Nat.le_refl _⟩ (k_qI ?_)
        refine g_blk hC _ bX1_topOf_40_48 (pc' := 48) (ls' := [some (.inr (some 95)), some (.inl a1), none, some (.inl a3), some (.inl (ff_X6_spotOf I A a1 a2)), some (.inl (x5_17 + ((ff_X1_sizeOf I A (ff_X6_shownAt I A a1 x6_17)) + a3))), some (.inl (x6_17 + 1))]) (st' := []) (I' := I) rfl rfl ?_
        refine g_goto hC dX1_topOf_48 (tgt := 17) (by decide) ?_
        exact g_weak (ls1 := [some (.inr (some 95)), some (.inl a1), none, some (.inl a3), some (.inl (ff_X6_spotOf I A a1 a2)), some (.inl (x5_17 + ((ff_X1_sizeOf I A (ff_X6_shownAt I A a1 x6_17)) + a3))), some (.inl (x6_17 + 1))]) rfl (And.intro rfl (And.intro rfl (And.intro rfl (And.intro rfl (And.intro rfl (And.intro rfl trivial)))))) (ih17 (x5_17 + ((ff_X1_sizeOf I A (ff_X6_shownAt I A a1 x6_17)) + a3)) (x6_17 + 1) hv.1 (Nat.lt_of_lt_of_le hv.2 (Nat.le_of_lt_succ hn17)))
  exact g_weak (ls1 := [some (.inr (some 95)), some (.inl a1), none, some (.inl a3), some (.inl (ff_X6_spotOf I A a1 a2)), some (.inl 0), some (.inl 0)]) rfl (And.intro rfl (And.intro rfl (And.intro rfl (And.intro rfl (And.intro rfl (And.intro rfl trivial)))))) (L17 _ 0 0 hi17 (Nat.lt_succ_self _))
theorem bX1_endOf_0_6 : okB cX1_endOf RX1 0 [(3, 3, 0, 0, 0), (5, 0, 0, 0, 0), (23, 9, 1, 0, 0), (3, 1, 0, 0, 0)] := And.intro ⟨_, dX1_endOf_0, rfl⟩ (And.intro ⟨_, dX1_endOf_1, rfl⟩ (And.intro ⟨dX1_endOf_2, fl_X1_9⟩ (And.intro ⟨_, dX1_endOf_5, rfl⟩ trivial)))
theorem bX1_endOf_14_23 : okB cX1_endOf RX1 14 [(5, 0, 0, 0, 0), (3, 3, 0, 0, 0), (5, 0, 0, 0, 0), (23, 9, 1, 0, 0), (3, 1, 0, 0, 0), (3, 2, 0, 0, 0), (3, 3, 0, 0, 0)] := And.intro ⟨_, dX1_endOf_14, rfl⟩ (And.intro ⟨_, dX1_endOf_15, rfl⟩ (And.intro ⟨_, dX1_endOf_16, rfl⟩ (And.intro ⟨dX1_endOf_17, fl_X1_9⟩ (And.intro ⟨_, dX1_endOf_20, rfl⟩ (And.intro ⟨_, dX1_endOf_21, rfl⟩ (And.intro ⟨_, dX1_endOf_22, rfl⟩ trivial))))))
theorem bX1_endOf_26_28 : okB cX1_endOf RX1 26 [(4, 4, 0, 0, 0)] := And.intro dX1_endOf_26 trivial
theorem bX1_endOf_31_39 : okB cX1_endOf RX1 31 [(8, 5, 0, 0, 0), (3, 3, 0, 0, 0), (5, 0, 0, 0, 0), (23, 9, 1, 0, 0), (3, 2, 0, 0, 0)] := And.intro dX1_endOf_31 (And.intro ⟨_, dX1_endOf_33, rfl⟩ (And.intro ⟨_, dX1_endOf_34, rfl⟩ (And.intro ⟨dX1_endOf_35, fl_X1_9⟩ (And.intro ⟨_, dX1_endOf_38, rfl⟩ trivial))))
theorem bX1_endOf_48_64 : okB cX1_endOf RX1 48 [(5, 0, 0, 0, 0), (23, 15, 1, 1, 0), (3, 3, 0, 0, 0), (0, 0, 0, 0, 1), (13, 0, 0, 0, 0), (5, 0, 0, 0, 0), (23, 9, 1, 0, 0), (3, 1, 0, 0, 0), (3, 2, 0, 0, 0), (3, 3, 0, 0, 0), (0, 0, 0, 0, 1), (13, 0, 0, 0, 0)] := And.intro ⟨_, dX1_endOf_48, rfl⟩ (And.intro ⟨dX1_endOf_49, fl_X1_15⟩ (And.intro ⟨_, dX1_endOf_52, rfl⟩ (And.intro ⟨_, dX1_endOf_53, by decide⟩ (And.intro dX1_endOf_54 (And.intro ⟨_, dX1_endOf_55, rfl⟩ (And.intro ⟨dX1_endOf_56, fl_X1_9⟩ (And.intro ⟨_, dX1_endOf_59, rfl⟩ (And.intro ⟨_, dX1_endOf_60, rfl⟩ (And.intro ⟨_, dX1_endOf_61, rfl⟩ (And.intro ⟨_, dX1_endOf_62, by decide⟩ (And.intro dX1_endOf_63 trivial)))))))))))
theorem bX1_endOf_70_75 : okB cX1_endOf RX1 70 [(8, 6, 0, 0, 0), (0, 0, 0, 0, 0), (8, 7, 0, 0, 0)] := And.intro dX1_endOf_70 (And.intro ⟨_, dX1_endOf_72, by decide⟩ (And.intro dX1_endOf_73 trivial))
theorem bX1_endOf_75_79 : okB cX1_endOf RX1 75 [(4, 7, 0, 0, 0), (1, 0, 0, 0, 10)] := And.intro dX1_endOf_75 (And.intro ⟨_, dX1_endOf_77, by decide⟩ trivial)
theorem bX1_endOf_140_142 : okB cX1_endOf RX1 140 [(4, 5, 0, 0, 0)] := And.intro dX1_endOf_140 trivial
theorem bX1_endOf_82_89 : okB cX1_endOf RX1 82 [(5, 0, 0, 0, 0), (23, 9, 1, 0, 0), (4, 7, 0, 0, 0), (3, 2, 0, 0, 0)] := And.intro ⟨_, dX1_endOf_82, rfl⟩ (And.intro ⟨dX1_endOf_83, fl_X1_9⟩ (And.intro dX1_endOf_86 (And.intro ⟨_, dX1_endOf_88, rfl⟩ trivial)))
theorem bX1_endOf_92_96 : okB cX1_endOf RX1 92 [(8, 8, 0, 0, 0), (4, 8, 0, 0, 0)] := And.intro dX1_endOf_92 (And.intro dX1_endOf_94 trivial)
theorem bX1_endOf_134_137 : okB cX1_endOf RX1 134 [(11, 7, 0, 0, 1)] := And.intro ⟨_, dX1_endOf_134, by decide⟩ trivial
theorem bX1_endOf_99_116 : okB cX1_endOf RX1 99 [(5, 0, 0, 0, 0), (23, 15, 1, 1, 0), (3, 3, 0, 0, 0), (0, 0, 0, 0, 1), (13, 0, 0, 0, 0), (5, 0, 0, 0, 0), (23, 9, 1, 0, 0), (4, 7, 0, 0, 0), (3, 2, 0, 0, 0), (3, 3, 0, 0, 0), (0, 0, 0, 0, 1), (13, 0, 0, 0, 0)] := And.intro ⟨_, dX1_endOf_99, rfl⟩ (And.intro ⟨dX1_endOf_100, fl_X1_15⟩ (And.intro ⟨_, dX1_endOf_103, rfl⟩ (And.intro ⟨_, dX1_endOf_104, by decide⟩ (And.intro dX1_endOf_105 (And.intro ⟨_, dX1_endOf_106, rfl⟩ (And.intro ⟨dX1_endOf_107, fl_X1_9⟩ (And.intro dX1_endOf_110 (And.intro ⟨_, dX1_endOf_112, rfl⟩ (And.intro ⟨_, dX1_endOf_113, rfl⟩ (And.intro ⟨_, dX1_endOf_114, by decide⟩ (And.intro dX1_endOf_115 trivial)))))))))))
theorem bX1_endOf_122_124 : okB cX1_endOf RX1 122 [(4, 6, 0, 0, 0)] := And.intro dX1_endOf_122 trivial
theorem bX1_endOf_127_137 : okB cX1_endOf RX1 127 [(4, 5, 0, 0, 0), (4, 8, 0, 0, 0), (12, 0, 0, 0, 0), (8, 5, 0, 0, 0), (11, 7, 0, 0, 1)] := And.intro dX1_endOf_127 (And.intro dX1_endOf_129 (And.intro dX1_endOf_131 (And.intro dX1_endOf_132 (And.intro ⟨_, dX1_endOf_134, by decide⟩ trivial))))
theorem bX1_endOf_45_47 : okB cX1_endOf RX1 45 [(4, 5, 0, 0, 0)] := And.intro dX1_endOf_45 trivial
theorem bX1_endOf_12_13 : okB cX1_endOf RX1 12 [(0, 0, 0, 0, (-1))] := And.intro ⟨_, dX1_endOf_12, by decide⟩ trivial
set_option maxHeartbeats 4000000 in
set_option maxRecDepth 100000 in
theorem k_X1_endOf (l : Launch) (D : va_G) (ads : AD) (I A : HI) (a1 : Int32) (a2 : Int32) (a3 : Int32) (a4 : Int32) (po : Option AV → HI → HI → Prop) {pp_X1_topOf : HI → HI → Int32 → Int32 → Int32 → Prop} {ff_X1_topOf : HI → HI → Int32 → Int32 → Int32 → Int32} (hh_X1_topOf : ∀ (I A : HI) (a1 : Int32) (a2 : Int32) (a3 : Int32), pp_X1_topOf I A a1 a2 a3 → Ct l yX1_topOf cX1_topOf 7 (some .int) 4 87 D ads shp [.inr (some 95), .inl a1, .inl a2, .inl a3] I A (qI (ff_X1_topOf I A a1 a2 a3) I A)) {pp_X6_spotOf : HI → HI → Int32 → Int32 → Prop} {ff_X6_spotOf : HI → HI → Int32 → Int32 → Int32} (hh_X6_spotOf : ∀ (I A : HI) (a1 : Int32) (a2 : Int32), pp_X6_spotOf I A a1 a2 → Ct l yX6_spotOf cX6_spotOf 4 (some .int) 3 64 D ads shp [.inr (some 29), .inl a1, .inl a2] I A (qI (ff_X6_spotOf I A a1 a2) I A)) (Iv75 : Int32 → Int32 → Prop) (mu75 : Int32 → Int32 → Nat)
    (hv : ((vp_in a1 10) ∧ ((¬ a3 = (A 11 a1.toNatClampNeg) → ((vp_in a1 10 ∧ vp_in a2 10) ∧ ((pp_X1_topOf I A a3 (itmI (A 11) a1 a2 a3) a4) ∧ ((vp_in a2 10) ∧ ((a3 = (A 11 a2.toNatClampNeg) → ((vp_in a1 10 ∧ vp_in a2 10) ∧ ((pp_X6_spotOf I A (a3 - 1) (itmI (A 11) a1 a2 (a3 - 1))) ∧ (Iv75 (ff_X1_topOf I A a3 (itmI (A 11) a1 a2 a3) a4) 0 ∧ ∀ (x5_75 : Int32) (x7_75 : Int32), Iv75 x5_75 x7_75 → ((10 ≤ x7_75 → po (some (.inl x5_75)) I A) ∧ (¬ 10 ≤ x7_75 → (((strI A x7_75 a2) ≤ 0 → (Iv75 x5_75 (x7_75 + 1) ∧ mu75 x5_75 (x7_75 + 1) < mu75 x5_75 x7_75)) ∧ (¬ (strI A x7_75 a2) ≤ 0 → ((vp_in x7_75 10 ∧ vp_in a2 10) ∧ ((pp_X6_spotOf I A (a3 - 1) (itmI (A 11) x7_75 a2 (a3 - 1))) ∧ (((ff_X6_spotOf I A (a3 - 1) (itmI (A 11) a1 a2 (a3 - 1))) ≤ (ff_X6_spotOf I A (a3 - 1) (itmI (A 11) x7_75 a2 (a3 - 1))) → (Iv75 x5_75 (x7_75 + 1) ∧ mu75 x5_75 (x7_75 + 1) < mu75 x5_75 x7_75)) ∧ (¬ (ff_X6_spotOf I A (a3 - 1) (itmI (A 11) a1 a2 (a3 - 1))) ≤ (ff_X6_spotOf I A (a3 - 1) (itmI (A 11) x7_75 a2 (a3 - 1))) → (Iv75 (x5_75 + (strI A x7_75 a2)) (x7_75 + 1) ∧ mu75 (x5_75 + (strI A x7_75 a2)) (x7_75 + 1) < mu75 x5_75 x7_75))))))))))))) ∧ (¬ a3 = (A 11 a2.toNatClampNeg) → po (some (.inl (ff_X1_topOf I A a3 (itmI (A 11) a1 a2 a3) a4))) I A)))))) ∧ (a3 = (A 11 a1.toNatClampNeg) → po (some (.inl ((-1)))) I A)))) : Ct l yX1_endOf cX1_endOf 9 (some .int) 5 113 D ads shp [.inr (some 95), .inl a1, .inl a2, .inl a3, .inl a4] I A po := by
  refine Ct_of (by decide) (Nat.le_of_ble_eq_true rfl) ?_
  intro p e s m args below meth c hC hr
  replace hC : CX p s m args meth c cX1_endOf 9 RX1 (AdS ads s.heap.size) := hC
  show Gm p l e s m args below meth c D ads 5 113 9 po I A 0 [some (.inr (some 95)), some (.inl a1), some (.inl a2), some (.inl a3), some (.inl a4), none, none, none, none] []
  refine g_blk hC _ bX1_endOf_0_6 (pc' := 6) (ls' := [some (.inr (some 95)), some (.inl a1), some (.inl a2), some (.inl a3), some (.inl a4), none, none, none, none]) (st' := [.inl a1, .inr (some 3), .inl a3]) (I' := I) rfl rfl ?_
  obtain ⟨hp1, hv⟩ := hv
  refine g_callV hC (c_X5_layerOf l D ads I A a1 hp1) dX1_endOf_6 nm_X5_layerOf rfl rfl wl_X1_46 wi_X5_layerOf ws_X5_layerOf wn_X5 wc_X5_layerOf ⟨by decide, by decide⟩ (as := [.inl a1]) (rest := [.inl a3]) rfl (Nat.le_of_ble_eq_true rfl) ⟨Nat.le_refl _, Nat.le_refl _⟩ (k_qI ?_)
  obtain ⟨hv1, hv2⟩ := hv
  refine g_cne hC dX1_endOf_9 (tgt := 14) (by decide) (fun hc => ?_) (fun hc => ?_)
  · have hv := hv1 hc
    clear hv1 hv2 hc
    refine g_blk hC _ bX1_endOf_14_23 (pc' := 23) (ls' := [some (.inr (some 95)), some (.inl a1), some (.inl a2), some (.inl a3), some (.inl a4), none, none, none, none]) (st' := [.inl a3, .inl a2, .inl a1, .inr (some 3), .inl a3, .inr (some 95)]) (I' := I) rfl rfl ?_
    obtain ⟨hp2, hv⟩ := hv
    refine g_callV hC (c_X5_itemOf l D ads I A a1 a2 a3 hp2) dX1_endOf_23 nm_X5_itemOf rfl rfl wl_X1_49 wi_X5_itemOf ws_X5_itemOf wn_X5 wc_X5_itemOf ⟨by decide, by decide⟩ (as := [.inl a1, .inl a2, .inl a3]) (rest := [.inl a3, .inr (some 95)]) rfl (Nat.le_of_ble_eq_true rfl) ⟨Nat.le_refl _, Nat.le_refl _⟩ (k_qI ?_)
    refine g_blk hC _ bX1_endOf_26_28 (pc' := 28) (ls' := [some (.inr (some 95)), some (.inl a1), some (.inl a2), some (.inl a3), some (.inl a4), none, none, none, none]) (st' := [.inl a4, .inl (itmI (A 11) a1 a2 a3), .inl a3, .inr (some 95)]) (I' := I) rfl rfl ?_
    obtain ⟨hp3, hv⟩ := hv
    refine g_callV hC (hh_X1_topOf I A a3 (itmI (A 11) a1 a2 a3) a4 hp3) dX1_endOf_28 nm_X1_topOf rfl rfl wl_X1_53 wi_X1_topOf ws_X1_topOf wn_X1 wc_X1_topOf ⟨by decide, by decide⟩ (as := [.inl a3, .inl (itmI (A 11) a1 a2 a3), .inl a4]) (rest := []) rfl (Nat.le_of_ble_eq_true rfl) ⟨Nat.le_refl _, Nat.le_refl _⟩ (k_qI ?_)
    refine g_blk hC _ bX1_endOf_31_39 (pc' := 39) (ls' := [some (.inr (some 95)), some (.inl a1), some (.inl a2), some (.inl a3), some (.inl a4), some (.inl (ff_X1_topOf I A a3 (itmI (A 11) a1 a2 a3) a4)), none, none, none]) (st' := [.inl a2, .inr (some 3), .inl a3]) (I' := I) rfl rfl ?_
    obtain ⟨hp4, hv⟩ := hv
    refine g_callV hC (c_X5_layerOf l D ads I A a2 hp4) dX1_endOf_39 nm_X5_layerOf rfl rfl wl_X1_46 wi_X5_layerOf ws_X5_layerOf wn_X5 wc_X5_layerOf ⟨by decide, by decide⟩ (as := [.inl a2]) (rest := [.inl a3]) rfl (Nat.le_of_ble_eq_true rfl) ⟨Nat.le_refl _, Nat.le_refl _⟩ (k_qI ?_)
    obtain ⟨hv1, hv2⟩ := hv
    refine g_ceq hC dX1_endOf_42 (tgt := 48) (by decide) (fun hc => ?_) (fun hc => ?_)
    · have hv := hv1 hc
      clear hv1 hv2 hc
      refine g_blk hC _ bX1_endOf_48_64 (pc' := 64) (ls' := [some (.inr (some 95)), some (.inl a1), some (.inl a2), some (.inl a3), some (.inl a4), some (.inl (ff_X1_topOf I A a3 (itmI (A 11) a1 a2 a3) a4)), none, none, none]) (st' := [.inl (a3 - 1), .inl a2, .inl a1, .inr (some 3), .inl (a3 - 1), .inr (some 29)]) (I' := I) rfl rfl ?_
      obtain ⟨hp5, hv⟩ := hv
      refine g_callV hC (c_X5_itemOf l D ads I A a1 a2 (a3 - 1) hp5) dX1_endOf_64 nm_X5_itemOf rfl rfl wl_X1_49 wi_X5_itemOf ws_X5_itemOf wn_X5 wc_X5_itemOf ⟨by decide, by decide⟩ (as := [.inl a1, .inl a2, .inl (a3 - 1)]) (rest := [.inl (a3 - 1), .inr (some 29)]) rfl (Nat.le_of_ble_eq_true rfl) ⟨Nat.le_refl _, Nat.le_refl _⟩ (k_qI ?_)
      obtain ⟨hp6, hv⟩ := hv
      refine g_callV hC (hh_X6_spotOf I A (a3 - 1) (itmI (A 11) a1 a2 (a3 - 1)) hp6) dX1_endOf_67 nm_X6_spotOf rfl rfl wl_X1_34 wi_X6_spotOf ws_X6_spotOf wn_X6 wc_X6_spotOf ⟨by decide, by decide⟩ (as := [.inl (a3 - 1), .inl (itmI (A 11) a1 a2 (a3 - 1))]) (rest := []) rfl (Nat.le_of_ble_eq_true rfl) ⟨Nat.le_refl _, Nat.le_refl _⟩ (k_qI ?_)
      refine g_blk hC _ bX1_endOf_70_75 (pc' := 75) (ls' := [some (.inr (some 95)), some (.inl a1), some (.inl a2), some (.inl a3), some (.inl a4), some (.inl (ff_X1_topOf I A a3 (itmI (A 11) a1 a2 a3) a4)), some (.inl (ff_X6_spotOf I A (a3 - 1) (itmI (A 11) a1 a2 (a3 - 1)))), some (.inl 0), none]) (st' := []) (I' := I) rfl rfl ?_
      obtain ⟨hi75, hb75⟩ := hv
      have L75 : ∀ (n : Nat) (x5_75 : Int32) (x7_75 : Int32), Iv75 x5_75 x7_75 → mu75 x5_75 x7_75 < n → Gm p l e s m args below meth c D ads 5 113 9 po I A 75 [some (.inr (some 95)), none, some (.inl a2), some (.inl a3), none, some (.inl x5_75), some (.inl (ff_X6_spotOf I A (a3 - 1) (itmI (A 11) a1 a2 (a3 - 1)))), some (.inl x7_75), none] [] := by
        intro n
        induction n with
        | zero => intro x5_75 x7_75 _ hn; exact absurd hn (Nat.not_lt_zero _)
        | succ n ih75 =>
          intro x5_75 x7_75 hv hn75
          replace hv := hb75 x5_75 x7_75 hv
          skip
          refine g_blk hC _ bX1_endOf_75_79 (pc' := 79) (ls' := [some (.inr (some 95)), none, some (.inl a2), some (.inl a3), none, some (.inl x5_75), some (.inl (ff_X6_spotOf I A (a3 - 1) (itmI (A 11) a1 a2 (a3 - 1)))), some (.inl x7_75), none]) (st' := [.inl 10, .inl x7_75]) (I' := I) rfl rfl ?_
          obtain ⟨hv1, hv2⟩ := hv
          refine g_cge hC dX1_endOf_79 (tgt := 140) (by decide) (fun hc => ?_) (fun hc => ?_)
          · have hv := hv1 hc
            clear hv1 hv2 hc
            refine g_blk hC _ bX1_endOf_140_142 (pc' := 142) (ls' := [some (.inr (some 95)), none, some (.inl a2), some (.inl a3), none, some (.inl x5_75), some (.inl (ff_X6_spotOf I A (a3 - 1) (itmI (A 11) a1 a2 (a3 - 1)))), some (.inl x7_75), none]) (st' := [.inl x5_75]) (I' := I) rfl rfl ?_
            exact g_reti hC hr rfl dX1_endOf_142 hv
          · have hv := hv2 hc
            clear hv1 hv2 hc
            refine g_blk hC _ bX1_endOf_82_89 (pc' := 89) (ls' := [some (.inr (some 95)), none, some (.inl a2), some (.inl a3), none, some (.inl x5_75), some (.inl (ff_X6_spotOf I A (a3 - 1) (itmI (A 11) a1 a2 (a3 - 1)))), some (.inl x7_75), none]) (st' := [.inl a2, .inl x7_75, .inr (some 3)]) (I' := I) rfl rfl ?_
            refine g_callV hC (c_X5_straight l D ads I A x7_75 a2) dX1_endOf_89 nm_X5_straight rfl rfl wl_X1_23 wi_X5_straight ws_X5_straight wn_X5 wc_X5_straight ⟨by decide, by decide⟩ (as := [.inl x7_75, .inl a2]) (rest := []) rfl (Nat.le_of_ble_eq_true rfl) ⟨Nat.le_refl _, Nat.le_refl _⟩ (k_qI ?_)
            refine g_blk hC _ bX1_endOf_92_96 (pc' := 96) (ls' := [some (.inr (some 95)), none, some (.inl a2), some (.inl a3), none, some (.inl x5_75), some (.inl (ff_X6_spotOf I A (a3 - 1) (itmI (A 11) a1 a2 (a3 - 1)))), some (.inl x7_75), some (.inl (strI A x7_75 a2))]) (st' := [.inl (strI A x7_75 a2)]) (I' := I) rfl rfl ?_
            obtain ⟨hv1, hv2⟩ := hv
            refine g_ifle hC dX1_endOf_96 (tgt := 134) (by decide) (fun hc => ?_) (fun hc => ?_)
            · have hv := hv1 hc
              clear hv1 hv2 hc
              refine g_blk hC _ bX1_endOf_134_137 (pc' := 137) (ls' := [some (.inr (some 95)), none, some (.inl a2), some (.inl a3), none, some (.inl x5_75), some (.inl (ff_X6_spotOf I A (a3 - 1) (itmI (A 11) a1 a2 (a3 - 1)))), some (.inl (x7_75 + 1)), some (.inl (strI A x7_75 a2))]) (st' := []) (I' := I) rfl rfl ?_
              refine g_goto hC dX1_endOf_137 (tgt := 75) (by decide) ?_
              exact g_weak (ls1 := [some (.inr (some 95)), none, some (.inl a2), some (.inl a3), none, some (.inl x5_75), some (.inl (ff_X6_spotOf I A (a3 - 1) (itmI (A 11) a1 a2 (a3 - 1)))), some (.inl (x7_75 + 1)), none]) rfl (And.intro rfl (And.intro rfl (And.intro rfl (And.intro rfl (And.intro rfl (And.intro rfl trivial)))))) (ih75 x5_75 (x7_75 + 1) hv.1 (Nat.lt_of_lt_of_le hv.2 (Nat.le_of_lt_succ hn75)))
            · have hv := hv2 hc
              clear hv1 hv2 hc
              refine g_blk hC _ bX1_endOf_99_116 (pc' := 116) (ls' := [some (.inr (some 95)), none, some (.inl a2), some (.inl a3), none, some (.inl x5_75), some (.inl (ff_X6_spotOf I A (a3 - 1) (itmI (A 11) a1 a2 (a3 - 1)))), some (.inl x7_75), some (.inl (strI A x7_75 a2))]) (st' := [.inl (a3 - 1), .inl a2, .inl x7_75, .inr (some 3), .inl (a3 - 1), .inr (some 29)]) (I' := I) rfl rfl ?_
              obtain ⟨hp8, hv⟩ := hv
              refine g_callV hC (c_X5_itemOf l D ads I A x7_75 a2 (a3 - 1) hp8) dX1_endOf_116 nm_X5_itemOf rfl rfl wl_X1_49 wi_X5_itemOf ws_X5_itemOf wn_X5 wc_X5_itemOf ⟨by decide, by decide⟩ (as := [.inl x7_75, .inl a2, .inl (a3 - 1)]) (rest := [.inl (a3 - 1), .inr (some 29)]) rfl (Nat.le_of_ble_eq_true rfl) ⟨Nat.le_refl _, Nat.le_refl _⟩ (k_qI ?_)
              obtain ⟨hp9, hv⟩ := hv
              refine g_callV hC (hh_X6_spotOf I A (a3 - 1) (itmI (A 11) x7_75 a2 (a3 - 1)) hp9) dX1_endOf_119 nm_X6_spotOf rfl rfl wl_X1_34 wi_X6_spotOf ws_X6_spotOf wn_X6 wc_X6_spotOf ⟨by decide, by decide⟩ (as := [.inl (a3 - 1), .inl (itmI (A 11) x7_75 a2 (a3 - 1))]) (rest := []) rfl (Nat.le_of_ble_eq_true rfl) ⟨Nat.le_refl _, Nat.le_refl _⟩ (k_qI ?_)
              refine g_blk hC _ bX1_endOf_122_124 (pc' := 124) (ls' := [some (.inr (some 95)), none, some (.inl a2), some (.inl a3), none, some (.inl x5_75), some (.inl (ff_X6_spotOf I A (a3 - 1) (itmI (A 11) a1 a2 (a3 - 1)))), some (.inl x7_75), some (.inl (strI A x7_75 a2))]) (st' := [.inl (ff_X6_spotOf I A (a3 - 1) (itmI (A 11) a1 a2 (a3 - 1))), .inl (ff_X6_spotOf I A (a3 - 1) (itmI (A 11) x7_75 a2 (a3 - 1)))]) (I' := I) rfl rfl ?_
              obtain ⟨hv1, hv2⟩ := hv
              refine g_cge hC dX1_endOf_124 (tgt := 134) (by decide) (fun hc => ?_) (fun hc => ?_)
              · have hv := hv1 hc
                clear hv1 hv2 hc
                refine g_blk hC _ bX1_endOf_134_137 (pc' := 137) (ls' := [some (.inr (some 95)), none, some (.inl a2), some (.inl a3), none, some (.inl x5_75), some (.inl (ff_X6_spotOf I A (a3 - 1) (itmI (A 11) a1 a2 (a3 - 1)))), some (.inl (x7_75 + 1)), some (.inl (strI A x7_75 a2))]) (st' := []) (I' := I) rfl rfl ?_
                refine g_goto hC dX1_endOf_137 (tgt := 75) (by decide) ?_
                exact g_weak (ls1 := [some (.inr (some 95)), none, some (.inl a2), some (.inl a3), none, some (.inl x5_75), some (.inl (ff_X6_spotOf I A (a3 - 1) (itmI (A 11) a1 a2 (a3 - 1)))), some (.inl (x7_75 + 1)), none]) rfl (And.intro rfl (And.intro rfl (And.intro rfl (And.intro rfl (And.intro rfl (And.intro rfl trivial)))))) (ih75 x5_75 (x7_75 + 1) hv.1 (Nat.lt_of_lt_of_le hv.2 (Nat.le_of_lt_succ hn75)))
              · have hv := hv2 hc
                clear hv1 hv2 hc
                refine g_blk hC _ bX1_endOf_127_137 (pc' := 137) (ls' := [some (.inr (some 95)), none, some (.inl a2), some (.inl a3), none, some (.inl (x5_75 + (strI A x7_75 a2))), some (.inl (ff_X6_spotOf I A (a3 - 1) (itmI (A 11) a1 a2 (a3 - 1)))), some (.inl (x7_75 + 1)), some (.inl (strI A x7_75 a2))]) (st' := []) (I' := I) rfl rfl ?_
                refine g_goto hC dX1_endOf_137 (tgt := 75) (by decide) ?_
                exact g_weak (ls1 := [some (.inr (some 95)), none, some (.inl a2), some (.inl a3), none, some (.inl (x5_75 + (strI A x7_75 a2))), some (.inl (ff_X6_spotOf I A (a3 - 1) (itmI (A 11) a1 a2 (a3 - 1)))), some (.inl (x7_75 + 1)), none]) rfl (And.intro rfl (And.intro rfl (And.intro rfl (And.intro rfl (And.intro rfl (And.intro rfl trivial)))))) (ih75 (x5_75 + (strI A x7_75 a2)) (x7_75 + 1) hv.1 (Nat.lt_of_lt_of_le hv.2 (Nat.le_of_lt_succ hn75)))
      exact g_weak (ls1 := [some (.inr (some 95)), none, some (.inl a2), some (.inl a3), none, some (.inl (ff_X1_topOf I A a3 (itmI (A 11) a1 a2 a3) a4)), some (.inl (ff_X6_spotOf I A (a3 - 1) (itmI (A 11) a1 a2 (a3 - 1)))), some (.inl 0), none]) rfl (And.intro rfl (And.intro rfl (And.intro rfl (And.intro rfl (And.intro rfl (And.intro rfl trivial)))))) (L75 _ (ff_X1_topOf I A a3 (itmI (A 11) a1 a2 a3) a4) 0 hi75 (Nat.lt_succ_self _))
    · have hv := hv2 hc
      clear hv1 hv2 hc
      refine g_blk hC _ bX1_endOf_45_47 (pc' := 47) (ls' := [some (.inr (some 95)), some (.inl a1), some (.inl a2), some (.inl a3), some (.inl a4), some (.inl (ff_X1_topOf I A a3 (itmI (A 11) a1 a2 a3) a4)), none, none, none]) (st' := [.inl (ff_X1_topOf I A a3 (itmI (A 11) a1 a2 a3) a4)]) (I' := I) rfl rfl ?_
      exact g_reti hC hr rfl dX1_endOf_47 hv
  · have hv := hv2 hc
    clear hv1 hv2 hc
    refine g_blk hC _ bX1_endOf_12_13 (pc' := 13) (ls' := [some (.inr (some 95)), some (.inl a1), some (.inl a2), some (.inl a3), some (.inl a4), none, none, none, none]) (st' := [.inl ((-1))]) (I' := I) rfl rfl ?_
    exact g_reti hC hr rfl dX1_endOf_13 hv
theorem bX1_beginOf_0_6 : okB cX1_beginOf RX1 0 [(3, 3, 0, 0, 0), (5, 0, 0, 0, 0), (23, 9, 1, 0, 0), (3, 2, 0, 0, 0)] := And.intro ⟨_, dX1_beginOf_0, rfl⟩ (And.intro ⟨_, dX1_beginOf_1, rfl⟩ (And.intro ⟨dX1_beginOf_2, fl_X1_9⟩ (And.intro ⟨_, dX1_beginOf_5, rfl⟩ trivial)))
theorem bX1_beginOf_14_23 : okB cX1_beginOf RX1 14 [(5, 0, 0, 0, 0), (3, 3, 0, 0, 0), (5, 0, 0, 0, 0), (23, 9, 1, 0, 0), (3, 1, 0, 0, 0), (3, 2, 0, 0, 0), (3, 3, 0, 0, 0)] := And.intro ⟨_, dX1_beginOf_14, rfl⟩ (And.intro ⟨_, dX1_beginOf_15, rfl⟩ (And.intro ⟨_, dX1_beginOf_16, rfl⟩ (And.intro ⟨dX1_beginOf_17, fl_X1_9⟩ (And.intro ⟨_, dX1_beginOf_20, rfl⟩ (And.intro ⟨_, dX1_beginOf_21, rfl⟩ (And.intro ⟨_, dX1_beginOf_22, rfl⟩ trivial))))))
theorem bX1_beginOf_26_28 : okB cX1_beginOf RX1 26 [(4, 4, 0, 0, 0)] := And.intro dX1_beginOf_26 trivial
theorem bX1_beginOf_31_39 : okB cX1_beginOf RX1 31 [(8, 5, 0, 0, 0), (3, 3, 0, 0, 0), (5, 0, 0, 0, 0), (23, 9, 1, 0, 0), (3, 1, 0, 0, 0)] := And.intro dX1_beginOf_31 (And.intro ⟨_, dX1_beginOf_33, rfl⟩ (And.intro ⟨_, dX1_beginOf_34, rfl⟩ (And.intro ⟨dX1_beginOf_35, fl_X1_9⟩ (And.intro ⟨_, dX1_beginOf_38, rfl⟩ trivial))))
theorem bX1_beginOf_48_64 : okB cX1_beginOf RX1 48 [(5, 0, 0, 0, 0), (23, 15, 1, 1, 0), (3, 3, 0, 0, 0), (0, 0, 0, 0, 1), (12, 0, 0, 0, 0), (5, 0, 0, 0, 0), (23, 9, 1, 0, 0), (3, 1, 0, 0, 0), (3, 2, 0, 0, 0), (3, 3, 0, 0, 0), (0, 0, 0, 0, 1), (12, 0, 0, 0, 0)] := And.intro ⟨_, dX1_beginOf_48, rfl⟩ (And.intro ⟨dX1_beginOf_49, fl_X1_15⟩ (And.intro ⟨_, dX1_beginOf_52, rfl⟩ (And.intro ⟨_, dX1_beginOf_53, by decide⟩ (And.intro dX1_beginOf_54 (And.intro ⟨_, dX1_beginOf_55, rfl⟩ (And.intro ⟨dX1_beginOf_56, fl_X1_9⟩ (And.intro ⟨_, dX1_beginOf_59, rfl⟩ (And.intro ⟨_, dX1_beginOf_60, rfl⟩ (And.intro ⟨_, dX1_beginOf_61, rfl⟩ (And.intro ⟨_, dX1_beginOf_62, by decide⟩ (And.intro dX1_beginOf_63 trivial)))))))))))
theorem bX1_beginOf_70_75 : okB cX1_beginOf RX1 70 [(8, 6, 0, 0, 0), (0, 0, 0, 0, 0), (8, 7, 0, 0, 0)] := And.intro dX1_beginOf_70 (And.intro ⟨_, dX1_beginOf_72, by decide⟩ (And.intro dX1_beginOf_73 trivial))
theorem bX1_beginOf_75_79 : okB cX1_beginOf RX1 75 [(4, 7, 0, 0, 0), (1, 0, 0, 0, 10)] := And.intro dX1_beginOf_75 (And.intro ⟨_, dX1_beginOf_77, by decide⟩ trivial)
theorem bX1_beginOf_140_142 : okB cX1_beginOf RX1 140 [(4, 5, 0, 0, 0)] := And.intro dX1_beginOf_140 trivial
theorem bX1_beginOf_82_89 : okB cX1_beginOf RX1 82 [(5, 0, 0, 0, 0), (23, 9, 1, 0, 0), (3, 1, 0, 0, 0), (4, 7, 0, 0, 0)] := And.intro ⟨_, dX1_beginOf_82, rfl⟩ (And.intro ⟨dX1_beginOf_83, fl_X1_9⟩ (And.intro ⟨_, dX1_beginOf_86, rfl⟩ (And.intro dX1_beginOf_87 trivial)))
theorem bX1_beginOf_92_96 : okB cX1_beginOf RX1 92 [(8, 8, 0, 0, 0), (4, 8, 0, 0, 0)] := And.intro dX1_beginOf_92 (And.intro dX1_beginOf_94 trivial)
theorem bX1_beginOf_134_137 : okB cX1_beginOf RX1 134 [(11, 7, 0, 0, 1)] := And.intro ⟨_, dX1_beginOf_134, by decide⟩ trivial
theorem bX1_beginOf_99_116 : okB cX1_beginOf RX1 99 [(5, 0, 0, 0, 0), (23, 15, 1, 1, 0), (3, 3, 0, 0, 0), (0, 0, 0, 0, 1), (12, 0, 0, 0, 0), (5, 0, 0, 0, 0), (23, 9, 1, 0, 0), (3, 1, 0, 0, 0), (4, 7, 0, 0, 0), (3, 3, 0, 0, 0), (0, 0, 0, 0, 1), (12, 0, 0, 0, 0)] := And.intro ⟨_, dX1_beginOf_99, rfl⟩ (And.intro ⟨dX1_beginOf_100, fl_X1_15⟩ (And.intro ⟨_, dX1_beginOf_103, rfl⟩ (And.intro ⟨_, dX1_beginOf_104, by decide⟩ (And.intro dX1_beginOf_105 (And.intro ⟨_, dX1_beginOf_106, rfl⟩ (And.intro ⟨dX1_beginOf_107, fl_X1_9⟩ (And.intro ⟨_, dX1_beginOf_110, rfl⟩ (And.intro dX1_beginOf_111 (And.intro ⟨_, dX1_beginOf_113, rfl⟩ (And.intro ⟨_, dX1_beginOf_114, by decide⟩ (And.intro dX1_beginOf_115 trivial)))))))))))
theorem bX1_beginOf_122_124 : okB cX1_beginOf RX1 122 [(4, 6, 0, 0, 0)] := And.intro dX1_beginOf_122 trivial
theorem bX1_beginOf_127_137 : okB cX1_beginOf RX1 127 [(4, 5, 0, 0, 0), (4, 8, 0, 0, 0), (12, 0, 0, 0, 0), (8, 5, 0, 0, 0), (11, 7, 0, 0, 1)] := And.intro dX1_beginOf_127 (And.intro dX1_beginOf_129 (And.intro dX1_beginOf_131 (And.intro dX1_beginOf_132 (And.intro ⟨_, dX1_beginOf_134, by decide⟩ trivial))))
theorem bX1_beginOf_45_47 : okB cX1_beginOf RX1 45 [(4, 5, 0, 0, 0)] := And.intro dX1_beginOf_45 trivial
theorem bX1_beginOf_12_13 : okB cX1_beginOf RX1 12 [(0, 0, 0, 0, (-1))] := And.intro ⟨_, dX1_beginOf_12, by decide⟩ trivial
set_option maxHeartbeats 4000000 in
set_option maxRecDepth 100000 in
theorem k_X1_beginOf (l : Launch) (D : va_G) (ads : AD) (I A : HI) (a1 : Int32) (a2 : Int32) (a3 : Int32) (a4 : Int32) (po : Option AV → HI → HI → Prop) {pp_X1_topOf : HI → HI → Int32 → Int32 → Int32 → Prop} {ff_X1_topOf : HI → HI → Int32 → Int32 → Int32 → Int32} (hh_X1_topOf : ∀ (I A : HI) (a1 : Int32) (a2 : Int32) (a3 : Int32), pp_X1_topOf I A a1 a2 a3 → Ct l yX1_topOf cX1_topOf 7 (some .int) 4 87 D ads shp [.inr (some 95), .inl a1, .inl a2, .inl a3] I A (qI (ff_X1_topOf I A a1 a2 a3) I A)) {pp_X6_spotOf : HI → HI → Int32 → Int32 → Prop} {ff_X6_spotOf : HI → HI → Int32 → Int32 → Int32} (hh_X6_spotOf : ∀ (I A : HI) (a1 : Int32) (a2 : Int32), pp_X6_spotOf I A a1 a2 → Ct l yX6_spotOf cX6_spotOf 4 (some .int) 3 64 D ads shp [.inr (some 29), .inl a1, .inl a2] I A (qI (ff_X6_spotOf I A a1 a2) I A)) (Iv75 : Int32 → Int32 → Prop) (mu75 : Int32 → Int32 → Nat)
    (hv : ((vp_in a2 10) ∧ ((¬ a3 = (A 11 a2.toNatClampNeg) → ((vp_in a1 10 ∧ vp_in a2 10) ∧ ((pp_X1_topOf I A a3 (itmI (A 11) a1 a2 a3) a4) ∧ ((vp_in a1 10) ∧ ((a3 = (A 11 a1.toNatClampNeg) → ((vp_in a1 10 ∧ vp_in a2 10) ∧ ((pp_X6_spotOf I A (a3 + 1) (itmI (A 11) a1 a2 (a3 + 1))) ∧ (Iv75 (ff_X1_topOf I A a3 (itmI (A 11) a1 a2 a3) a4) 0 ∧ ∀ (x5_75 : Int32) (x7_75 : Int32), Iv75 x5_75 x7_75 → ((10 ≤ x7_75 → po (some (.inl x5_75)) I A) ∧ (¬ 10 ≤ x7_75 → (((strI A a1 x7_75) ≤ 0 → (Iv75 x5_75 (x7_75 + 1) ∧ mu75 x5_75 (x7_75 + 1) < mu75 x5_75 x7_75)) ∧ (¬ (strI A a1 x7_75) ≤ 0 → ((vp_in a1 10 ∧ vp_in x7_75 10) ∧ ((pp_X6_spotOf I A (a3 + 1) (itmI (A 11) a1 x7_75 (a3 + 1))) ∧ (((ff_X6_spotOf I A (a3 + 1) (itmI (A 11) a1 a2 (a3 + 1))) ≤ (ff_X6_spotOf I A (a3 + 1) (itmI (A 11) a1 x7_75 (a3 + 1))) → (Iv75 x5_75 (x7_75 + 1) ∧ mu75 x5_75 (x7_75 + 1) < mu75 x5_75 x7_75)) ∧ (¬ (ff_X6_spotOf I A (a3 + 1) (itmI (A 11) a1 a2 (a3 + 1))) ≤ (ff_X6_spotOf I A (a3 + 1) (itmI (A 11) a1 x7_75 (a3 + 1))) → (Iv75 (x5_75 + (strI A a1 x7_75)) (x7_75 + 1) ∧ mu75 (x5_75 + (strI A a1 x7_75)) (x7_75 + 1) < mu75 x5_75 x7_75))))))))))))) ∧ (¬ a3 = (A 11 a1.toNatClampNeg) → po (some (.inl (ff_X1_topOf I A a3 (itmI (A 11) a1 a2 a3) a4))) I A)))))) ∧ (a3 = (A 11 a2.toNatClampNeg) → po (some (.inl ((-1)))) I A)))) : Ct l yX1_beginOf cX1_beginOf 9 (some .int) 5 113 D ads shp [.inr (some 95), .inl a1, .inl a2, .inl a3, .inl a4] I A po := by
  refine Ct_of (by decide) (Nat.le_of_ble_eq_true rfl) ?_
  intro p e s m args below meth c hC hr
  replace hC : CX p s m args meth c cX1_beginOf 9 RX1 (AdS ads s.heap.size) := hC
  show Gm p l e s m args below meth c D ads 5 113 9 po I A 0 [some (.inr (some 95)), some (.inl a1), some (.inl a2), some (.inl a3), some (.inl a4), none, none, none, none] []
  refine g_blk hC _ bX1_beginOf_0_6 (pc' := 6) (ls' := [some (.inr (some 95)), some (.inl a1), some (.inl a2), some (.inl a3), some (.inl a4), none, none, none, none]) (st' := [.inl a2, .inr (some 3), .inl a3]) (I' := I) rfl rfl ?_
  obtain ⟨hp1, hv⟩ := hv
  refine g_callV hC (c_X5_layerOf l D ads I A a2 hp1) dX1_beginOf_6 nm_X5_layerOf rfl rfl wl_X1_46 wi_X5_layerOf ws_X5_layerOf wn_X5 wc_X5_layerOf ⟨by decide, by decide⟩ (as := [.inl a2]) (rest := [.inl a3]) rfl (Nat.le_of_ble_eq_true rfl) ⟨Nat.le_refl _, Nat.le_refl _⟩ (k_qI ?_)
  obtain ⟨hv1, hv2⟩ := hv
  refine g_cne hC dX1_beginOf_9 (tgt := 14) (by decide) (fun hc => ?_) (fun hc => ?_)
  · have hv := hv1 hc
    clear hv1 hv2 hc
    refine g_blk hC _ bX1_beginOf_14_23 (pc' := 23) (ls' := [some (.inr (some 95)), some (.inl a1), some (.inl a2), some (.inl a3), some (.inl a4), none, none, none, none]) (st' := [.inl a3, .inl a2, .inl a1, .inr (some 3), .inl a3, .inr (some 95)]) (I' := I) rfl rfl ?_
    obtain ⟨hp2, hv⟩ := hv
    refine g_callV hC (c_X5_itemOf l D ads I A a1 a2 a3 hp2) dX1_beginOf_23 nm_X5_itemOf rfl rfl wl_X1_49 wi_X5_itemOf ws_X5_itemOf wn_X5 wc_X5_itemOf ⟨by decide, by decide⟩ (as := [.inl a1, .inl a2, .inl a3]) (rest := [.inl a3, .inr (some 95)]) rfl (Nat.le_of_ble_eq_true rfl) ⟨Nat.le_refl _, Nat.le_refl _⟩ (k_qI ?_)
    refine g_blk hC _ bX1_beginOf_26_28 (pc' := 28) (ls' := [some (.inr (some 95)), some (.inl a1), some (.inl a2), some (.inl a3), some (.inl a4), none, none, none, none]) (st' := [.inl a4, .inl (itmI (A 11) a1 a2 a3), .inl a3, .inr (some 95)]) (I' := I) rfl rfl ?_
    obtain ⟨hp3, hv⟩ := hv
    refine g_callV hC (hh_X1_topOf I A a3 (itmI (A 11) a1 a2 a3) a4 hp3) dX1_beginOf_28 nm_X1_topOf rfl rfl wl_X1_53 wi_X1_topOf ws_X1_topOf wn_X1 wc_X1_topOf ⟨by decide, by decide⟩ (as := [.inl a3, .inl (itmI (A 11) a1 a2 a3), .inl a4]) (rest := []) rfl (Nat.le_of_ble_eq_true rfl) ⟨Nat.le_refl _, Nat.le_refl _⟩ (k_qI ?_)
    refine g_blk hC _ bX1_beginOf_31_39 (pc' := 39) (ls' := [some (.inr (some 95)), some (.inl a1), some (.inl a2), some (.inl a3), some (.inl a4), some (.inl (ff_X1_topOf I A a3 (itmI (A 11) a1 a2 a3) a4)), none, none, none]) (st' := [.inl a1, .inr (some 3), .inl a3]) (I' := I) rfl rfl ?_
    obtain ⟨hp4, hv⟩ := hv
    refine g_callV hC (c_X5_layerOf l D ads I A a1 hp4) dX1_beginOf_39 nm_X5_layerOf rfl rfl wl_X1_46 wi_X5_layerOf ws_X5_layerOf wn_X5 wc_X5_layerOf ⟨by decide, by decide⟩ (as := [.inl a1]) (rest := [.inl a3]) rfl (Nat.le_of_ble_eq_true rfl) ⟨Nat.le_refl _, Nat.le_refl _⟩ (k_qI ?_)
    obtain ⟨hv1, hv2⟩ := hv
    refine g_ceq hC dX1_beginOf_42 (tgt := 48) (by decide) (fun hc => ?_) (fun hc => ?_)
    · have hv := hv1 hc
      clear hv1 hv2 hc
      refine g_blk hC _ bX1_beginOf_48_64 (pc' := 64) (ls' := [some (.inr (some 95)), some (.inl a1), some (.inl a2), some (.inl a3), some (.inl a4), some (.inl (ff_X1_topOf I A a3 (itmI (A 11) a1 a2 a3) a4)), none, none, none]) (st' := [.inl (a3 + 1), .inl a2, .inl a1, .inr (some 3), .inl (a3 + 1), .inr (some 29)]) (I' := I) rfl rfl ?_
      obtain ⟨hp5, hv⟩ := hv
      refine g_callV hC (c_X5_itemOf l D ads I A a1 a2 (a3 + 1) hp5) dX1_beginOf_64 nm_X5_itemOf rfl rfl wl_X1_49 wi_X5_itemOf ws_X5_itemOf wn_X5 wc_X5_itemOf ⟨by decide, by decide⟩ (as := [.inl a1, .inl a2, .inl (a3 + 1)]) (rest := [.inl (a3 + 1), .inr (some 29)]) rfl (Nat.le_of_ble_eq_true rfl) ⟨Nat.le_refl _, Nat.le_refl _⟩ (k_qI ?_)
      obtain ⟨hp6, hv⟩ := hv
      refine g_callV hC (hh_X6_spotOf I A (a3 + 1) (itmI (A 11) a1 a2 (a3 + 1)) hp6) dX1_beginOf_67 nm_X6_spotOf rfl rfl wl_X1_34 wi_X6_spotOf ws_X6_spotOf wn_X6 wc_X6_spotOf ⟨by decide, by decide⟩ (as := [.inl (a3 + 1), .inl (itmI (A 11) a1 a2 (a3 + 1))]) (rest := []) rfl (Nat.le_of_ble_eq_true rfl) ⟨Nat.le_refl _, Nat.le_refl _⟩ (k_qI ?_)
      refine g_blk hC _ bX1_beginOf_70_75 (pc' := 75) (ls' := [some (.inr (some 95)), some (.inl a1), some (.inl a2), some (.inl a3), some (.inl a4), some (.inl (ff_X1_topOf I A a3 (itmI (A 11) a1 a2 a3) a4)), some (.inl (ff_X6_spotOf I A (a3 + 1) (itmI (A 11) a1 a2 (a3 + 1)))), some (.inl 0), none]) (st' := []) (I' := I) rfl rfl ?_
      obtain ⟨hi75, hb75⟩ := hv
      have L75 : ∀ (n : Nat) (x5_75 : Int32) (x7_75 : Int32), Iv75 x5_75 x7_75 → mu75 x5_75 x7_75 < n → Gm p l e s m args below meth c D ads 5 113 9 po I A 75 [some (.inr (some 95)), some (.inl a1), none, some (.inl a3), none, some (.inl x5_75), some (.inl (ff_X6_spotOf I A (a3 + 1) (itmI (A 11) a1 a2 (a3 + 1)))), some (.inl x7_75), none] [] := by
        intro n
        induction n with
        | zero => intro x5_75 x7_75 _ hn; exact absurd hn (Nat.not_lt_zero _)
        | succ n ih75 =>
          intro x5_75 x7_75 hv hn75
          replace hv := hb75 x5_75 x7_75 hv
          skip
          refine g_blk hC _ bX1_beginOf_75_79 (pc' := 79) (ls' := [some (.inr (some 95)), some (.inl a1), none, some (.inl a3), none, some (.inl x5_75), some (.inl (ff_X6_spotOf I A (a3 + 1) (itmI (A 11) a1 a2 (a3 + 1)))), some (.inl x7_75), none]) (st' := [.inl 10, .inl x7_75]) (I' := I) rfl rfl ?_
          obtain ⟨hv1, hv2⟩ := hv
          refine g_cge hC dX1_beginOf_79 (tgt := 140) (by decide) (fun hc => ?_) (fun hc => ?_)
          · have hv := hv1 hc
            clear hv1 hv2 hc
            refine g_blk hC _ bX1_beginOf_140_142 (pc' := 142) (ls' := [some (.inr (some 95)), some (.inl a1), none, some (.inl a3), none, some (.inl x5_75), some (.inl (ff_X6_spotOf I A (a3 + 1) (itmI (A 11) a1 a2 (a3 + 1)))), some (.inl x7_75), none]) (st' := [.inl x5_75]) (I' := I) rfl rfl ?_
            exact g_reti hC hr rfl dX1_beginOf_142 hv
          · have hv := hv2 hc
            clear hv1 hv2 hc
            refine g_blk hC _ bX1_beginOf_82_89 (pc' := 89) (ls' := [some (.inr (some 95)), some (.inl a1), none, some (.inl a3), none, some (.inl x5_75), some (.inl (ff_X6_spotOf I A (a3 + 1) (itmI (A 11) a1 a2 (a3 + 1)))), some (.inl x7_75), none]) (st' := [.inl x7_75, .inl a1, .inr (some 3)]) (I' := I) rfl rfl ?_
            refine g_callV hC (c_X5_straight l D ads I A a1 x7_75) dX1_beginOf_89 nm_X5_straight rfl rfl wl_X1_23 wi_X5_straight ws_X5_straight wn_X5 wc_X5_straight ⟨by decide, by decide⟩ (as := [.inl a1, .inl x7_75]) (rest := []) rfl (Nat.le_of_ble_eq_true rfl) ⟨Nat.le_refl _, Nat.le_refl _⟩ (k_qI ?_)
            refine g_blk hC _ bX1_beginOf_92_96 (pc' := 96) (ls' := [some (.inr (some 95)), some (.inl a1), none, some (.inl a3), none, some (.inl x5_75), some (.inl (ff_X6_spotOf I A (a3 + 1) (itmI (A 11) a1 a2 (a3 + 1)))), some (.inl x7_75), some (.inl (strI A a1 x7_75))]) (st' := [.inl (strI A a1 x7_75)]) (I' := I) rfl rfl ?_
            obtain ⟨hv1, hv2⟩ := hv
            refine g_ifle hC dX1_beginOf_96 (tgt := 134) (by decide) (fun hc => ?_) (fun hc => ?_)
            · have hv := hv1 hc
              clear hv1 hv2 hc
              refine g_blk hC _ bX1_beginOf_134_137 (pc' := 137) (ls' := [some (.inr (some 95)), some (.inl a1), none, some (.inl a3), none, some (.inl x5_75), some (.inl (ff_X6_spotOf I A (a3 + 1) (itmI (A 11) a1 a2 (a3 + 1)))), some (.inl (x7_75 + 1)), some (.inl (strI A a1 x7_75))]) (st' := []) (I' := I) rfl rfl ?_
              refine g_goto hC dX1_beginOf_137 (tgt := 75) (by decide) ?_
              exact g_weak (ls1 := [some (.inr (some 95)), some (.inl a1), none, some (.inl a3), none, some (.inl x5_75), some (.inl (ff_X6_spotOf I A (a3 + 1) (itmI (A 11) a1 a2 (a3 + 1)))), some (.inl (x7_75 + 1)), none]) rfl (And.intro rfl (And.intro rfl (And.intro rfl (And.intro rfl (And.intro rfl (And.intro rfl trivial)))))) (ih75 x5_75 (x7_75 + 1) hv.1 (Nat.lt_of_lt_of_le hv.2 (Nat.le_of_lt_succ hn75)))
            · have hv := hv2 hc
              clear hv1 hv2 hc
              refine g_blk hC _ bX1_beginOf_99_116 (pc' := 116) (ls' := [some (.inr (some 95)), some (.inl a1), none, some (.inl a3), none, some (.inl x5_75), some (.inl (ff_X6_spotOf I A (a3 + 1) (itmI (A 11) a1 a2 (a3 + 1)))), some (.inl x7_75), some (.inl (strI A a1 x7_75))]) (st' := [.inl (a3 + 1), .inl x7_75, .inl a1, .inr (some 3), .inl (a3 + 1), .inr (some 29)]) (I' := I) rfl rfl ?_
              obtain ⟨hp8, hv⟩ := hv
              refine g_callV hC (c_X5_itemOf l D ads I A a1 x7_75 (a3 + 1) hp8) dX1_beginOf_116 nm_X5_itemOf rfl rfl wl_X1_49 wi_X5_itemOf ws_X5_itemOf wn_X5 wc_X5_itemOf ⟨by decide, by decide⟩ (as := [.inl a1, .inl x7_75, .inl (a3 + 1)]) (rest := [.inl (a3 + 1), .inr (some 29)]) rfl (Nat.le_of_ble_eq_true rfl) ⟨Nat.le_refl _, Nat.le_refl _⟩ (k_qI ?_)
              obtain ⟨hp9, hv⟩ := hv
              refine g_callV hC (hh_X6_spotOf I A (a3 + 1) (itmI (A 11) a1 x7_75 (a3 + 1)) hp9) dX1_beginOf_119 nm_X6_spotOf rfl rfl wl_X1_34 wi_X6_spotOf ws_X6_spotOf wn_X6 wc_X6_spotOf ⟨by decide, by decide⟩ (as := [.inl (a3 + 1), .inl (itmI (A 11) a1 x7_75 (a3 + 1))]) (rest := []) rfl (Nat.le_of_ble_eq_true rfl) ⟨Nat.le_refl _, Nat.le_refl _⟩ (k_qI ?_)
              refine g_blk hC _ bX1_beginOf_122_124 (pc' := 124) (ls' := [some (.inr (some 95)), some (.inl a1), none, some (.inl a3), none, some (.inl x5_75), some (.inl (ff_X6_spotOf I A (a3 + 1) (itmI (A 11) a1 a2 (a3 + 1)))), some (.inl x7_75), some (.inl (strI A a1 x7_75))]) (st' := [.inl (ff_X6_spotOf I A (a3 + 1) (itmI (A 11) a1 a2 (a3 + 1))), .inl (ff_X6_spotOf I A (a3 + 1) (itmI (A 11) a1 x7_75 (a3 + 1)))]) (I' := I) rfl rfl ?_
              obtain ⟨hv1, hv2⟩ := hv
              refine g_cge hC dX1_beginOf_124 (tgt := 134) (by decide) (fun hc => ?_) (fun hc => ?_)
              · have hv := hv1 hc
                clear hv1 hv2 hc
                refine g_blk hC _ bX1_beginOf_134_137 (pc' := 137) (ls' := [some (.inr (some 95)), some (.inl a1), none, some (.inl a3), none, some (.inl x5_75), some (.inl (ff_X6_spotOf I A (a3 + 1) (itmI (A 11) a1 a2 (a3 + 1)))), some (.inl (x7_75 + 1)), some (.inl (strI A a1 x7_75))]) (st' := []) (I' := I) rfl rfl ?_
                refine g_goto hC dX1_beginOf_137 (tgt := 75) (by decide) ?_
                exact g_weak (ls1 := [some (.inr (some 95)), some (.inl a1), none, some (.inl a3), none, some (.inl x5_75), some (.inl (ff_X6_spotOf I A (a3 + 1) (itmI (A 11) a1 a2 (a3 + 1)))), some (.inl (x7_75 + 1)), none]) rfl (And.intro rfl (And.intro rfl (And.intro rfl (And.intro rfl (And.intro rfl (And.intro rfl trivial)))))) (ih75 x5_75 (x7_75 + 1) hv.1 (Nat.lt_of_lt_of_le hv.2 (Nat.le_of_lt_succ hn75)))
              · have hv := hv2 hc
                clear hv1 hv2 hc
                refine g_blk hC _ bX1_beginOf_127_137 (pc' := 137) (ls' := [some (.inr (some 95)), some (.inl a1), none, some (.inl a3), none, some (.inl (x5_75 + (strI A a1 x7_75))), some (.inl (ff_X6_spotOf I A (a3 + 1) (itmI (A 11) a1 a2 (a3 + 1)))), some (.inl (x7_75 + 1)), some (.inl (strI A a1 x7_75))]) (st' := []) (I' := I) rfl rfl ?_
                refine g_goto hC dX1_beginOf_137 (tgt := 75) (by decide) ?_
                exact g_weak (ls1 := [some (.inr (some 95)), some (.inl a1), none, some (.inl a3), none, some (.inl (x5_75 + (strI A a1 x7_75))), some (.inl (ff_X6_spotOf I A (a3 + 1) (itmI (A 11) a1 a2 (a3 + 1)))), some (.inl (x7_75 + 1)), none]) rfl (And.intro rfl (And.intro rfl (And.intro rfl (And.intro rfl (And.intro rfl (And.intro rfl trivial)))))) (ih75 (x5_75 + (strI A a1 x7_75)) (x7_75 + 1) hv.1 (Nat.lt_of_lt_of_le hv.2 (Nat.le_of_lt_succ hn75)))
      exact g_weak (ls1 := [some (.inr (some 95)), some (.inl a1), none, some (.inl a3), none, some (.inl (ff_X1_topOf I A a3 (itmI (A 11) a1 a2 a3) a4)), some (.inl (ff_X6_spotOf I A (a3 + 1) (itmI (A 11) a1 a2 (a3 + 1)))), some (.inl 0), none]) rfl (And.intro rfl (And.intro rfl (And.intro rfl (And.intro rfl (And.intro rfl (And.intro rfl trivial)))))) (L75 _ (ff_X1_topOf I A a3 (itmI (A 11) a1 a2 a3) a4) 0 hi75 (Nat.lt_succ_self _))
    · have hv := hv2 hc
      clear hv1 hv2 hc
      refine g_blk hC _ bX1_beginOf_45_47 (pc' := 47) (ls' := [some (.inr (some 95)), some (.inl a1), some (.inl a2), some (.inl a3), some (.inl a4), some (.inl (ff_X1_topOf I A a3 (itmI (A 11) a1 a2 a3) a4)), none, none, none]) (st' := [.inl (ff_X1_topOf I A a3 (itmI (A 11) a1 a2 a3) a4)]) (I' := I) rfl rfl ?_
      exact g_reti hC hr rfl dX1_beginOf_47 hv
  · have hv := hv2 hc
    clear hv1 hv2 hc
    refine g_blk hC _ bX1_beginOf_12_13 (pc' := 13) (ls' := [some (.inr (some 95)), some (.inl a1), some (.inl a2), some (.inl a3), some (.inl a4), none, none, none, none]) (st' := [.inl ((-1))]) (I' := I) rfl rfl ?_
    exact g_reti hC hr rfl dX1_beginOf_13 hv
theorem bX8_freshRanking_0_4 : okB cX8_freshRanking RX8 0 [(5, 0, 0, 0, 0), (23, 66, 8, 8, 0)] := And.intro ⟨_, dX8_freshRanking_0, rfl⟩ (And.intro ⟨dX8_freshRanking_1, fl_X8_66⟩ trivial)
theorem bX8_freshRanking_26_30 : okB cX8_freshRanking RX8 26 [(5, 0, 0, 0, 0), (23, 21, 8, 1, 0)] := And.intro ⟨_, dX8_freshRanking_26, rfl⟩ (And.intro ⟨dX8_freshRanking_27, fl_X8_21⟩ trivial)
theorem bX8_freshRanking_7_11 : okB cX8_freshRanking RX8 7 [(5, 0, 0, 0, 0), (23, 21, 8, 1, 0)] := And.intro ⟨_, dX8_freshRanking_7, rfl⟩ (And.intro ⟨dX8_freshRanking_8, fl_X8_21⟩ trivial)
theorem bX8_freshRanking_14_18 : okB cX8_freshRanking RX8 14 [(5, 0, 0, 0, 0), (23, 30, 8, 2, 0)] := And.intro ⟨_, dX8_freshRanking_14, rfl⟩ (And.intro ⟨dX8_freshRanking_15, fl_X8_30⟩ trivial)
theorem bX8_freshRanking_21_30 : okB cX8_freshRanking RX8 21 [(5, 0, 0, 0, 0), (0, 0, 0, 0, 1), (25, 66, 8, 8, 0), (5, 0, 0, 0, 0), (23, 21, 8, 1, 0)] := And.intro ⟨_, dX8_freshRanking_21, rfl⟩ (And.intro ⟨_, dX8_freshRanking_22, by decide⟩ (And.intro ⟨dX8_freshRanking_23, fl_X8_66, rfl, rfl⟩ (And.intro ⟨_, dX8_freshRanking_26, rfl⟩ (And.intro ⟨dX8_freshRanking_27, fl_X8_21⟩ trivial))))
set_option maxHeartbeats 4000000 in
set_option maxRecDepth 100000 in
theorem k_X8_freshRanking (l : Launch) (D : va_G) (ads : AD) (I A : HI) (po : Option AV → HI → HI → Prop) {pp_X5_rank : HI → HI → Prop} {qq_X5_rank : HI → HI → HI → HI → Prop} (hh_X5_rank : ∀ (I A : HI), pp_X5_rank I A → Ct l yX5_rank cX5_rank 1 none 3 70 D ads shp [.inr (some 3)] I A (qV (qq_X5_rank I A))) {pp_X7_fill : HI → HI → Prop} {qq_X7_fill : HI → HI → HI → HI → Prop} (hh_X7_fill : ∀ (I A : HI), pp_X7_fill I A → Ct l yX7_fill cX7_fill 3 none 2 45 D ads shp [.inr (some 13)] I A (qV (qq_X7_fill I A)))
    (hv : ((¬ (I 0 8) = 0 → po (some (.inr (some 3))) I A) ∧ ((I 0 8) = 0 → ((pp_X5_rank I A) ∧ (∀ (I2 A2 : HI), qq_X5_rank I A I2 A2 → ((pp_X7_fill I2 A2) ∧ (∀ (I4 A4 : HI), qq_X7_fill I2 A2 I4 A4 → po (some (.inr (some 3))) (up2 I4 0 8 1) A4))))))) : Ct l yX8_freshRanking cX8_freshRanking 1 (some (.object "RibbonSetter$Ranking")) 4 90 D ads shp [.inr (some 0)] I A po := by
  refine Ct_of (by decide) (Nat.le_of_ble_eq_true rfl) ?_
  intro p e s m args below meth c hC hr
  replace hC : CX p s m args meth c cX8_freshRanking 1 RX8 (AdS ads s.heap.size) := hC
  show Gm p l e s m args below meth c D ads 4 90 1 po I A 0 [some (.inr (some 0))] []
  refine g_blk hC _ bX8_freshRanking_0_4 (pc' := 4) (ls' := [some (.inr (some 0))]) (st' := [.inl (I 0 8)]) (I' := I) rfl rfl ?_
  obtain ⟨hv1, hv2⟩ := hv
  refine g_ifne hC dX8_freshRanking_4 (tgt := 26) (by decide) (fun hc => ?_) (fun hc => ?_)
  · have hv := hv1 hc
    clear hv1 hv2 hc
    refine g_blk hC _ bX8_freshRanking_26_30 (pc' := 30) (ls' := [some (.inr (some 0))]) (st' := [.inr (some 3)]) (I' := I) rfl rfl ?_
    exact g_reta hC hr (Or.inl ⟨_, rfl⟩) dX8_freshRanking_30 hv
  · have hv := hv2 hc
    clear hv1 hv2 hc
    refine g_blk hC _ bX8_freshRanking_7_11 (pc' := 11) (ls' := [some (.inr (some 0))]) (st' := [.inr (some 3)]) (I' := I) rfl rfl ?_
    obtain ⟨hp1, hv⟩ := hv
    refine g_callV hC (hh_X5_rank I A  hp1) dX8_freshRanking_11 nm_X5_rank rfl rfl wl_X8_183 wi_X5_rank ws_X5_rank wn_X5 wc_X5_rank ⟨by decide, by decide⟩ (as := []) (rest := []) rfl (Nat.le_of_ble_eq_true rfl) ⟨Nat.le_refl _, Nat.le_refl _⟩ (k_qV ?_)
    intro I2 A2 hq2
    replace hv := hv I2 A2 hq2
    refine g_blk hC _ bX8_freshRanking_14_18 (pc' := 18) (ls' := [some (.inr (some 0))]) (st' := [.inr (some 13)]) (I' := I2) rfl rfl ?_
    obtain ⟨hp3, hv⟩ := hv
    refine g_callV hC (hh_X7_fill I2 A2  hp3) dX8_freshRanking_18 nm_X7_fill rfl rfl wl_X8_186 wi_X7_fill ws_X7_fill wn_X7 wc_X7_fill ⟨by decide, by decide⟩ (as := []) (rest := []) rfl (Nat.le_of_ble_eq_true rfl) ⟨Nat.le_refl _, Nat.le_refl _⟩ (k_qV ?_)
    intro I4 A4 hq4
    replace hv := hv I4 A4 hq4
    refine g_blk hC _ bX8_freshRanking_21_30 (pc' := 30) (ls' := [some (.inr (some 0))]) (st' := [.inr (some 3)]) (I' := up2 I4 0 8 1) rfl rfl ?_
    exact g_reta hC hr (Or.inl ⟨_, rfl⟩) dX8_freshRanking_30 hv
theorem bX8_isLayer_0_1 : okB cX8_isLayer RX8 0 [(3, 1, 0, 0, 0)] := And.intro ⟨_, dX8_isLayer_0, rfl⟩ trivial
theorem bX8_isLayer_19_20 : okB cX8_isLayer RX8 19 [(0, 0, 0, 0, 0)] := And.intro ⟨_, dX8_isLayer_19, by decide⟩ trivial
theorem bX8_isLayer_4_6 : okB cX8_isLayer RX8 4 [(3, 1, 0, 0, 0), (5, 0, 0, 0, 0)] := And.intro ⟨_, dX8_isLayer_4, rfl⟩ (And.intro ⟨_, dX8_isLayer_5, rfl⟩ trivial)
theorem bX8_isLayer_15_16 : okB cX8_isLayer RX8 15 [(0, 0, 0, 0, 1)] := And.intro ⟨_, dX8_isLayer_15, by decide⟩ trivial
set_option maxHeartbeats 4000000 in
set_option maxRecDepth 100000 in
theorem k_X8_isLayer (l : Launch) (D : va_G) (ads : AD) (I A : HI) (a1 : Int32) (po : Option AV → HI → HI → Prop) {pp_X8_freshRanking : HI → HI → Prop} {qq_X8_freshRanking : HI → HI → HI → HI → Prop} (hh_X8_freshRanking : ∀ (I A : HI), pp_X8_freshRanking I A → Ct l yX8_freshRanking cX8_freshRanking 1 (some (.object "RibbonSetter$Ranking")) 4 90 D ads shp [.inr (some 0)] I A (qK (qq_X8_freshRanking I A) 3))
    (hv : ((a1 < 0 → po (some (.inl 0)) I A) ∧ (¬ a1 < 0 → ((pp_X8_freshRanking I A) ∧ (∀ (I2 A2 : HI), qq_X8_freshRanking I A I2 A2 → (((I2 3 11) ≤ a1 → po (some (.inl 0)) I2 A2) ∧ (¬ (I2 3 11) ≤ a1 → po (some (.inl 1)) I2 A2))))))) : Ct l yX8_isLayer cX8_isLayer 2 (some .boolean) 5 110 D ads shp [.inr (some 0), .inl a1] I A po := by
  refine Ct_of (by decide) (Nat.le_of_ble_eq_true rfl) ?_
  intro p e s m args below meth c hC hr
  replace hC : CX p s m args meth c cX8_isLayer 2 RX8 (AdS ads s.heap.size) := hC
  show Gm p l e s m args below meth c D ads 5 110 2 po I A 0 [some (.inr (some 0)), some (.inl a1)] []
  refine g_blk hC _ bX8_isLayer_0_1 (pc' := 1) (ls' := [some (.inr (some 0)), some (.inl a1)]) (st' := [.inl a1]) (I' := I) rfl rfl ?_
  obtain ⟨hv1, hv2⟩ := hv
  refine g_iflt hC dX8_isLayer_1 (tgt := 19) (by decide) (fun hc => ?_) (fun hc => ?_)
  · have hv := hv1 hc
    clear hv1 hv2 hc
    refine g_blk hC _ bX8_isLayer_19_20 (pc' := 20) (ls' := [some (.inr (some 0)), some (.inl a1)]) (st' := [.inl 0]) (I' := I) rfl rfl ?_
    exact g_reti hC hr (by decide) dX8_isLayer_20 hv
  · have hv := hv2 hc
    clear hv1 hv2 hc
    refine g_blk hC _ bX8_isLayer_4_6 (pc' := 6) (ls' := [some (.inr (some 0)), some (.inl a1)]) (st' := [.inr (some 0), .inl a1]) (I' := I) rfl rfl ?_
    obtain ⟨hp1, hv⟩ := hv
    refine g_callV hC (hh_X8_freshRanking I A  hp1) dX8_isLayer_6 nm_X8_freshRanking rfl rfl wl_X8_95 wi_X8_freshRanking ws_X8_freshRanking wn_X8 wc_X8_freshRanking ⟨by decide, by decide⟩ (as := []) (rest := [.inl a1]) rfl (Nat.le_of_ble_eq_true rfl) ⟨Nat.le_refl _, Nat.le_refl _⟩ (k_qK ?_)
    intro I2 A2 hq2
    replace hv := hv I2 A2 hq2
    refine g_callV hC (c_X5_layers l D ads I2 A2 ) dX8_isLayer_9 nm_X5_layers rfl rfl wl_X8_105 wi_X5_layers ws_X5_layers wn_X5 wc_X5_layers ⟨by decide, by decide⟩ (as := []) (rest := [.inl a1]) rfl (Nat.le_of_ble_eq_true rfl) ⟨Nat.le_refl _, Nat.le_refl _⟩ (k_qI ?_)
    obtain ⟨hv1, hv2⟩ := hv
    refine g_cge hC dX8_isLayer_12 (tgt := 19) (by decide) (fun hc => ?_) (fun hc => ?_)
    · have hv := hv1 hc
      clear hv1 hv2 hc
      refine g_blk hC _ bX8_isLayer_19_20 (pc' := 20) (ls' := [some (.inr (some 0)), some (.inl a1)]) (st' := [.inl 0]) (I' := I2) rfl rfl ?_
      exact g_reti hC hr (by decide) dX8_isLayer_20 hv
    · have hv := hv2 hc
      clear hv1 hv2 hc
      refine g_blk hC _ bX8_isLayer_15_16 (pc' := 16) (ls' := [some (.inr (some 0)), some (.inl a1)]) (st' := [.inl 1]) (I' := I2) rfl rfl ?_
      refine g_goto hC dX8_isLayer_16 (tgt := 20) (by decide) ?_
      exact g_reti hC hr (by decide) dX8_isLayer_20 hv
theorem bX8_isDrawn_0_1 : okB cX8_isDrawn RX8 0 [(5, 0, 0, 0, 0)] := And.intro ⟨_, dX8_isDrawn_0, rfl⟩ trivial
theorem bX8_isDrawn_4_9 : okB cX8_isDrawn RX8 4 [(21, 0, 0, 0, 0), (5, 0, 0, 0, 0), (23, 30, 8, 2, 0)] := And.intro dX8_isDrawn_4 (And.intro ⟨_, dX8_isDrawn_5, rfl⟩ (And.intro ⟨dX8_isDrawn_6, fl_X8_30⟩ trivial))
theorem bX8_isDrawn_17_21 : okB cX8_isDrawn RX8 17 [(5, 0, 0, 0, 0), (23, 70, 8, 9, 0)] := And.intro ⟨_, dX8_isDrawn_17, rfl⟩ (And.intro ⟨dX8_isDrawn_18, fl_X8_70⟩ trivial)
theorem bX8_isDrawn_40_41 : okB cX8_isDrawn RX8 40 [(0, 0, 0, 0, 1)] := And.intro ⟨_, dX8_isDrawn_40, by decide⟩ trivial
theorem bX8_isDrawn_24_32 : okB cX8_isDrawn RX8 24 [(5, 0, 0, 0, 0), (23, 46, 8, 4, 0), (5, 0, 0, 0, 0), (23, 63, 8, 7, 0)] := And.intro ⟨_, dX8_isDrawn_24, rfl⟩ (And.intro ⟨dX8_isDrawn_25, fl_X8_46⟩ (And.intro ⟨_, dX8_isDrawn_28, rfl⟩ (And.intro ⟨dX8_isDrawn_29, fl_X8_63⟩ trivial)))
theorem bX8_isDrawn_35_41 : okB cX8_isDrawn RX8 35 [(5, 0, 0, 0, 0), (0, 0, 0, 0, 1), (25, 70, 8, 9, 0), (0, 0, 0, 0, 1)] := And.intro ⟨_, dX8_isDrawn_35, rfl⟩ (And.intro ⟨_, dX8_isDrawn_36, by decide⟩ (And.intro ⟨dX8_isDrawn_37, fl_X8_70, rfl, rfl⟩ (And.intro ⟨_, dX8_isDrawn_40, by decide⟩ trivial)))
theorem bX8_isDrawn_15_16 : okB cX8_isDrawn RX8 15 [(0, 0, 0, 0, 0)] := And.intro ⟨_, dX8_isDrawn_15, by decide⟩ trivial
set_option maxHeartbeats 4000000 in
set_option maxRecDepth 100000 in
theorem k_X8_isDrawn (l : Launch) (D : va_G) (ads : AD) (I A : HI) (po : Option AV → HI → HI → Prop) {pp_X8_freshRanking : HI → HI → Prop} {qq_X8_freshRanking : HI → HI → HI → HI → Prop} (hh_X8_freshRanking : ∀ (I A : HI), pp_X8_freshRanking I A → Ct l yX8_freshRanking cX8_freshRanking 1 (some (.object "RibbonSetter$Ranking")) 4 90 D ads shp [.inr (some 0)] I A (qK (qq_X8_freshRanking I A) 3)) {pp_X6_solve : HI → HI → Int32 → Prop} {qq_X6_solve : HI → HI → Int32 → HI → HI → Prop} (hh_X6_solve : ∀ (I A : HI) (a1 : Int32), pp_X6_solve I A a1 → Ct l yX6_solve cX6_solve 4 none 4 101 D ads shp [.inr (some 29), .inl a1] I A (qV (qq_X6_solve I A a1)))
    (hv : ((pp_X8_freshRanking I A) ∧ (∀ (I2 A2 : HI), qq_X8_freshRanking I A I2 A2 → ((¬ (fitI (A2 25)) = 0 → ((¬ (I2 0 9) = 0 → po (some (.inl 1)) I2 A2) ∧ ((I2 0 9) = 0 → ((pp_X6_solve I2 A2 (I2 0 7)) ∧ (∀ (I5 A5 : HI), qq_X6_solve I2 A2 (I2 0 7) I5 A5 → po (some (.inl 1)) (up2 I5 0 9 1) A5))))) ∧ ((fitI (A2 25)) = 0 → po (some (.inl 0)) I2 A2))))) : Ct l yX8_isDrawn cX8_isDrawn 1 (some .boolean) 5 124 D ads shp [.inr (some 0)] I A po := by
  refine Ct_of (by decide) (Nat.le_of_ble_eq_true rfl) ?_
  intro p e s m args below meth c hC hr
  replace hC : CX p s m args meth c cX8_isDrawn 1 RX8 (AdS ads s.heap.size) := hC
  show Gm p l e s m args below meth c D ads 5 124 1 po I A 0 [some (.inr (some 0))] []
  refine g_blk hC _ bX8_isDrawn_0_1 (pc' := 1) (ls' := [some (.inr (some 0))]) (st' := [.inr (some 0)]) (I' := I) rfl rfl ?_
  obtain ⟨hp1, hv⟩ := hv
  refine g_callV hC (hh_X8_freshRanking I A  hp1) dX8_isDrawn_1 nm_X8_freshRanking rfl rfl wl_X8_95 wi_X8_freshRanking ws_X8_freshRanking wn_X8 wc_X8_freshRanking ⟨by decide, by decide⟩ (as := []) (rest := []) rfl (Nat.le_of_ble_eq_true rfl) ⟨Nat.le_refl _, Nat.le_refl _⟩ (k_qK ?_)
  intro I2 A2 hq2
  replace hv := hv I2 A2 hq2
  refine g_blk hC _ bX8_isDrawn_4_9 (pc' := 9) (ls' := [some (.inr (some 0))]) (st' := [.inr (some 13)]) (I' := I2) rfl rfl ?_
  refine g_callV hC (c_X7_fits l D ads I2 A2 ) dX8_isDrawn_9 nm_X7_fits rfl rfl wl_X8_189 wi_X7_fits ws_X7_fits wn_X7 wc_X7_fits ⟨by decide, by decide⟩ (as := []) (rest := []) rfl (Nat.le_of_ble_eq_true rfl) ⟨Nat.le_refl _, Nat.le_refl _⟩ (k_qI ?_)
  obtain ⟨hv1, hv2⟩ := hv
  refine g_ifne hC dX8_isDrawn_12 (tgt := 17) (by decide) (fun hc => ?_) (fun hc => ?_)
  · have hv := hv1 hc
    clear hv1 hv2 hc
    refine g_blk hC _ bX8_isDrawn_17_21 (pc' := 21) (ls' := [some (.inr (some 0))]) (st' := [.inl (I2 0 9)]) (I' := I2) rfl rfl ?_
    obtain ⟨hv1, hv2⟩ := hv
    refine g_ifne hC dX8_isDrawn_21 (tgt := 40) (by decide) (fun hc => ?_) (fun hc => ?_)
    · have hv := hv1 hc
      clear hv1 hv2 hc
      refine g_blk hC _ bX8_isDrawn_40_41 (pc' := 41) (ls' := [some (.inr (some 0))]) (st' := [.inl 1]) (I' := I2) rfl rfl ?_
      exact g_reti hC hr (by decide) dX8_isDrawn_41 hv
    · have hv := hv2 hc
      clear hv1 hv2 hc
      refine g_blk hC _ bX8_isDrawn_24_32 (pc' := 32) (ls' := [some (.inr (some 0))]) (st' := [.inl (I2 0 7), .inr (some 29)]) (I' := I2) rfl rfl ?_
      obtain ⟨hp4, hv⟩ := hv
      refine g_callV hC (hh_X6_solve I2 A2 (I2 0 7) hp4) dX8_isDrawn_32 nm_X6_solve rfl rfl wl_X8_192 wi_X6_solve ws_X6_solve wn_X6 wc_X6_solve ⟨by decide, by decide⟩ (as := [.inl (I2 0 7)]) (rest := []) rfl (Nat.le_of_ble_eq_true rfl) ⟨Nat.le_refl _, Nat.le_refl _⟩ (k_qV ?_)
      intro I5 A5 hq5
      replace hv := hv I5 A5 hq5
      refine g_blk hC _ bX8_isDrawn_35_41 (pc' := 41) (ls' := [some (.inr (some 0))]) (st' := [.inl 1]) (I' := up2 I5 0 9 1) rfl rfl ?_
      exact g_reti hC hr (by decide) dX8_isDrawn_41 hv
  · have hv := hv2 hc
    clear hv1 hv2 hc
    refine g_blk hC _ bX8_isDrawn_15_16 (pc' := 16) (ls' := [some (.inr (some 0))]) (st' := [.inl 0]) (I' := I2) rfl rfl ?_
    exact g_reti hC hr (by decide) dX8_isDrawn_16 hv
theorem bX8_flow_0_7 : okB cX8_flow RX8 0 [(5, 0, 0, 0, 0), (23, 12, 8, 0, 0), (3, 1, 0, 0, 0), (3, 2, 0, 0, 0), (3, 3, 0, 0, 0)] := And.intro ⟨_, dX8_flow_0, rfl⟩ (And.intro ⟨dX8_flow_1, fl_X8_12⟩ (And.intro ⟨_, dX8_flow_4, rfl⟩ (And.intro ⟨_, dX8_flow_5, rfl⟩ (And.intro ⟨_, dX8_flow_6, rfl⟩ trivial))))
theorem bX8_flow_15_21 : okB cX8_flow RX8 15 [(5, 0, 0, 0, 0), (23, 12, 8, 0, 0), (3, 1, 0, 0, 0), (3, 2, 0, 0, 0)] := And.intro ⟨_, dX8_flow_15, rfl⟩ (And.intro ⟨dX8_flow_16, fl_X8_12⟩ (And.intro ⟨_, dX8_flow_19, rfl⟩ (And.intro ⟨_, dX8_flow_20, rfl⟩ trivial)))
theorem bX8_flow_24_25 : okB cX8_flow RX8 24 [(3, 3, 0, 0, 0)] := And.intro ⟨_, dX8_flow_24, rfl⟩ trivial
theorem bX8_flow_48_49 : okB cX8_flow RX8 48 [(0, 0, 0, 0, 1)] := And.intro ⟨_, dX8_flow_48, by decide⟩ trivial
theorem bX8_flow_28_35 : okB cX8_flow RX8 28 [(5, 0, 0, 0, 0), (23, 12, 8, 0, 0), (3, 1, 0, 0, 0), (3, 2, 0, 0, 0), (3, 3, 0, 0, 0)] := And.intro ⟨_, dX8_flow_28, rfl⟩ (And.intro ⟨dX8_flow_29, fl_X8_12⟩ (And.intro ⟨_, dX8_flow_32, rfl⟩ (And.intro ⟨_, dX8_flow_33, rfl⟩ (And.intro ⟨_, dX8_flow_34, rfl⟩ trivial))))
theorem bX8_flow_38_49 : okB cX8_flow RX8 38 [(5, 0, 0, 0, 0), (0, 0, 0, 0, 0), (25, 66, 8, 8, 0), (5, 0, 0, 0, 0), (0, 0, 0, 0, 0), (25, 70, 8, 9, 0), (0, 0, 0, 0, 1)] := And.intro ⟨_, dX8_flow_38, rfl⟩ (And.intro ⟨_, dX8_flow_39, by decide⟩ (And.intro ⟨dX8_flow_40, fl_X8_66, rfl, rfl⟩ (And.intro ⟨_, dX8_flow_43, rfl⟩ (And.intro ⟨_, dX8_flow_44, by decide⟩ (And.intro ⟨dX8_flow_45, fl_X8_70, rfl, rfl⟩ (And.intro ⟨_, dX8_flow_48, by decide⟩ trivial))))))
theorem bX8_flow_13_14 : okB cX8_flow RX8 13 [(0, 0, 0, 0, 0)] := And.intro ⟨_, dX8_flow_13, by decide⟩ trivial
set_option maxHeartbeats 4000000 in
set_option maxRecDepth 100000 in
theorem k_X8_flow (l : Launch) (D : va_G) (ads : AD) (I A : HI) (a1 : Int32) (a2 : Int32) (a3 : Int32) (po : Option AV → HI → HI → Prop)
    (hv : ((¬ (tkF I A a1 a2 a3) = 0 → (((btw A a1 a2) = a3 → po (some (.inl 1)) I A) ∧ (¬ (btw A a1 a2) = a3 → po (some (.inl 1)) (up2 (up2 (putI I A a1 a2 a3) 0 8 0) 0 9 0) (putA I A a1 a2 a3)))) ∧ ((tkF I A a1 a2 a3) = 0 → po (some (.inl 0)) I A))) : Ct l yX8_flow cX8_flow 4 (some .boolean) 4 89 D ads shp [.inr (some 0), .inl a1, .inl a2, .inl a3] I A po := by
  refine Ct_of (by decide) (Nat.le_of_ble_eq_true rfl) ?_
  intro p e s m args below meth c hC hr
  replace hC : CX p s m args meth c cX8_flow 4 RX8 (AdS ads s.heap.size) := hC
  show Gm p l e s m args below meth c D ads 4 89 4 po I A 0 [some (.inr (some 0)), some (.inl a1), some (.inl a2), some (.inl a3)] []
  refine g_blk hC _ bX8_flow_0_7 (pc' := 7) (ls' := [some (.inr (some 0)), some (.inl a1), some (.inl a2), some (.inl a3)]) (st' := [.inl a3, .inl a2, .inl a1, .inr (some 1)]) (I' := I) rfl rfl ?_
  refine g_callV hC (c_X2_takes l D ads I A a1 a2 a3) dX8_flow_7 nm_X2_takes rfl rfl wl_X8_73 wi_X2_takes ws_X2_takes wn_X2 wc_X2_takes ⟨by decide, by decide⟩ (as := [.inl a1, .inl a2, .inl a3]) (rest := []) rfl (Nat.le_of_ble_eq_true rfl) ⟨Nat.le_refl _, Nat.le_refl _⟩ (k_qI ?_)
  obtain ⟨hv1, hv2⟩ := hv
  refine g_ifne hC dX8_flow_10 (tgt := 15) (by decide) (fun hc => ?_) (fun hc => ?_)
  · have hv := hv1 hc
    clear hv1 hv2 hc
    refine g_blk hC _ bX8_flow_15_21 (pc' := 21) (ls' := [some (.inr (some 0)), some (.inl a1), some (.inl a2), some (.inl a3)]) (st' := [.inl a2, .inl a1, .inr (some 1)]) (I' := I) rfl rfl ?_
    refine g_callV hC (c_X2_between l D ads I A a1 a2) dX8_flow_21 nm_X2_between rfl rfl wl_X8_77 wi_X2_between ws_X2_between wn_X2 wc_X2_between ⟨by decide, by decide⟩ (as := [.inl a1, .inl a2]) (rest := []) rfl (Nat.le_of_ble_eq_true rfl) ⟨Nat.le_refl _, Nat.le_refl _⟩ (k_qI ?_)
    refine g_blk hC _ bX8_flow_24_25 (pc' := 25) (ls' := [some (.inr (some 0)), some (.inl a1), some (.inl a2), some (.inl a3)]) (st' := [.inl a3, .inl (btw A a1 a2)]) (I' := I) rfl rfl ?_
    obtain ⟨hv1, hv2⟩ := hv
    refine g_ceq hC dX8_flow_25 (tgt := 48) (by decide) (fun hc => ?_) (fun hc => ?_)
    · have hv := hv1 hc
      clear hv1 hv2 hc
      refine g_blk hC _ bX8_flow_48_49 (pc' := 49) (ls' := [some (.inr (some 0)), some (.inl a1), some (.inl a2), some (.inl a3)]) (st' := [.inl 1]) (I' := I) rfl rfl ?_
      exact g_reti hC hr (by decide) dX8_flow_49 hv
    · have hv := hv2 hc
      clear hv1 hv2 hc
      refine g_blk hC _ bX8_flow_28_35 (pc' := 35) (ls' := [some (.inr (some 0)), some (.inl a1), some (.inl a2), some (.inl a3)]) (st' := [.inl a3, .inl a2, .inl a1, .inr (some 1)]) (I' := I) rfl rfl ?_
      refine g_callV hC (c_X2_put l D ads I A a1 a2 a3) dX8_flow_35 nm_X2_put rfl rfl wl_X8_81 wi_X2_put ws_X2_put wn_X2 wc_X2_put ⟨by decide, by decide⟩ (as := [.inl a1, .inl a2, .inl a3]) (rest := []) rfl (Nat.le_of_ble_eq_true rfl) ⟨Nat.le_refl _, Nat.le_refl _⟩ (k_qN ?_)
      refine g_blk hC _ bX8_flow_38_49 (pc' := 49) (ls' := [some (.inr (some 0)), some (.inl a1), some (.inl a2), some (.inl a3)]) (st' := [.inl 1]) (I' := up2 (up2 (putI I A a1 a2 a3) 0 8 0) 0 9 0) rfl rfl ?_
      exact g_reti hC hr (by decide) dX8_flow_49 hv
  · have hv := hv2 hc
    clear hv1 hv2 hc
    refine g_blk hC _ bX8_flow_13_14 (pc' := 14) (ls' := [some (.inr (some 0)), some (.inl a1), some (.inl a2), some (.inl a3)]) (st' := [.inl 0]) (I' := I) rfl rfl ?_
    exact g_reti hC hr (by decide) dX8_flow_14 hv
theorem bX8_clear_0_4 : okB cX8_clear RX8 0 [(5, 0, 0, 0, 0), (23, 12, 8, 0, 0)] := And.intro ⟨_, dX8_clear_0, rfl⟩ (And.intro ⟨dX8_clear_1, fl_X8_12⟩ trivial)
theorem bX8_clear_7_17 : okB cX8_clear RX8 7 [(5, 0, 0, 0, 0), (0, 0, 0, 0, 0), (25, 66, 8, 8, 0), (5, 0, 0, 0, 0), (0, 0, 0, 0, 0), (25, 70, 8, 9, 0)] := And.intro ⟨_, dX8_clear_7, rfl⟩ (And.intro ⟨_, dX8_clear_8, by decide⟩ (And.intro ⟨dX8_clear_9, fl_X8_66, rfl, rfl⟩ (And.intro ⟨_, dX8_clear_12, rfl⟩ (And.intro ⟨_, dX8_clear_13, by decide⟩ (And.intro ⟨dX8_clear_14, fl_X8_70, rfl, rfl⟩ trivial)))))
set_option maxHeartbeats 4000000 in
set_option maxRecDepth 100000 in
theorem k_X8_clear (l : Launch) (D : va_G) (ads : AD) (I A : HI) (po : Option AV → HI → HI → Prop)
    (hv : po none (up2 (up2 (up2 I 1 1 0) 0 8 0) 0 9 0) (filA A 2 100 0)) : Ct l yX8_clear cX8_clear 1 none 2 43 D ads shp [.inr (some 0)] I A po := by
  refine Ct_of (by decide) (Nat.le_of_ble_eq_true rfl) ?_
  intro p e s m args below meth c hC hr
  replace hC : CX p s m args meth c cX8_clear 1 RX8 (AdS ads s.heap.size) := hC
  show Gm p l e s m args below meth c D ads 2 43 1 po I A 0 [some (.inr (some 0))] []
  refine g_blk hC _ bX8_clear_0_4 (pc' := 4) (ls' := [some (.inr (some 0))]) (st' := [.inr (some 1)]) (I' := I) rfl rfl ?_
  refine g_callV hC (c_X2_removeAll l D ads I A ) dX8_clear_4 nm_X2_removeAll rfl rfl wl_X8_85 wi_X2_removeAll ws_X2_removeAll wn_X2 wc_X2_removeAll ⟨by decide, by decide⟩ (as := []) (rest := []) rfl (Nat.le_of_ble_eq_true rfl) ⟨Nat.le_refl _, Nat.le_refl _⟩ (k_qN ?_)
  refine g_blk hC _ bX8_clear_7_17 (pc' := 17) (ls' := [some (.inr (some 0))]) (st' := []) (I' := up2 (up2 (up2 I 1 1 0) 0 8 0) 0 9 0) rfl rfl ?_
  exact g_retv hC hr dX8_clear_17 hv
theorem bX8_set_0_1 : okB cX8_set RX8 0 [(3, 1, 0, 0, 0)] := And.intro ⟨_, dX8_set_0, rfl⟩ trivial
theorem bX8_set_21_22 : okB cX8_set RX8 21 [(0, 0, 0, 0, 0)] := And.intro ⟨_, dX8_set_21, by decide⟩ trivial
theorem bX8_set_4_7 : okB cX8_set RX8 4 [(3, 1, 0, 0, 0), (1, 0, 0, 0, 50)] := And.intro ⟨_, dX8_set_4, rfl⟩ (And.intro ⟨_, dX8_set_5, by decide⟩ trivial)
theorem bX8_set_10_11 : okB cX8_set RX8 10 [(3, 2, 0, 0, 0)] := And.intro ⟨_, dX8_set_10, rfl⟩ trivial
theorem bX8_set_14_18 : okB cX8_set RX8 14 [(3, 2, 0, 0, 0), (2, 0, 0, 0, 9999)] := And.intro ⟨_, dX8_set_14, rfl⟩ (And.intro ⟨_, dX8_set_15, by decide⟩ trivial)
theorem bX8_set_23_28 : okB cX8_set RX8 23 [(5, 0, 0, 0, 0), (23, 63, 8, 7, 0), (3, 2, 0, 0, 0)] := And.intro ⟨_, dX8_set_23, rfl⟩ (And.intro ⟨dX8_set_24, fl_X8_63⟩ (And.intro ⟨_, dX8_set_27, rfl⟩ trivial))
theorem bX8_set_36_47 : okB cX8_set RX8 36 [(5, 0, 0, 0, 0), (3, 1, 0, 0, 0), (24, 59, 8, 6, 0), (5, 0, 0, 0, 0), (3, 2, 0, 0, 0), (24, 63, 8, 7, 0), (0, 0, 0, 0, 1)] := And.intro ⟨_, dX8_set_36, rfl⟩ (And.intro ⟨_, dX8_set_37, rfl⟩ (And.intro ⟨dX8_set_38, fl_X8_59, rfl, rfl⟩ (And.intro ⟨_, dX8_set_41, rfl⟩ (And.intro ⟨_, dX8_set_42, rfl⟩ (And.intro ⟨dX8_set_43, fl_X8_63, rfl, rfl⟩ (And.intro ⟨_, dX8_set_46, by decide⟩ trivial))))))
theorem bX8_set_31_47 : okB cX8_set RX8 31 [(5, 0, 0, 0, 0), (0, 0, 0, 0, 0), (25, 70, 8, 9, 0), (5, 0, 0, 0, 0), (3, 1, 0, 0, 0), (24, 59, 8, 6, 0), (5, 0, 0, 0, 0), (3, 2, 0, 0, 0), (24, 63, 8, 7, 0), (0, 0, 0, 0, 1)] := And.intro ⟨_, dX8_set_31, rfl⟩ (And.intro ⟨_, dX8_set_32, by decide⟩ (And.intro ⟨dX8_set_33, fl_X8_70, rfl, rfl⟩ (And.intro ⟨_, dX8_set_36, rfl⟩ (And.intro ⟨_, dX8_set_37, rfl⟩ (And.intro ⟨dX8_set_38, fl_X8_59, rfl, rfl⟩ (And.intro ⟨_, dX8_set_41, rfl⟩ (And.intro ⟨_, dX8_set_42, rfl⟩ (And.intro ⟨dX8_set_43, fl_X8_63, rfl, rfl⟩ (And.intro ⟨_, dX8_set_46, by decide⟩ trivial)))))))))
set_option maxHeartbeats 4000000 in
set_option maxRecDepth 100000 in
theorem k_X8_set (l : Launch) (D : va_G) (ads : AD) (I A : HI) (a1 : Int32) (a2 : Int32) (po : Option AV → HI → HI → Prop)
    (hv : ((a1 < 0 → po (some (.inl 0)) I A) ∧ (¬ a1 < 0 → ((50 < a1 → po (some (.inl 0)) I A) ∧ (¬ 50 < a1 → ((a2 < 0 → po (some (.inl 0)) I A) ∧ (¬ a2 < 0 → ((a2 ≤ 9999 → (((I 0 7) = a2 → po (some (.inl 1)) (up2 (up2 I 0 6 a1) 0 7 a2) A) ∧ (¬ (I 0 7) = a2 → po (some (.inl 1)) (up2 (up2 (up2 I 0 9 0) 0 6 a1) 0 7 a2) A))) ∧ (¬ a2 ≤ 9999 → po (some (.inl 0)) I A))))))))) : Ct l yX8_set cX8_set 3 (some .boolean) 0 0 D ads shp [.inr (some 0), .inl a1, .inl a2] I A po := by
  refine Ct_of (by decide) (Nat.le_of_ble_eq_true rfl) ?_
  intro p e s m args below meth c hC hr
  replace hC : CX p s m args meth c cX8_set 3 RX8 (AdS ads s.heap.size) := hC
  show Gm p l e s m args below meth c D ads 0 0 3 po I A 0 [some (.inr (some 0)), some (.inl a1), some (.inl a2)] []
  refine g_blk hC _ bX8_set_0_1 (pc' := 1) (ls' := [some (.inr (some 0)), some (.inl a1), some (.inl a2)]) (st' := [.inl a1]) (I' := I) rfl rfl ?_
  obtain ⟨hv1, hv2⟩ := hv
  refine g_iflt hC dX8_set_1 (tgt := 21) (by decide) (fun hc => ?_) (fun hc => ?_)
  · have hv := hv1 hc
    clear hv1 hv2 hc
    refine g_blk hC _ bX8_set_21_22 (pc' := 22) (ls' := [some (.inr (some 0)), some (.inl a1), some (.inl a2)]) (st' := [.inl 0]) (I' := I) rfl rfl ?_
    exact g_reti hC hr (by decide) dX8_set_22 hv
  · have hv := hv2 hc
    clear hv1 hv2 hc
    refine g_blk hC _ bX8_set_4_7 (pc' := 7) (ls' := [some (.inr (some 0)), some (.inl a1), some (.inl a2)]) (st' := [.inl 50, .inl a1]) (I' := I) rfl rfl ?_
    obtain ⟨hv1, hv2⟩ := hv
    refine g_cgt hC dX8_set_7 (tgt := 21) (by decide) (fun hc => ?_) (fun hc => ?_)
    · have hv := hv1 hc
      clear hv1 hv2 hc
      refine g_blk hC _ bX8_set_21_22 (pc' := 22) (ls' := [some (.inr (some 0)), some (.inl a1), some (.inl a2)]) (st' := [.inl 0]) (I' := I) rfl rfl ?_
      exact g_reti hC hr (by decide) dX8_set_22 hv
    · have hv := hv2 hc
      clear hv1 hv2 hc
      refine g_blk hC _ bX8_set_10_11 (pc' := 11) (ls' := [some (.inr (some 0)), some (.inl a1), some (.inl a2)]) (st' := [.inl a2]) (I' := I) rfl rfl ?_
      obtain ⟨hv1, hv2⟩ := hv
      refine g_iflt hC dX8_set_11 (tgt := 21) (by decide) (fun hc => ?_) (fun hc => ?_)
      · have hv := hv1 hc
        clear hv1 hv2 hc
        refine g_blk hC _ bX8_set_21_22 (pc' := 22) (ls' := [some (.inr (some 0)), some (.inl a1), some (.inl a2)]) (st' := [.inl 0]) (I' := I) rfl rfl ?_
        exact g_reti hC hr (by decide) dX8_set_22 hv
      · have hv := hv2 hc
        clear hv1 hv2 hc
        refine g_blk hC _ bX8_set_14_18 (pc' := 18) (ls' := [some (.inr (some 0)), some (.inl a1), some (.inl a2)]) (st' := [.inl 9999, .inl a2]) (I' := I) rfl rfl ?_
        obtain ⟨hv1, hv2⟩ := hv
        refine g_cle hC dX8_set_18 (tgt := 23) (by decide) (fun hc => ?_) (fun hc => ?_)
        · have hv := hv1 hc
          clear hv1 hv2 hc
          refine g_blk hC _ bX8_set_23_28 (pc' := 28) (ls' := [some (.inr (some 0)), some (.inl a1), some (.inl a2)]) (st' := [.inl a2, .inl (I 0 7)]) (I' := I) rfl rfl ?_
          obtain ⟨hv1, hv2⟩ := hv
          refine g_ceq hC dX8_set_28 (tgt := 36) (by decide) (fun hc => ?_) (fun hc => ?_)
          · have hv := hv1 hc
            clear hv1 hv2 hc
            refine g_blk hC _ bX8_set_36_47 (pc' := 47) (ls' := [some (.inr (some 0)), some (.inl a1), some (.inl a2)]) (st' := [.inl 1]) (I' := up2 (up2 I 0 6 a1) 0 7 a2) rfl rfl ?_
            exact g_reti hC hr (by decide) dX8_set_47 hv
          · have hv := hv2 hc
            clear hv1 hv2 hc
            refine g_blk hC _ bX8_set_31_47 (pc' := 47) (ls' := [some (.inr (some 0)), some (.inl a1), some (.inl a2)]) (st' := [.inl 1]) (I' := up2 (up2 (up2 I 0 9 0) 0 6 a1) 0 7 a2) rfl rfl ?_
            exact g_reti hC hr (by decide) dX8_set_47 hv
        · have hv := hv2 hc
          clear hv1 hv2 hc
          refine g_blk hC _ bX8_set_21_22 (pc' := 22) (ls' := [some (.inr (some 0)), some (.inl a1), some (.inl a2)]) (st' := [.inl 0]) (I' := I) rfl rfl ?_
          exact g_reti hC hr (by decide) dX8_set_22 hv
theorem bX8_about_0_1 : okB cX8_about RX8 0 [(3, 1, 0, 0, 0)] := And.intro ⟨_, dX8_about_0, rfl⟩ trivial
theorem bX8_about_48_52 : okB cX8_about RX8 48 [(5, 0, 0, 0, 0), (23, 12, 8, 0, 0)] := And.intro ⟨_, dX8_about_48, rfl⟩ (And.intro ⟨dX8_about_49, fl_X8_12⟩ trivial)
theorem bX8_about_56_60 : okB cX8_about RX8 56 [(5, 0, 0, 0, 0), (23, 12, 8, 0, 0)] := And.intro ⟨_, dX8_about_56, rfl⟩ (And.intro ⟨dX8_about_57, fl_X8_12⟩ trivial)
theorem bX8_about_64_65 : okB cX8_about RX8 64 [(5, 0, 0, 0, 0)] := And.intro ⟨_, dX8_about_64, rfl⟩ trivial
theorem bX8_about_72_73 : okB cX8_about RX8 72 [(5, 0, 0, 0, 0)] := And.intro ⟨_, dX8_about_72, rfl⟩ trivial
theorem bX8_about_80_81 : okB cX8_about RX8 80 [(5, 0, 0, 0, 0)] := And.intro ⟨_, dX8_about_80, rfl⟩ trivial
theorem bX8_about_88_92 : okB cX8_about RX8 88 [(5, 0, 0, 0, 0), (23, 59, 8, 6, 0)] := And.intro ⟨_, dX8_about_88, rfl⟩ (And.intro ⟨dX8_about_89, fl_X8_59⟩ trivial)
theorem bX8_about_93_97 : okB cX8_about RX8 93 [(5, 0, 0, 0, 0), (23, 63, 8, 7, 0)] := And.intro ⟨_, dX8_about_93, rfl⟩ (And.intro ⟨dX8_about_94, fl_X8_63⟩ trivial)
theorem bX8_about_98_102 : okB cX8_about RX8 98 [(5, 0, 0, 0, 0), (23, 37, 8, 3, 0)] := And.intro ⟨_, dX8_about_98, rfl⟩ (And.intro ⟨dX8_about_99, fl_X8_37⟩ trivial)
theorem bX8_about_112_113 : okB cX8_about RX8 112 [(0, 0, 0, 0, 0)] := And.intro ⟨_, dX8_about_112, by decide⟩ trivial
theorem bX8_about_108_109 : okB cX8_about RX8 108 [(0, 0, 0, 0, 1)] := And.intro ⟨_, dX8_about_108, by decide⟩ trivial
theorem bX8_about_114_115 : okB cX8_about RX8 114 [(0, 0, 0, 0, (-1))] := And.intro ⟨_, dX8_about_114, by decide⟩ trivial
set_option maxHeartbeats 4000000 in
set_option maxRecDepth 100000 in
theorem k_X8_about (l : Launch) (D : va_G) (ads : AD) (I A : HI) (a1 : Int32) (po : Option AV → HI → HI → Prop) {pp_X8_freshRanking : HI → HI → Prop} {qq_X8_freshRanking : HI → HI → HI → HI → Prop} (hh_X8_freshRanking : ∀ (I A : HI), pp_X8_freshRanking I A → Ct l yX8_freshRanking cX8_freshRanking 1 (some (.object "RibbonSetter$Ranking")) 4 90 D ads shp [.inr (some 0)] I A (qK (qq_X8_freshRanking I A) 3))
    (hv : ((a1 = 0 → po (some (.inl (I 1 1))) I A) ∧ (a1 = 1 → po (some (.inl (sm32 (A 2) 100))) I A) ∧ (a1 = 2 → ((pp_X8_freshRanking I A) ∧ (∀ (I4 A4 : HI), qq_X8_freshRanking I A I4 A4 → po (some (.inl (I4 3 12))) I4 A4))) ∧ (a1 = 3 → ((pp_X8_freshRanking I A) ∧ (∀ (I7 A7 : HI), qq_X8_freshRanking I A I7 A7 → po (some (.inl (I7 3 13))) I7 A7))) ∧ (a1 = 4 → ((pp_X8_freshRanking I A) ∧ (∀ (I10 A10 : HI), qq_X8_freshRanking I A I10 A10 → po (some (.inl (I10 3 11))) I10 A10))) ∧ (a1 = 5 → po (some (.inl (I 0 6))) I A) ∧ (a1 = 6 → po (some (.inl (I 0 7))) I A) ∧ (a1 = 7 → ((I 26 2 = 0 ∨ I 26 2 = 1) ∧ (((I 26 2) = 0 → po (some (.inl 0)) I A) ∧ (¬ (I 26 2) = 0 → po (some (.inl 1)) I A)))) ∧ (a1.toInt < 0 ∨ 7 < a1.toInt → po (some (.inl ((-1)))) I A))) : Ct l yX8_about cX8_about 2 (some .int) 5 110 D ads shp [.inr (some 0), .inl a1] I A po := by
  refine Ct_of (by decide) (Nat.le_of_ble_eq_true rfl) ?_
  intro p e s m args below meth c hC hr
  replace hC : CX p s m args meth c cX8_about 2 RX8 (AdS ads s.heap.size) := hC
  show Gm p l e s m args below meth c D ads 5 110 2 po I A 0 [some (.inr (some 0)), some (.inl a1)] []
  refine g_blk hC _ bX8_about_0_1 (pc' := 1) (ls' := [some (.inr (some 0)), some (.inl a1)]) (st' := [.inl a1]) (I' := I) rfl rfl ?_
  obtain ⟨hv_0, hv_1, hv_2, hv_3, hv_4, hv_5, hv_6, hv_7, hvd⟩ := hv
  by_cases hc0 : a1 = 0
  · refine g_tabI hC dX8_about_1 (tgt := 48) (by rw [hc0]; decide) (by rw [hc0]; decide) (by rw [hc0]; rfl) (by decide) ?_
    have hv := hv_0 hc0
    refine g_blk hC _ bX8_about_48_52 (pc' := 52) (ls' := [some (.inr (some 0)), some (.inl a1)]) (st' := [.inr (some 1)]) (I' := I) rfl rfl ?_
    refine g_callV hC (c_X2_number l D ads I A ) dX8_about_52 nm_X2_number rfl rfl wl_X8_88 wi_X2_number ws_X2_number wn_X2 wc_X2_number ⟨by decide, by decide⟩ (as := []) (rest := []) rfl (Nat.le_of_ble_eq_true rfl) ⟨Nat.le_refl _, Nat.le_refl _⟩ (k_qI ?_)
    exact g_reti hC hr rfl dX8_about_55 hv
  by_cases hc1 : a1 = 1
  · refine g_tabI hC dX8_about_1 (tgt := 56) (by rw [hc1]; decide) (by rw [hc1]; decide) (by rw [hc1]; rfl) (by decide) ?_
    have hv := hv_1 hc1
    refine g_blk hC _ bX8_about_56_60 (pc' := 60) (ls' := [some (.inr (some 0)), some (.inl a1)]) (st' := [.inr (some 1)]) (I' := I) rfl rfl ?_
    refine g_callV hC (c_X2_sum l D ads I A ) dX8_about_60 nm_X2_sum rfl rfl wl_X8_92 wi_X2_sum ws_X2_sum wn_X2 wc_X2_sum ⟨by decide, by decide⟩ (as := []) (rest := []) rfl (Nat.le_of_ble_eq_true rfl) ⟨Nat.le_refl _, Nat.le_refl _⟩ (k_qI ?_)
    exact g_reti hC hr rfl dX8_about_63 hv
  by_cases hc2 : a1 = 2
  · refine g_tabI hC dX8_about_1 (tgt := 64) (by rw [hc2]; decide) (by rw [hc2]; decide) (by rw [hc2]; rfl) (by decide) ?_
    have hv := hv_2 hc2
    refine g_blk hC _ bX8_about_64_65 (pc' := 65) (ls' := [some (.inr (some 0)), some (.inl a1)]) (st' := [.inr (some 0)]) (I' := I) rfl rfl ?_
    obtain ⟨hp3, hv⟩ := hv
    refine g_callV hC (hh_X8_freshRanking I A  hp3) dX8_about_65 nm_X8_freshRanking rfl rfl wl_X8_95 wi_X8_freshRanking ws_X8_freshRanking wn_X8 wc_X8_freshRanking ⟨by decide, by decide⟩ (as := []) (rest := []) rfl (Nat.le_of_ble_eq_true rfl) ⟨Nat.le_refl _, Nat.le_refl _⟩ (k_qK ?_)
    intro I4 A4 hq4
    replace hv := hv I4 A4 hq4
    refine g_callV hC (c_X5_turnedNumber l D ads I4 A4 ) dX8_about_68 nm_X5_turnedNumber rfl rfl wl_X8_99 wi_X5_turnedNumber ws_X5_turnedNumber wn_X5 wc_X5_turnedNumber ⟨by decide, by decide⟩ (as := []) (rest := []) rfl (Nat.le_of_ble_eq_true rfl) ⟨Nat.le_refl _, Nat.le_refl _⟩ (k_qI ?_)
    exact g_reti hC hr rfl dX8_about_71 hv
  by_cases hc3 : a1 = 3
  · refine g_tabI hC dX8_about_1 (tgt := 72) (by rw [hc3]; decide) (by rw [hc3]; decide) (by rw [hc3]; rfl) (by decide) ?_
    have hv := hv_3 hc3
    refine g_blk hC _ bX8_about_72_73 (pc' := 73) (ls' := [some (.inr (some 0)), some (.inl a1)]) (st' := [.inr (some 0)]) (I' := I) rfl rfl ?_
    obtain ⟨hp6, hv⟩ := hv
    refine g_callV hC (hh_X8_freshRanking I A  hp6) dX8_about_73 nm_X8_freshRanking rfl rfl wl_X8_95 wi_X8_freshRanking ws_X8_freshRanking wn_X8 wc_X8_freshRanking ⟨by decide, by decide⟩ (as := []) (rest := []) rfl (Nat.le_of_ble_eq_true rfl) ⟨Nat.le_refl _, Nat.le_refl _⟩ (k_qK ?_)
    intro I7 A7 hq7
    replace hv := hv I7 A7 hq7
    refine g_callV hC (c_X5_turnedSum l D ads I7 A7 ) dX8_about_76 nm_X5_turnedSum rfl rfl wl_X8_102 wi_X5_turnedSum ws_X5_turnedSum wn_X5 wc_X5_turnedSum ⟨by decide, by decide⟩ (as := []) (rest := []) rfl (Nat.le_of_ble_eq_true rfl) ⟨Nat.le_refl _, Nat.le_refl _⟩ (k_qI ?_)
    exact g_reti hC hr rfl dX8_about_79 hv
  by_cases hc4 : a1 = 4
  · refine g_tabI hC dX8_about_1 (tgt := 80) (by rw [hc4]; decide) (by rw [hc4]; decide) (by rw [hc4]; rfl) (by decide) ?_
    have hv := hv_4 hc4
    refine g_blk hC _ bX8_about_80_81 (pc' := 81) (ls' := [some (.inr (some 0)), some (.inl a1)]) (st' := [.inr (some 0)]) (I' := I) rfl rfl ?_
    obtain ⟨hp9, hv⟩ := hv
    refine g_callV hC (hh_X8_freshRanking I A  hp9) dX8_about_81 nm_X8_freshRanking rfl rfl wl_X8_95 wi_X8_freshRanking ws_X8_freshRanking wn_X8 wc_X8_freshRanking ⟨by decide, by decide⟩ (as := []) (rest := []) rfl (Nat.le_of_ble_eq_true rfl) ⟨Nat.le_refl _, Nat.le_refl _⟩ (k_qK ?_)
    intro I10 A10 hq10
    replace hv := hv I10 A10 hq10
    refine g_callV hC (c_X5_layers l D ads I10 A10 ) dX8_about_84 nm_X5_layers rfl rfl wl_X8_105 wi_X5_layers ws_X5_layers wn_X5 wc_X5_layers ⟨by decide, by decide⟩ (as := []) (rest := []) rfl (Nat.le_of_ble_eq_true rfl) ⟨Nat.le_refl _, Nat.le_refl _⟩ (k_qI ?_)
    exact g_reti hC hr rfl dX8_about_87 hv
  by_cases hc5 : a1 = 5
  · refine g_tabI hC dX8_about_1 (tgt := 88) (by rw [hc5]; decide) (by rw [hc5]; decide) (by rw [hc5]; rfl) (by decide) ?_
    have hv := hv_5 hc5
    refine g_blk hC _ bX8_about_88_92 (pc' := 92) (ls' := [some (.inr (some 0)), some (.inl a1)]) (st' := [.inl (I 0 6)]) (I' := I) rfl rfl ?_
    exact g_reti hC hr rfl dX8_about_92 hv
  by_cases hc6 : a1 = 6
  · refine g_tabI hC dX8_about_1 (tgt := 93) (by rw [hc6]; decide) (by rw [hc6]; decide) (by rw [hc6]; rfl) (by decide) ?_
    have hv := hv_6 hc6
    refine g_blk hC _ bX8_about_93_97 (pc' := 97) (ls' := [some (.inr (some 0)), some (.inl a1)]) (st' := [.inl (I 0 7)]) (I' := I) rfl rfl ?_
    exact g_reti hC hr rfl dX8_about_97 hv
  by_cases hc7 : a1 = 7
  · refine g_tabI hC dX8_about_1 (tgt := 98) (by rw [hc7]; decide) (by rw [hc7]; decide) (by rw [hc7]; rfl) (by decide) ?_
    have hv := hv_7 hc7
    refine g_blk hC _ bX8_about_98_102 (pc' := 102) (ls' := [some (.inr (some 0)), some (.inl a1)]) (st' := [.inr (some 26)]) (I' := I) rfl rfl ?_
    obtain ⟨hp12, hv⟩ := hv
    refine g_callV hC (c_X4_holds l D ads I A  hp12) dX8_about_102 nm_X4_holds rfl rfl wl_X8_108 wi_X4_holds ws_X4_holds wn_X4 wc_X4_holds ⟨by decide, by decide⟩ (as := []) (rest := []) rfl (Nat.le_of_ble_eq_true rfl) ⟨Nat.le_refl _, Nat.le_refl _⟩ (k_qI ?_)
    obtain ⟨hv1, hv2⟩ := hv
    refine g_ifeq hC dX8_about_105 (tgt := 112) (by decide) (fun hc => ?_) (fun hc => ?_)
    · have hv := hv1 hc
      clear hv1 hv2 hc
      refine g_blk hC _ bX8_about_112_113 (pc' := 113) (ls' := [some (.inr (some 0)), some (.inl a1)]) (st' := [.inl 0]) (I' := I) rfl rfl ?_
      exact g_reti hC hr rfl dX8_about_113 hv
    · have hv := hv2 hc
      clear hv1 hv2 hc
      refine g_blk hC _ bX8_about_108_109 (pc' := 109) (ls' := [some (.inr (some 0)), some (.inl a1)]) (st' := [.inl 1]) (I' := I) rfl rfl ?_
      refine g_goto hC dX8_about_109 (tgt := 113) (by decide) ?_
      exact g_reti hC hr rfl dX8_about_113 hv
  have hn0 := lv_neT hc0 (k := 0) (a := 0) (by decide)
  have hn1 := lv_neT hc1 (k := 1) (a := 1) (by decide)
  have hn2 := lv_neT hc2 (k := 2) (a := 2) (by decide)
  have hn3 := lv_neT hc3 (k := 3) (a := 3) (by decide)
  have hn4 := lv_neT hc4 (k := 4) (a := 4) (by decide)
  have hn5 := lv_neT hc5 (k := 5) (a := 5) (by decide)
  have hn6 := lv_neT hc6 (k := 6) (a := 6) (by decide)
  have hn7 := lv_neT hc7 (k := 7) (a := 7) (by decide)
  have hcd : a1.toInt < 0 ∨ 7 < a1.toInt := by omega
  refine g_tabO hC dX8_about_1 (tgt := 114) hcd (by decide) ?_
  have hv := hvd hcd
  refine g_blk hC _ bX8_about_114_115 (pc' := 115) (ls' := [some (.inr (some 0)), some (.inl a1)]) (st' := [.inl ((-1))]) (I' := I) rfl rfl ?_
  exact g_reti hC hr rfl dX8_about_115 hv
theorem bX8_width_0_6 : okB cX8_width RX8 0 [(5, 0, 0, 0, 0), (23, 12, 8, 0, 0), (3, 1, 0, 0, 0), (3, 2, 0, 0, 0)] := And.intro ⟨_, dX8_width_0, rfl⟩ (And.intro ⟨dX8_width_1, fl_X8_12⟩ (And.intro ⟨_, dX8_width_4, rfl⟩ (And.intro ⟨_, dX8_width_5, rfl⟩ trivial)))
set_option maxHeartbeats 4000000 in
set_option maxRecDepth 100000 in
theorem k_X8_width (l : Launch) (D : va_G) (ads : AD) (I A : HI) (a1 : Int32) (a2 : Int32) (po : Option AV → HI → HI → Prop)
    (hv : po (some (.inl (btw A a1 a2))) I A) : Ct l yX8_width cX8_width 3 (some .int) 2 43 D ads shp [.inr (some 0), .inl a1, .inl a2] I A po := by
  refine Ct_of (by decide) (Nat.le_of_ble_eq_true rfl) ?_
  intro p e s m args below meth c hC hr
  replace hC : CX p s m args meth c cX8_width 3 RX8 (AdS ads s.heap.size) := hC
  show Gm p l e s m args below meth c D ads 2 43 3 po I A 0 [some (.inr (some 0)), some (.inl a1), some (.inl a2)] []
  refine g_blk hC _ bX8_width_0_6 (pc' := 6) (ls' := [some (.inr (some 0)), some (.inl a1), some (.inl a2)]) (st' := [.inl a2, .inl a1, .inr (some 1)]) (I' := I) rfl rfl ?_
  refine g_callV hC (c_X2_between l D ads I A a1 a2) dX8_width_6 nm_X2_between rfl rfl wl_X8_77 wi_X2_between ws_X2_between wn_X2 wc_X2_between ⟨by decide, by decide⟩ (as := [.inl a1, .inl a2]) (rest := []) rfl (Nat.le_of_ble_eq_true rfl) ⟨Nat.le_refl _, Nat.le_refl _⟩ (k_qI ?_)
  exact g_reti hC hr rfl dX8_width_9 hv
theorem bX8_turned_0_6 : okB cX8_turned RX8 0 [(5, 0, 0, 0, 0), (23, 12, 8, 0, 0), (3, 1, 0, 0, 0), (3, 2, 0, 0, 0)] := And.intro ⟨_, dX8_turned_0, rfl⟩ (And.intro ⟨dX8_turned_1, fl_X8_12⟩ (And.intro ⟨_, dX8_turned_4, rfl⟩ (And.intro ⟨_, dX8_turned_5, rfl⟩ trivial)))
theorem bX8_turned_14_15 : okB cX8_turned RX8 14 [(5, 0, 0, 0, 0)] := And.intro ⟨_, dX8_turned_14, rfl⟩ trivial
theorem bX8_turned_18_20 : okB cX8_turned RX8 18 [(3, 1, 0, 0, 0), (3, 2, 0, 0, 0)] := And.intro ⟨_, dX8_turned_18, rfl⟩ (And.intro ⟨_, dX8_turned_19, rfl⟩ trivial)
theorem bX8_turned_30_31 : okB cX8_turned RX8 30 [(0, 0, 0, 0, 0)] := And.intro ⟨_, dX8_turned_30, by decide⟩ trivial
theorem bX8_turned_26_27 : okB cX8_turned RX8 26 [(0, 0, 0, 0, 1)] := And.intro ⟨_, dX8_turned_26, by decide⟩ trivial
theorem bX8_turned_12_13 : okB cX8_turned RX8 12 [(0, 0, 0, 0, (-1))] := And.intro ⟨_, dX8_turned_12, by decide⟩ trivial
set_option maxHeartbeats 4000000 in
set_option maxRecDepth 100000 in
theorem k_X8_turned (l : Launch) (D : va_G) (ads : AD) (I A : HI) (a1 : Int32) (a2 : Int32) (po : Option AV → HI → HI → Prop) {pp_X8_freshRanking : HI → HI → Prop} {qq_X8_freshRanking : HI → HI → HI → HI → Prop} (hh_X8_freshRanking : ∀ (I A : HI), pp_X8_freshRanking I A → Ct l yX8_freshRanking cX8_freshRanking 1 (some (.object "RibbonSetter$Ranking")) 4 90 D ads shp [.inr (some 0)] I A (qK (qq_X8_freshRanking I A) 3))
    (hv : ((¬ (btw A a1 a2) = 0 → ((pp_X8_freshRanking I A) ∧ (∀ (I3 A3 : HI), qq_X8_freshRanking I A I3 A3 → ((vp_in a1 10 ∧ vp_in a2 10) ∧ (((trnI (A3 10) a1 a2) = 0 → po (some (.inl 0)) I3 A3) ∧ (¬ (trnI (A3 10) a1 a2) = 0 → po (some (.inl 1)) I3 A3)))))) ∧ ((btw A a1 a2) = 0 → po (some (.inl ((-1)))) I A))) : Ct l yX8_turned cX8_turned 3 (some .int) 5 110 D ads shp [.inr (some 0), .inl a1, .inl a2] I A po := by
  refine Ct_of (by decide) (Nat.le_of_ble_eq_true rfl) ?_
  intro p e s m args below meth c hC hr
  replace hC : CX p s m args meth c cX8_turned 3 RX8 (AdS ads s.heap.size) := hC
  show Gm p l e s m args below meth c D ads 5 110 3 po I A 0 [some (.inr (some 0)), some (.inl a1), some (.inl a2)] []
  refine g_blk hC _ bX8_turned_0_6 (pc' := 6) (ls' := [some (.inr (some 0)), some (.inl a1), some (.inl a2)]) (st' := [.inl a2, .inl a1, .inr (some 1)]) (I' := I) rfl rfl ?_
  refine g_callV hC (c_X2_between l D ads I A a1 a2) dX8_turned_6 nm_X2_between rfl rfl wl_X8_77 wi_X2_between ws_X2_between wn_X2 wc_X2_between ⟨by decide, by decide⟩ (as := [.inl a1, .inl a2]) (rest := []) rfl (Nat.le_of_ble_eq_true rfl) ⟨Nat.le_refl _, Nat.le_refl _⟩ (k_qI ?_)
  obtain ⟨hv1, hv2⟩ := hv
  refine g_ifne hC dX8_turned_9 (tgt := 14) (by decide) (fun hc => ?_) (fun hc => ?_)
  · have hv := hv1 hc
    clear hv1 hv2 hc
    refine g_blk hC _ bX8_turned_14_15 (pc' := 15) (ls' := [some (.inr (some 0)), some (.inl a1), some (.inl a2)]) (st' := [.inr (some 0)]) (I' := I) rfl rfl ?_
    obtain ⟨hp2, hv⟩ := hv
    refine g_callV hC (hh_X8_freshRanking I A  hp2) dX8_turned_15 nm_X8_freshRanking rfl rfl wl_X8_95 wi_X8_freshRanking ws_X8_freshRanking wn_X8 wc_X8_freshRanking ⟨by decide, by decide⟩ (as := []) (rest := []) rfl (Nat.le_of_ble_eq_true rfl) ⟨Nat.le_refl _, Nat.le_refl _⟩ (k_qK ?_)
    intro I3 A3 hq3
    replace hv := hv I3 A3 hq3
    refine g_blk hC _ bX8_turned_18_20 (pc' := 20) (ls' := [some (.inr (some 0)), some (.inl a1), some (.inl a2)]) (st' := [.inl a2, .inl a1, .inr (some 3)]) (I' := I3) rfl rfl ?_
    obtain ⟨hp4, hv⟩ := hv
    refine g_callV hC (c_X5_turns l D ads I3 A3 a1 a2 hp4) dX8_turned_20 nm_X5_turns rfl rfl wl_X8_112 wi_X5_turns ws_X5_turns wn_X5 wc_X5_turns ⟨by decide, by decide⟩ (as := [.inl a1, .inl a2]) (rest := []) rfl (Nat.le_of_ble_eq_true rfl) ⟨Nat.le_refl _, Nat.le_refl _⟩ (k_qI ?_)
    obtain ⟨hv1, hv2⟩ := hv
    refine g_ifeq hC dX8_turned_23 (tgt := 30) (by decide) (fun hc => ?_) (fun hc => ?_)
    · have hv := hv1 hc
      clear hv1 hv2 hc
      refine g_blk hC _ bX8_turned_30_31 (pc' := 31) (ls' := [some (.inr (some 0)), some (.inl a1), some (.inl a2)]) (st' := [.inl 0]) (I' := I3) rfl rfl ?_
      exact g_reti hC hr rfl dX8_turned_31 hv
    · have hv := hv2 hc
      clear hv1 hv2 hc
      refine g_blk hC _ bX8_turned_26_27 (pc' := 27) (ls' := [some (.inr (some 0)), some (.inl a1), some (.inl a2)]) (st' := [.inl 1]) (I' := I3) rfl rfl ?_
      refine g_goto hC dX8_turned_27 (tgt := 31) (by decide) ?_
      exact g_reti hC hr rfl dX8_turned_31 hv
  · have hv := hv2 hc
    clear hv1 hv2 hc
    refine g_blk hC _ bX8_turned_12_13 (pc' := 13) (ls' := [some (.inr (some 0)), some (.inl a1), some (.inl a2)]) (st' := [.inl ((-1))]) (I' := I) rfl rfl ?_
    exact g_reti hC hr rfl dX8_turned_13 hv
theorem bX8_row_0_1 : okB cX8_row RX8 0 [(5, 0, 0, 0, 0)] := And.intro ⟨_, dX8_row_0, rfl⟩ trivial
theorem bX8_row_4_5 : okB cX8_row RX8 4 [(3, 1, 0, 0, 0)] := And.intro ⟨_, dX8_row_4, rfl⟩ trivial
set_option maxHeartbeats 4000000 in
set_option maxRecDepth 100000 in
theorem k_X8_row (l : Launch) (D : va_G) (ads : AD) (I A : HI) (a1 : Int32) (po : Option AV → HI → HI → Prop) {pp_X8_freshRanking : HI → HI → Prop} {qq_X8_freshRanking : HI → HI → HI → HI → Prop} (hh_X8_freshRanking : ∀ (I A : HI), pp_X8_freshRanking I A → Ct l yX8_freshRanking cX8_freshRanking 1 (some (.object "RibbonSetter$Ranking")) 4 90 D ads shp [.inr (some 0)] I A (qK (qq_X8_freshRanking I A) 3))
    (hv : ((pp_X8_freshRanking I A) ∧ (∀ (I2 A2 : HI), qq_X8_freshRanking I A I2 A2 → ((I2 3 2 ≤ 10) ∧ po (some (.inl (plI I2 A2 a1))) I2 A2)))) : Ct l yX8_row cX8_row 2 (some .int) 5 110 D ads shp [.inr (some 0), .inl a1] I A po := by
  refine Ct_of (by decide) (Nat.le_of_ble_eq_true rfl) ?_
  intro p e s m args below meth c hC hr
  replace hC : CX p s m args meth c cX8_row 2 RX8 (AdS ads s.heap.size) := hC
  show Gm p l e s m args below meth c D ads 5 110 2 po I A 0 [some (.inr (some 0)), some (.inl a1)] []
  refine g_blk hC _ bX8_row_0_1 (pc' := 1) (ls' := [some (.inr (some 0)), some (.inl a1)]) (st' := [.inr (some 0)]) (I' := I) rfl rfl ?_
  obtain ⟨hp1, hv⟩ := hv
  refine g_callV hC (hh_X8_freshRanking I A  hp1) dX8_row_1 nm_X8_freshRanking rfl rfl wl_X8_95 wi_X8_freshRanking ws_X8_freshRanking wn_X8 wc_X8_freshRanking ⟨by decide, by decide⟩ (as := []) (rest := []) rfl (Nat.le_of_ble_eq_true rfl) ⟨Nat.le_refl _, Nat.le_refl _⟩ (k_qK ?_)
  intro I2 A2 hq2
  replace hv := hv I2 A2 hq2
  refine g_blk hC _ bX8_row_4_5 (pc' := 5) (ls' := [some (.inr (some 0)), some (.inl a1)]) (st' := [.inl a1, .inr (some 3)]) (I' := I2) rfl rfl ?_
  obtain ⟨hp3, hv⟩ := hv
  refine g_callV hC (c_X5_placeAt l D ads I2 A2 a1 hp3) dX8_row_5 nm_X5_placeAt rfl rfl wl_X8_116 wi_X5_placeAt ws_X5_placeAt wn_X5 wc_X5_placeAt ⟨by decide, by decide⟩ (as := [.inl a1]) (rest := []) rfl (Nat.le_of_ble_eq_true rfl) ⟨Nat.le_refl _, Nat.le_refl _⟩ (k_qI ?_)
  exact g_reti hC hr rfl dX8_row_8 hv
theorem bX8_layer_0_1 : okB cX8_layer RX8 0 [(3, 1, 0, 0, 0)] := And.intro ⟨_, dX8_layer_0, rfl⟩ trivial
theorem bX8_layer_18_19 : okB cX8_layer RX8 18 [(0, 0, 0, 0, (-1))] := And.intro ⟨_, dX8_layer_18, by decide⟩ trivial
theorem bX8_layer_7_8 : okB cX8_layer RX8 7 [(5, 0, 0, 0, 0)] := And.intro ⟨_, dX8_layer_7, rfl⟩ trivial
theorem bX8_layer_11_12 : okB cX8_layer RX8 11 [(3, 1, 0, 0, 0)] := And.intro ⟨_, dX8_layer_11, rfl⟩ trivial
set_option maxHeartbeats 4000000 in
set_option maxRecDepth 100000 in
theorem k_X8_layer (l : Launch) (D : va_G) (ads : AD) (I A : HI) (a1 : Int32) (po : Option AV → HI → HI → Prop) {pp_X8_freshRanking : HI → HI → Prop} {qq_X8_freshRanking : HI → HI → HI → HI → Prop} (hh_X8_freshRanking : ∀ (I A : HI), pp_X8_freshRanking I A → Ct l yX8_freshRanking cX8_freshRanking 1 (some (.object "RibbonSetter$Ranking")) 4 90 D ads shp [.inr (some 0)] I A (qK (qq_X8_freshRanking I A) 3))
    (hv : (((zP a1) = 0 → po (some (.inl ((-1)))) I A) ∧ (¬ (zP a1) = 0 → ((pp_X8_freshRanking I A) ∧ (∀ (I3 A3 : HI), qq_X8_freshRanking I A I3 A3 → ((vp_in a1 10) ∧ po (some (.inl (A3 11 a1.toNatClampNeg))) I3 A3)))))) : Ct l yX8_layer cX8_layer 2 (some .int) 5 110 D ads shp [.inr (some 0), .inl a1] I A po := by
  refine Ct_of (by decide) (Nat.le_of_ble_eq_true rfl) ?_
  intro p e s m args below meth c hC hr
  replace hC : CX p s m args meth c cX8_layer 2 RX8 (AdS ads s.heap.size) := hC
  show Gm p l e s m args below meth c D ads 5 110 2 po I A 0 [some (.inr (some 0)), some (.inl a1)] []
  refine g_blk hC _ bX8_layer_0_1 (pc' := 1) (ls' := [some (.inr (some 0)), some (.inl a1)]) (st' := [.inl a1]) (I' := I) rfl rfl ?_
  refine g_callS hC (c_X8_isPlace l D ads I A a1) dX8_layer_1 nm_X8_isPlace wl_X8_120 wt_X8_isPlace wn_X8 wc_X8_isPlace ⟨by decide, by decide⟩ (as := [.inl a1]) (rest := []) rfl (Nat.le_of_ble_eq_true rfl) ⟨Nat.le_refl _, Nat.le_refl _⟩ (k_qI ?_)
  obtain ⟨hv1, hv2⟩ := hv
  refine g_ifeq hC dX8_layer_4 (tgt := 18) (by decide) (fun hc => ?_) (fun hc => ?_)
  · have hv := hv1 hc
    clear hv1 hv2 hc
    refine g_blk hC _ bX8_layer_18_19 (pc' := 19) (ls' := [some (.inr (some 0)), some (.inl a1)]) (st' := [.inl ((-1))]) (I' := I) rfl rfl ?_
    exact g_reti hC hr rfl dX8_layer_19 hv
  · have hv := hv2 hc
    clear hv1 hv2 hc
    refine g_blk hC _ bX8_layer_7_8 (pc' := 8) (ls' := [some (.inr (some 0)), some (.inl a1)]) (st' := [.inr (some 0)]) (I' := I) rfl rfl ?_
    obtain ⟨hp2, hv⟩ := hv
    refine g_callV hC (hh_X8_freshRanking I A  hp2) dX8_layer_8 nm_X8_freshRanking rfl rfl wl_X8_95 wi_X8_freshRanking ws_X8_freshRanking wn_X8 wc_X8_freshRanking ⟨by decide, by decide⟩ (as := []) (rest := []) rfl (Nat.le_of_ble_eq_true rfl) ⟨Nat.le_refl _, Nat.le_refl _⟩ (k_qK ?_)
    intro I3 A3 hq3
    replace hv := hv I3 A3 hq3
    refine g_blk hC _ bX8_layer_11_12 (pc' := 12) (ls' := [some (.inr (some 0)), some (.inl a1)]) (st' := [.inl a1, .inr (some 3)]) (I' := I3) rfl rfl ?_
    obtain ⟨hp4, hv⟩ := hv
    refine g_callV hC (c_X5_layerOf l D ads I3 A3 a1 hp4) dX8_layer_12 nm_X5_layerOf rfl rfl wl_X8_124 wi_X5_layerOf ws_X5_layerOf wn_X5 wc_X5_layerOf ⟨by decide, by decide⟩ (as := [.inl a1]) (rest := []) rfl (Nat.le_of_ble_eq_true rfl) ⟨Nat.le_refl _, Nat.le_refl _⟩ (k_qI ?_)
    refine g_goto hC dX8_layer_15 (tgt := 19) (by decide) ?_
    exact g_reti hC hr rfl dX8_layer_19 hv
theorem bX8_rest_0_1 : okB cX8_rest RX8 0 [(3, 1, 0, 0, 0)] := And.intro ⟨_, dX8_rest_0, rfl⟩ trivial
theorem bX8_rest_27_30 : okB cX8_rest RX8 27 [(2, 0, 0, 0, (-10000))] := And.intro ⟨_, dX8_rest_27, by decide⟩ trivial
theorem bX8_rest_7_12 : okB cX8_rest RX8 7 [(5, 0, 0, 0, 0), (23, 12, 8, 0, 0), (3, 1, 0, 0, 0)] := And.intro ⟨_, dX8_rest_7, rfl⟩ (And.intro ⟨dX8_rest_8, fl_X8_12⟩ (And.intro ⟨_, dX8_rest_11, rfl⟩ trivial))
theorem bX8_rest_15_20 : okB cX8_rest RX8 15 [(5, 0, 0, 0, 0), (23, 12, 8, 0, 0), (3, 1, 0, 0, 0)] := And.intro ⟨_, dX8_rest_15, rfl⟩ (And.intro ⟨dX8_rest_16, fl_X8_12⟩ (And.intro ⟨_, dX8_rest_19, rfl⟩ trivial))
theorem bX8_rest_23_24 : okB cX8_rest RX8 23 [(13, 0, 0, 0, 0)] := And.intro dX8_rest_23 trivial
set_option maxHeartbeats 4000000 in
set_option maxRecDepth 100000 in
theorem k_X8_rest (l : Launch) (D : va_G) (ads : AD) (I A : HI) (a1 : Int32) (po : Option AV → HI → HI → Prop)
    (hv : (((zP a1) = 0 → po (some (.inl ((-10000)))) I A) ∧ (¬ (zP a1) = 0 → po (some (.inl ((sm32 (fun a => btw A (nI a) a1) 10) - (sm32 (fun b => btw A a1 (nI b)) 10)))) I A))) : Ct l yX8_rest cX8_rest 2 (some .int) 3 66 D ads shp [.inr (some 0), .inl a1] I A po := by
  refine Ct_of (by decide) (Nat.le_of_ble_eq_true rfl) ?_
  intro p e s m args below meth c hC hr
  replace hC : CX p s m args meth c cX8_rest 2 RX8 (AdS ads s.heap.size) := hC
  show Gm p l e s m args below meth c D ads 3 66 2 po I A 0 [some (.inr (some 0)), some (.inl a1)] []
  refine g_blk hC _ bX8_rest_0_1 (pc' := 1) (ls' := [some (.inr (some 0)), some (.inl a1)]) (st' := [.inl a1]) (I' := I) rfl rfl ?_
  refine g_callS hC (c_X8_isPlace l D ads I A a1) dX8_rest_1 nm_X8_isPlace wl_X8_120 wt_X8_isPlace wn_X8 wc_X8_isPlace ⟨by decide, by decide⟩ (as := [.inl a1]) (rest := []) rfl (Nat.le_of_ble_eq_true rfl) ⟨Nat.le_refl _, Nat.le_refl _⟩ (k_qI ?_)
  obtain ⟨hv1, hv2⟩ := hv
  refine g_ifeq hC dX8_rest_4 (tgt := 27) (by decide) (fun hc => ?_) (fun hc => ?_)
  · have hv := hv1 hc
    clear hv1 hv2 hc
    refine g_blk hC _ bX8_rest_27_30 (pc' := 30) (ls' := [some (.inr (some 0)), some (.inl a1)]) (st' := [.inl ((-10000))]) (I' := I) rfl rfl ?_
    exact g_reti hC hr rfl dX8_rest_30 hv
  · have hv := hv2 hc
    clear hv1 hv2 hc
    refine g_blk hC _ bX8_rest_7_12 (pc' := 12) (ls' := [some (.inr (some 0)), some (.inl a1)]) (st' := [.inl a1, .inr (some 1)]) (I' := I) rfl rfl ?_
    refine g_callV hC (c_X2_comingTo l D ads I A a1) dX8_rest_12 nm_X2_comingTo rfl rfl wl_X8_127 wi_X2_comingTo ws_X2_comingTo wn_X2 wc_X2_comingTo ⟨by decide, by decide⟩ (as := [.inl a1]) (rest := []) rfl (Nat.le_of_ble_eq_true rfl) ⟨Nat.le_refl _, Nat.le_refl _⟩ (k_qI ?_)
    refine g_blk hC _ bX8_rest_15_20 (pc' := 20) (ls' := [some (.inr (some 0)), some (.inl a1)]) (st' := [.inl a1, .inr (some 1), .inl (sm32 (fun a => btw A (nI a) a1) 10)]) (I' := I) rfl rfl ?_
    refine g_callV hC (c_X2_goingFrom l D ads I A a1) dX8_rest_20 nm_X2_goingFrom rfl rfl wl_X8_130 wi_X2_goingFrom ws_X2_goingFrom wn_X2 wc_X2_goingFrom ⟨by decide, by decide⟩ (as := [.inl a1]) (rest := [.inl (sm32 (fun a => btw A (nI a) a1) 10)]) rfl (Nat.le_of_ble_eq_true rfl) ⟨Nat.le_refl _, Nat.le_refl _⟩ (k_qI ?_)
    refine g_blk hC _ bX8_rest_23_24 (pc' := 24) (ls' := [some (.inr (some 0)), some (.inl a1)]) (st' := [.inl ((sm32 (fun a => btw A (nI a) a1) 10) - (sm32 (fun b => btw A a1 (nI b)) 10))]) (I' := I) rfl rfl ?_
    refine g_goto hC dX8_rest_24 (tgt := 30) (by decide) ?_
    exact g_reti hC hr rfl dX8_rest_30 hv
theorem bX8_cost_0_1 : okB cX8_cost RX8 0 [(5, 0, 0, 0, 0)] := And.intro ⟨_, dX8_cost_0, rfl⟩ trivial
theorem bX8_cost_17_18 : okB cX8_cost RX8 17 [(0, 0, 0, 0, (-1))] := And.intro ⟨_, dX8_cost_17, by decide⟩ trivial
theorem bX8_cost_7_11 : okB cX8_cost RX8 7 [(5, 0, 0, 0, 0), (23, 46, 8, 4, 0)] := And.intro ⟨_, dX8_cost_7, rfl⟩ (And.intro ⟨dX8_cost_8, fl_X8_46⟩ trivial)
set_option maxHeartbeats 4000000 in
set_option maxRecDepth 100000 in
theorem k_X8_cost (l : Launch) (D : va_G) (ads : AD) (I A : HI) (po : Option AV → HI → HI → Prop) {pp_X8_isDrawn : HI → HI → Prop} {qq_X8_isDrawn : HI → HI → Int32 → HI → HI → Prop} (hh_X8_isDrawn : ∀ (I A : HI), pp_X8_isDrawn I A → Ct l yX8_isDrawn cX8_isDrawn 1 (some .boolean) 5 124 D ads shp [.inr (some 0)] I A (qJ (qq_X8_isDrawn I A)))
    (hv : ((pp_X8_isDrawn I A) ∧ (∀ (r2 : Int32) (I2 A2 : HI), qq_X8_isDrawn I A r2 I2 A2 → ((r2 = 0 → po (some (.inl ((-1)))) I2 A2) ∧ (¬ r2 = 0 → po (some (.inl (I2 29 9))) I2 A2))))) : Ct l yX8_cost cX8_cost 1 (some .int) 6 144 D ads shp [.inr (some 0)] I A po := by
  refine Ct_of (by decide) (Nat.le_of_ble_eq_true rfl) ?_
  intro p e s m args below meth c hC hr
  replace hC : CX p s m args meth c cX8_cost 1 RX8 (AdS ads s.heap.size) := hC
  show Gm p l e s m args below meth c D ads 6 144 1 po I A 0 [some (.inr (some 0))] []
  refine g_blk hC _ bX8_cost_0_1 (pc' := 1) (ls' := [some (.inr (some 0))]) (st' := [.inr (some 0)]) (I' := I) rfl rfl ?_
  obtain ⟨hp1, hv⟩ := hv
  refine g_callV hC (hh_X8_isDrawn I A  hp1) dX8_cost_1 nm_X8_isDrawn rfl rfl wl_X8_133 wi_X8_isDrawn ws_X8_isDrawn wn_X8 wc_X8_isDrawn ⟨by decide, by decide⟩ (as := []) (rest := []) rfl (Nat.le_of_ble_eq_true rfl) ⟨Nat.le_refl _, Nat.le_refl _⟩ (k_qJ ?_)
  intro r2 I2 A2 hq2
  replace hv := hv r2 I2 A2 hq2
  obtain ⟨hv1, hv2⟩ := hv
  refine g_ifeq hC dX8_cost_4 (tgt := 17) (by decide) (fun hc => ?_) (fun hc => ?_)
  · have hv := hv1 hc
    clear hv1 hv2 hc
    refine g_blk hC _ bX8_cost_17_18 (pc' := 18) (ls' := [some (.inr (some 0))]) (st' := [.inl ((-1))]) (I' := I2) rfl rfl ?_
    exact g_reti hC hr rfl dX8_cost_18 hv
  · have hv := hv2 hc
    clear hv1 hv2 hc
    refine g_blk hC _ bX8_cost_7_11 (pc' := 11) (ls' := [some (.inr (some 0))]) (st' := [.inr (some 29)]) (I' := I2) rfl rfl ?_
    refine g_callV hC (c_X6_leastCost l D ads I2 A2 ) dX8_cost_11 nm_X6_leastCost rfl rfl wl_X8_136 wi_X6_leastCost ws_X6_leastCost wn_X6 wc_X6_leastCost ⟨by decide, by decide⟩ (as := []) (rest := []) rfl (Nat.le_of_ble_eq_true rfl) ⟨Nat.le_refl _, Nat.le_refl _⟩ (k_qI ?_)
    refine g_goto hC dX8_cost_14 (tgt := 18) (by decide) ?_
    exact g_reti hC hr rfl dX8_cost_18 hv
theorem bX8_part_0_1 : okB cX8_part RX8 0 [(5, 0, 0, 0, 0)] := And.intro ⟨_, dX8_part_0, rfl⟩ trivial
theorem bX8_part_9_10 : okB cX8_part RX8 9 [(3, 1, 0, 0, 0)] := And.intro ⟨_, dX8_part_9, rfl⟩ trivial
theorem bX8_part_36_40 : okB cX8_part RX8 36 [(5, 0, 0, 0, 0), (23, 46, 8, 4, 0)] := And.intro ⟨_, dX8_part_36, rfl⟩ (And.intro ⟨dX8_part_37, fl_X8_46⟩ trivial)
theorem bX8_part_44_48 : okB cX8_part RX8 44 [(5, 0, 0, 0, 0), (23, 46, 8, 4, 0)] := And.intro ⟨_, dX8_part_44, rfl⟩ (And.intro ⟨dX8_part_45, fl_X8_46⟩ trivial)
theorem bX8_part_52_56 : okB cX8_part RX8 52 [(5, 0, 0, 0, 0), (23, 46, 8, 4, 0)] := And.intro ⟨_, dX8_part_52, rfl⟩ (And.intro ⟨dX8_part_53, fl_X8_46⟩ trivial)
theorem bX8_part_60_61 : okB cX8_part RX8 60 [(0, 0, 0, 0, (-1))] := And.intro ⟨_, dX8_part_60, by decide⟩ trivial
theorem bX8_part_7_8 : okB cX8_part RX8 7 [(0, 0, 0, 0, (-1))] := And.intro ⟨_, dX8_part_7, by decide⟩ trivial
set_option maxHeartbeats 4000000 in
set_option maxRecDepth 100000 in
theorem k_X8_part (l : Launch) (D : va_G) (ads : AD) (I A : HI) (a1 : Int32) (po : Option AV → HI → HI → Prop) {pp_X8_isDrawn : HI → HI → Prop} {qq_X8_isDrawn : HI → HI → Int32 → HI → HI → Prop} (hh_X8_isDrawn : ∀ (I A : HI), pp_X8_isDrawn I A → Ct l yX8_isDrawn cX8_isDrawn 1 (some .boolean) 5 124 D ads shp [.inr (some 0)] I A (qJ (qq_X8_isDrawn I A)))
    (hv : ((pp_X8_isDrawn I A) ∧ (∀ (r2 : Int32) (I2 A2 : HI), qq_X8_isDrawn I A r2 I2 A2 → ((¬ r2 = 0 → ((a1 = 0 → po (some (.inl (I2 29 11))) I2 A2) ∧ (a1 = 1 → po (some (.inl (I2 29 12))) I2 A2) ∧ (a1 = 2 → po (some (.inl (I2 29 13))) I2 A2) ∧ (a1.toInt < 0 ∨ 2 < a1.toInt → po (some (.inl ((-1)))) I2 A2))) ∧ (r2 = 0 → po (some (.inl ((-1)))) I2 A2))))) : Ct l yX8_part cX8_part 2 (some .int) 6 144 D ads shp [.inr (some 0), .inl a1] I A po := by
  refine Ct_of (by decide) (Nat.le_of_ble_eq_true rfl) ?_
  intro p e s m args below meth c hC hr
  replace hC : CX p s m args meth c cX8_part 2 RX8 (AdS ads s.heap.size) := hC
  show Gm p l e s m args below meth c D ads 6 144 2 po I A 0 [some (.inr (some 0)), some (.inl a1)] []
  refine g_blk hC _ bX8_part_0_1 (pc' := 1) (ls' := [some (.inr (some 0)), some (.inl a1)]) (st' := [.inr (some 0)]) (I' := I) rfl rfl ?_
  obtain ⟨hp1, hv⟩ := hv
  refine g_callV hC (hh_X8_isDrawn I A  hp1) dX8_part_1 nm_X8_isDrawn rfl rfl wl_X8_133 wi_X8_isDrawn ws_X8_isDrawn wn_X8 wc_X8_isDrawn ⟨by decide, by decide⟩ (as := []) (rest := []) rfl (Nat.le_of_ble_eq_true rfl) ⟨Nat.le_refl _, Nat.le_refl _⟩ (k_qJ ?_)
  intro r2 I2 A2 hq2
  replace hv := hv r2 I2 A2 hq2
  obtain ⟨hv1, hv2⟩ := hv
  refine g_ifne hC dX8_part_4 (tgt := 9) (by decide) (fun hc => ?_) (fun hc => ?_)
  · have hv := hv1 hc
    clear hv1 hv2 hc
    refine g_blk hC _ bX8_part_9_10 (pc' := 10) (ls' := [some (.inr (some 0)), some (.inl a1)]) (st' := [.inl a1]) (I' := I2) rfl rfl ?_
    obtain ⟨hv_0, hv_1, hv_2, hvd⟩ := hv
    by_cases hc0 : a1 = 0
    · refine g_tabI hC dX8_part_10 (tgt := 36) (by rw [hc0]; decide) (by rw [hc0]; decide) (by rw [hc0]; rfl) (by decide) ?_
      have hv := hv_0 hc0
      refine g_blk hC _ bX8_part_36_40 (pc' := 40) (ls' := [some (.inr (some 0)), some (.inl a1)]) (st' := [.inr (some 29)]) (I' := I2) rfl rfl ?_
      refine g_callV hC (c_X6_crossCost l D ads I2 A2 ) dX8_part_40 nm_X6_crossCost rfl rfl wl_X8_139 wi_X6_crossCost ws_X6_crossCost wn_X6 wc_X6_crossCost ⟨by decide, by decide⟩ (as := []) (rest := []) rfl (Nat.le_of_ble_eq_true rfl) ⟨Nat.le_refl _, Nat.le_refl _⟩ (k_qI ?_)
      exact g_reti hC hr rfl dX8_part_43 hv
    by_cases hc1 : a1 = 1
    · refine g_tabI hC dX8_part_10 (tgt := 44) (by rw [hc1]; decide) (by rw [hc1]; decide) (by rw [hc1]; rfl) (by decide) ?_
      have hv := hv_1 hc1
      refine g_blk hC _ bX8_part_44_48 (pc' := 48) (ls' := [some (.inr (some 0)), some (.inl a1)]) (st' := [.inr (some 29)]) (I' := I2) rfl rfl ?_
      refine g_callV hC (c_X6_crossPairs l D ads I2 A2 ) dX8_part_48 nm_X6_crossPairs rfl rfl wl_X8_142 wi_X6_crossPairs ws_X6_crossPairs wn_X6 wc_X6_crossPairs ⟨by decide, by decide⟩ (as := []) (rest := []) rfl (Nat.le_of_ble_eq_true rfl) ⟨Nat.le_refl _, Nat.le_refl _⟩ (k_qI ?_)
      exact g_reti hC hr rfl dX8_part_51 hv
    by_cases hc2 : a1 = 2
    · refine g_tabI hC dX8_part_10 (tgt := 52) (by rw [hc2]; decide) (by rw [hc2]; decide) (by rw [hc2]; rfl) (by decide) ?_
      have hv := hv_2 hc2
      refine g_blk hC _ bX8_part_52_56 (pc' := 56) (ls' := [some (.inr (some 0)), some (.inl a1)]) (st' := [.inr (some 29)]) (I' := I2) rfl rfl ?_
      refine g_callV hC (c_X6_movedPairs l D ads I2 A2 ) dX8_part_56 nm_X6_movedPairs rfl rfl wl_X8_145 wi_X6_movedPairs ws_X6_movedPairs wn_X6 wc_X6_movedPairs ⟨by decide, by decide⟩ (as := []) (rest := []) rfl (Nat.le_of_ble_eq_true rfl) ⟨Nat.le_refl _, Nat.le_refl _⟩ (k_qI ?_)
      exact g_reti hC hr rfl dX8_part_59 hv
    have hn0 := lv_neT hc0 (k := 0) (a := 0) (by decide)
    have hn1 := lv_neT hc1 (k := 1) (a := 1) (by decide)
    have hn2 := lv_neT hc2 (k := 2) (a := 2) (by decide)
    have hcd : a1.toInt < 0 ∨ 2 < a1.toInt := by omega
    refine g_tabO hC dX8_part_10 (tgt := 60) hcd (by decide) ?_
    have hv := hvd hcd
    refine g_blk hC _ bX8_part_60_61 (pc' := 61) (ls' := [some (.inr (some 0)), some (.inl a1)]) (st' := [.inl ((-1))]) (I' := I2) rfl rfl ?_
    exact g_reti hC hr rfl dX8_part_61 hv
  · have hv := hv2 hc
    clear hv1 hv2 hc
    refine g_blk hC _ bX8_part_7_8 (pc' := 8) (ls' := [some (.inr (some 0)), some (.inl a1)]) (st' := [.inl ((-1))]) (I' := I2) rfl rfl ?_
    exact g_reti hC hr rfl dX8_part_8 hv
theorem bX8_items_0_2 : okB cX8_items RX8 0 [(5, 0, 0, 0, 0), (3, 1, 0, 0, 0)] := And.intro ⟨_, dX8_items_0, rfl⟩ (And.intro ⟨_, dX8_items_1, rfl⟩ trivial)
theorem bX8_items_19_20 : okB cX8_items RX8 19 [(0, 0, 0, 0, (-1))] := And.intro ⟨_, dX8_items_19, by decide⟩ trivial
theorem bX8_items_8_13 : okB cX8_items RX8 8 [(5, 0, 0, 0, 0), (23, 30, 8, 2, 0), (3, 1, 0, 0, 0)] := And.intro ⟨_, dX8_items_8, rfl⟩ (And.intro ⟨dX8_items_9, fl_X8_30⟩ (And.intro ⟨_, dX8_items_12, rfl⟩ trivial))
set_option maxHeartbeats 4000000 in
set_option maxRecDepth 100000 in
theorem k_X8_items (l : Launch) (D : va_G) (ads : AD) (I A : HI) (a1 : Int32) (po : Option AV → HI → HI → Prop) {pp_X8_isLayer : HI → HI → Int32 → Prop} {qq_X8_isLayer : HI → HI → Int32 → Int32 → HI → HI → Prop} (hh_X8_isLayer : ∀ (I A : HI) (a1 : Int32), pp_X8_isLayer I A a1 → Ct l yX8_isLayer cX8_isLayer 2 (some .boolean) 5 110 D ads shp [.inr (some 0), .inl a1] I A (qJ (qq_X8_isLayer I A a1)))
    (hv : ((pp_X8_isLayer I A a1) ∧ (∀ (r2 : Int32) (I2 A2 : HI), qq_X8_isLayer I A a1 r2 I2 A2 → ((r2 = 0 → po (some (.inl ((-1)))) I2 A2) ∧ (¬ r2 = 0 → ((vp_in a1 11) ∧ po (some (.inl (A2 25 a1.toNatClampNeg))) I2 A2)))))) : Ct l yX8_items cX8_items 2 (some .int) 6 131 D ads shp [.inr (some 0), .inl a1] I A po := by
  refine Ct_of (by decide) (Nat.le_of_ble_eq_true rfl) ?_
  intro p e s m args below meth c hC hr
  replace hC : CX p s m args meth c cX8_items 2 RX8 (AdS ads s.heap.size) := hC
  show Gm p l e s m args below meth c D ads 6 131 2 po I A 0 [some (.inr (some 0)), some (.inl a1)] []
  refine g_blk hC _ bX8_items_0_2 (pc' := 2) (ls' := [some (.inr (some 0)), some (.inl a1)]) (st' := [.inl a1, .inr (some 0)]) (I' := I) rfl rfl ?_
  obtain ⟨hp1, hv⟩ := hv
  refine g_callV hC (hh_X8_isLayer I A a1 hp1) dX8_items_2 nm_X8_isLayer rfl rfl wl_X8_148 wi_X8_isLayer ws_X8_isLayer wn_X8 wc_X8_isLayer ⟨by decide, by decide⟩ (as := [.inl a1]) (rest := []) rfl (Nat.le_of_ble_eq_true rfl) ⟨Nat.le_refl _, Nat.le_refl _⟩ (k_qJ ?_)
  intro r2 I2 A2 hq2
  replace hv := hv r2 I2 A2 hq2
  obtain ⟨hv1, hv2⟩ := hv
  refine g_ifeq hC dX8_items_5 (tgt := 19) (by decide) (fun hc => ?_) (fun hc => ?_)
  · have hv := hv1 hc
    clear hv1 hv2 hc
    refine g_blk hC _ bX8_items_19_20 (pc' := 20) (ls' := [some (.inr (some 0)), some (.inl a1)]) (st' := [.inl ((-1))]) (I' := I2) rfl rfl ?_
    exact g_reti hC hr rfl dX8_items_20 hv
  · have hv := hv2 hc
    clear hv1 hv2 hc
    refine g_blk hC _ bX8_items_8_13 (pc' := 13) (ls' := [some (.inr (some 0)), some (.inl a1)]) (st' := [.inl a1, .inr (some 13)]) (I' := I2) rfl rfl ?_
    obtain ⟨hp3, hv⟩ := hv
    refine g_callV hC (c_X7_countIn l D ads I2 A2 a1 hp3) dX8_items_13 nm_X7_countIn rfl rfl wl_X8_151 wi_X7_countIn ws_X7_countIn wn_X7 wc_X7_countIn ⟨by decide, by decide⟩ (as := [.inl a1]) (rest := []) rfl (Nat.le_of_ble_eq_true rfl) ⟨Nat.le_refl _, Nat.le_refl _⟩ (k_qI ?_)
    refine g_goto hC dX8_items_16 (tgt := 20) (by decide) ?_
    exact g_reti hC hr rfl dX8_items_20 hv
theorem bX8_item_0_2 : okB cX8_item RX8 0 [(5, 0, 0, 0, 0), (3, 1, 0, 0, 0)] := And.intro ⟨_, dX8_item_0, rfl⟩ (And.intro ⟨_, dX8_item_1, rfl⟩ trivial)
theorem bX8_item_15_16 : okB cX8_item RX8 15 [(0, 0, 0, 0, (-1))] := And.intro ⟨_, dX8_item_15, by decide⟩ trivial
theorem bX8_item_8_9 : okB cX8_item RX8 8 [(5, 0, 0, 0, 0)] := And.intro ⟨_, dX8_item_8, rfl⟩ trivial
theorem bX8_item_17_23 : okB cX8_item RX8 17 [(5, 0, 0, 0, 0), (23, 46, 8, 4, 0), (3, 1, 0, 0, 0), (3, 2, 0, 0, 0)] := And.intro ⟨_, dX8_item_17, rfl⟩ (And.intro ⟨dX8_item_18, fl_X8_46⟩ (And.intro ⟨_, dX8_item_21, rfl⟩ (And.intro ⟨_, dX8_item_22, rfl⟩ trivial)))
set_option maxHeartbeats 4000000 in
set_option maxRecDepth 100000 in
theorem k_X8_item (l : Launch) (D : va_G) (ads : AD) (I A : HI) (a1 : Int32) (a2 : Int32) (po : Option AV → HI → HI → Prop) {pp_X8_isLayer : HI → HI → Int32 → Prop} {qq_X8_isLayer : HI → HI → Int32 → Int32 → HI → HI → Prop} (hh_X8_isLayer : ∀ (I A : HI) (a1 : Int32), pp_X8_isLayer I A a1 → Ct l yX8_isLayer cX8_isLayer 2 (some .boolean) 5 110 D ads shp [.inr (some 0), .inl a1] I A (qJ (qq_X8_isLayer I A a1))) {pp_X8_isDrawn : HI → HI → Prop} {qq_X8_isDrawn : HI → HI → Int32 → HI → HI → Prop} (hh_X8_isDrawn : ∀ (I A : HI), pp_X8_isDrawn I A → Ct l yX8_isDrawn cX8_isDrawn 1 (some .boolean) 5 124 D ads shp [.inr (some 0)] I A (qJ (qq_X8_isDrawn I A))) {pp_X6_shownAt : HI → HI → Int32 → Int32 → Prop} {ff_X6_shownAt : HI → HI → Int32 → Int32 → Int32} (hh_X6_shownAt : ∀ (I A : HI) (a1 : Int32) (a2 : Int32), pp_X6_shownAt I A a1 a2 → Ct l yX6_shownAt cX6_shownAt 3 (some .int) 2 42 D ads shp [.inr (some 29), .inl a1, .inl a2] I A (qI (ff_X6_shownAt I A a1 a2) I A))
    (hv : ((pp_X8_isLayer I A a1) ∧ (∀ (r2 : Int32) (I2 A2 : HI), qq_X8_isLayer I A a1 r2 I2 A2 → ((r2 = 0 → po (some (.inl ((-1)))) I2 A2) ∧ (¬ r2 = 0 → ((pp_X8_isDrawn I2 A2) ∧ (∀ (r4 : Int32) (I4 A4 : HI), qq_X8_isDrawn I2 A2 r4 I4 A4 → ((¬ r4 = 0 → ((pp_X6_shownAt I4 A4 a1 a2) ∧ po (some (.inl (ff_X6_shownAt I4 A4 a1 a2))) I4 A4)) ∧ (r4 = 0 → po (some (.inl ((-1)))) I4 A4))))))))) : Ct l yX8_item cX8_item 3 (some .int) 6 144 D ads shp [.inr (some 0), .inl a1, .inl a2] I A po := by
  refine Ct_of (by decide) (Nat.le_of_ble_eq_true rfl) ?_
  intro p e s m args below meth c hC hr
  replace hC : CX p s m args meth c cX8_item 3 RX8 (AdS ads s.heap.size) := hC
  show Gm p l e s m args below meth c D ads 6 144 3 po I A 0 [some (.inr (some 0)), some (.inl a1), some (.inl a2)] []
  refine g_blk hC _ bX8_item_0_2 (pc' := 2) (ls' := [some (.inr (some 0)), some (.inl a1), some (.inl a2)]) (st' := [.inl a1, .inr (some 0)]) (I' := I) rfl rfl ?_
  obtain ⟨hp1, hv⟩ := hv
  refine g_callV hC (hh_X8_isLayer I A a1 hp1) dX8_item_2 nm_X8_isLayer rfl rfl wl_X8_148 wi_X8_isLayer ws_X8_isLayer wn_X8 wc_X8_isLayer ⟨by decide, by decide⟩ (as := [.inl a1]) (rest := []) rfl (Nat.le_of_ble_eq_true rfl) ⟨Nat.le_refl _, Nat.le_refl _⟩ (k_qJ ?_)
  intro r2 I2 A2 hq2
  replace hv := hv r2 I2 A2 hq2
  obtain ⟨hv1, hv2⟩ := hv
  refine g_ifeq hC dX8_item_5 (tgt := 15) (by decide) (fun hc => ?_) (fun hc => ?_)
  · have hv := hv1 hc
    clear hv1 hv2 hc
    refine g_blk hC _ bX8_item_15_16 (pc' := 16) (ls' := [some (.inr (some 0)), some (.inl a1), some (.inl a2)]) (st' := [.inl ((-1))]) (I' := I2) rfl rfl ?_
    exact g_reti hC hr rfl dX8_item_16 hv
  · have hv := hv2 hc
    clear hv1 hv2 hc
    refine g_blk hC _ bX8_item_8_9 (pc' := 9) (ls' := [some (.inr (some 0)), some (.inl a1), some (.inl a2)]) (st' := [.inr (some 0)]) (I' := I2) rfl rfl ?_
    obtain ⟨hp3, hv⟩ := hv
    refine g_callV hC (hh_X8_isDrawn I2 A2  hp3) dX8_item_9 nm_X8_isDrawn rfl rfl wl_X8_133 wi_X8_isDrawn ws_X8_isDrawn wn_X8 wc_X8_isDrawn ⟨by decide, by decide⟩ (as := []) (rest := []) rfl (Nat.le_of_ble_eq_true rfl) ⟨Nat.le_refl _, Nat.le_refl _⟩ (k_qJ ?_)
    intro r4 I4 A4 hq4
    replace hv := hv r4 I4 A4 hq4
    obtain ⟨hv1, hv2⟩ := hv
    refine g_ifne hC dX8_item_12 (tgt := 17) (by decide) (fun hc => ?_) (fun hc => ?_)
    · have hv := hv1 hc
      clear hv1 hv2 hc
      refine g_blk hC _ bX8_item_17_23 (pc' := 23) (ls' := [some (.inr (some 0)), some (.inl a1), some (.inl a2)]) (st' := [.inl a2, .inl a1, .inr (some 29)]) (I' := I4) rfl rfl ?_
      obtain ⟨hp5, hv⟩ := hv
      refine g_callV hC (hh_X6_shownAt I4 A4 a1 a2 hp5) dX8_item_23 nm_X6_shownAt rfl rfl wl_X8_154 wi_X6_shownAt ws_X6_shownAt wn_X6 wc_X6_shownAt ⟨by decide, by decide⟩ (as := [.inl a1, .inl a2]) (rest := []) rfl (Nat.le_of_ble_eq_true rfl) ⟨Nat.le_refl _, Nat.le_refl _⟩ (k_qI ?_)
      exact g_reti hC hr rfl dX8_item_26 hv
    · have hv := hv2 hc
      clear hv1 hv2 hc
      refine g_blk hC _ bX8_item_15_16 (pc' := 16) (ls' := [some (.inr (some 0)), some (.inl a1), some (.inl a2)]) (st' := [.inl ((-1))]) (I' := I4) rfl rfl ?_
      exact g_reti hC hr rfl dX8_item_16 hv
theorem bX8_place_0_1 : okB cX8_place RX8 0 [(3, 1, 0, 0, 0)] := And.intro ⟨_, dX8_place_0, rfl⟩ trivial
theorem bX8_place_23_24 : okB cX8_place RX8 23 [(0, 0, 0, 0, (-1))] := And.intro ⟨_, dX8_place_23, by decide⟩ trivial
theorem bX8_place_7_8 : okB cX8_place RX8 7 [(3, 2, 0, 0, 0)] := And.intro ⟨_, dX8_place_7, rfl⟩ trivial
theorem bX8_place_11_13 : okB cX8_place RX8 11 [(3, 2, 0, 0, 0), (0, 0, 0, 0, 1)] := And.intro ⟨_, dX8_place_11, rfl⟩ (And.intro ⟨_, dX8_place_12, by decide⟩ trivial)
theorem bX8_place_16_17 : okB cX8_place RX8 16 [(5, 0, 0, 0, 0)] := And.intro ⟨_, dX8_place_16, rfl⟩ trivial
theorem bX8_place_25_30 : okB cX8_place RX8 25 [(5, 0, 0, 0, 0), (23, 21, 8, 1, 0), (3, 1, 0, 0, 0)] := And.intro ⟨_, dX8_place_25, rfl⟩ (And.intro ⟨dX8_place_26, fl_X8_21⟩ (And.intro ⟨_, dX8_place_29, rfl⟩ trivial))
theorem bX8_place_33_36 : okB cX8_place RX8 33 [(7, 3, 0, 0, 0), (3, 3, 0, 0, 0), (0, 0, 0, 0, (-1))] := And.intro ⟨_, dX8_place_33, rfl⟩ (And.intro ⟨_, dX8_place_34, rfl⟩ (And.intro ⟨_, dX8_place_35, by decide⟩ trivial))
theorem bX8_place_41_51 : okB cX8_place RX8 41 [(5, 0, 0, 0, 0), (23, 55, 8, 5, 0), (3, 3, 0, 0, 0), (3, 1, 0, 0, 0), (5, 0, 0, 0, 0), (23, 59, 8, 6, 0)] := And.intro ⟨_, dX8_place_41, rfl⟩ (And.intro ⟨dX8_place_42, fl_X8_55⟩ (And.intro ⟨_, dX8_place_45, rfl⟩ (And.intro ⟨_, dX8_place_46, rfl⟩ (And.intro ⟨_, dX8_place_47, rfl⟩ (And.intro ⟨dX8_place_48, fl_X8_59⟩ trivial)))))
theorem bX8_place_54_57 : okB cX8_place RX8 54 [(8, 4, 0, 0, 0), (3, 2, 0, 0, 0)] := And.intro dX8_place_54 (And.intro ⟨_, dX8_place_56, rfl⟩ trivial)
theorem bX8_place_65_72 : okB cX8_place RX8 65 [(4, 4, 0, 0, 0), (5, 0, 0, 0, 0), (23, 55, 8, 5, 0), (3, 1, 0, 0, 0)] := And.intro dX8_place_65 (And.intro ⟨_, dX8_place_67, rfl⟩ (And.intro ⟨dX8_place_68, fl_X8_55⟩ (And.intro ⟨_, dX8_place_71, rfl⟩ trivial)))
theorem bX8_place_75_76 : okB cX8_place RX8 75 [(12, 0, 0, 0, 0)] := And.intro dX8_place_75 trivial
theorem bX8_place_60_62 : okB cX8_place RX8 60 [(4, 4, 0, 0, 0)] := And.intro dX8_place_60 trivial
theorem bX8_place_39_40 : okB cX8_place RX8 39 [(0, 0, 0, 0, (-1))] := And.intro ⟨_, dX8_place_39, by decide⟩ trivial
set_option maxHeartbeats 4000000 in
set_option maxRecDepth 100000 in
theorem k_X8_place (l : Launch) (D : va_G) (ads : AD) (I A : HI) (a1 : Int32) (a2 : Int32) (po : Option AV → HI → HI → Prop) {pp_X8_isDrawn : HI → HI → Prop} {qq_X8_isDrawn : HI → HI → Int32 → HI → HI → Prop} (hh_X8_isDrawn : ∀ (I A : HI), pp_X8_isDrawn I A → Ct l yX8_isDrawn cX8_isDrawn 1 (some .boolean) 5 124 D ads shp [.inr (some 0)] I A (qJ (qq_X8_isDrawn I A))) {pp_X1_topOf : HI → HI → Int32 → Int32 → Int32 → Prop} {ff_X1_topOf : HI → HI → Int32 → Int32 → Int32 → Int32} (hh_X1_topOf : ∀ (I A : HI) (a1 : Int32) (a2 : Int32) (a3 : Int32), pp_X1_topOf I A a1 a2 a3 → Ct l yX1_topOf cX1_topOf 7 (some .int) 4 87 D ads shp [.inr (some 95), .inl a1, .inl a2, .inl a3] I A (qI (ff_X1_topOf I A a1 a2 a3) I A)) {pp_X1_sizeOf : HI → HI → Int32 → Prop} {ff_X1_sizeOf : HI → HI → Int32 → Int32} (hh_X1_sizeOf : ∀ (I A : HI) (a1 : Int32), pp_X1_sizeOf I A a1 → Ct l yX1_sizeOf cX1_sizeOf 5 (some .int) 2 43 D ads shp [.inr (some 95), .inl a1] I A (qI (ff_X1_sizeOf I A a1) I A))
    (hv : (((zP a1) = 0 → po (some (.inl ((-1)))) I A) ∧ (¬ (zP a1) = 0 → ((a2 < 0 → po (some (.inl ((-1)))) I A) ∧ (¬ a2 < 0 → ((1 < a2 → po (some (.inl ((-1)))) I A) ∧ (¬ 1 < a2 → ((pp_X8_isDrawn I A) ∧ (∀ (r3 : Int32) (I3 A3 : HI), qq_X8_isDrawn I A r3 I3 A3 → ((¬ r3 = 0 → ((vp_in a1 10) ∧ ((¬ (A3 11 a1.toNatClampNeg) = ((-1)) → ((pp_X1_topOf I3 A3 (A3 11 a1.toNatClampNeg) a1 (I3 0 6)) ∧ ((¬ a2 = 0 → ((pp_X1_sizeOf I3 A3 a1) ∧ po (some (.inl ((ff_X1_topOf I3 A3 (A3 11 a1.toNatClampNeg) a1 (I3 0 6)) + (ff_X1_sizeOf I3 A3 a1)))) I3 A3)) ∧ (a2 = 0 → po (some (.inl (ff_X1_topOf I3 A3 (A3 11 a1.toNatClampNeg) a1 (I3 0 6)))) I3 A3)))) ∧ ((A3 11 a1.toNatClampNeg) = ((-1)) → po (some (.inl ((-1)))) I3 A3)))) ∧ (r3 = 0 → po (some (.inl ((-1)))) I3 A3))))))))))) : Ct l yX8_place cX8_place 5 (some .int) 6 144 D ads shp [.inr (some 0), .inl a1, .inl a2] I A po := by
  refine Ct_of (by decide) (Nat.le_of_ble_eq_true rfl) ?_
  intro p e s m args below meth c hC hr
  replace hC : CX p s m args meth c cX8_place 5 RX8 (AdS ads s.heap.size) := hC
  show Gm p l e s m args below meth c D ads 6 144 5 po I A 0 [some (.inr (some 0)), some (.inl a1), some (.inl a2), none, none] []
  refine g_blk hC _ bX8_place_0_1 (pc' := 1) (ls' := [some (.inr (some 0)), some (.inl a1), some (.inl a2), none, none]) (st' := [.inl a1]) (I' := I) rfl rfl ?_
  refine g_callS hC (c_X8_isPlace l D ads I A a1) dX8_place_1 nm_X8_isPlace wl_X8_120 wt_X8_isPlace wn_X8 wc_X8_isPlace ⟨by decide, by decide⟩ (as := [.inl a1]) (rest := []) rfl (Nat.le_of_ble_eq_true rfl) ⟨Nat.le_refl _, Nat.le_refl _⟩ (k_qI ?_)
  obtain ⟨hv1, hv2⟩ := hv
  refine g_ifeq hC dX8_place_4 (tgt := 23) (by decide) (fun hc => ?_) (fun hc => ?_)
  · have hv := hv1 hc
    clear hv1 hv2 hc
    refine g_blk hC _ bX8_place_23_24 (pc' := 24) (ls' := [some (.inr (some 0)), some (.inl a1), some (.inl a2), none, none]) (st' := [.inl ((-1))]) (I' := I) rfl rfl ?_
    exact g_reti hC hr rfl dX8_place_24 hv
  · have hv := hv2 hc
    clear hv1 hv2 hc
    refine g_blk hC _ bX8_place_7_8 (pc' := 8) (ls' := [some (.inr (some 0)), some (.inl a1), some (.inl a2), none, none]) (st' := [.inl a2]) (I' := I) rfl rfl ?_
    obtain ⟨hv1, hv2⟩ := hv
    refine g_iflt hC dX8_place_8 (tgt := 23) (by decide) (fun hc => ?_) (fun hc => ?_)
    · have hv := hv1 hc
      clear hv1 hv2 hc
      refine g_blk hC _ bX8_place_23_24 (pc' := 24) (ls' := [some (.inr (some 0)), some (.inl a1), some (.inl a2), none, none]) (st' := [.inl ((-1))]) (I' := I) rfl rfl ?_
      exact g_reti hC hr rfl dX8_place_24 hv
    · have hv := hv2 hc
      clear hv1 hv2 hc
      refine g_blk hC _ bX8_place_11_13 (pc' := 13) (ls' := [some (.inr (some 0)), some (.inl a1), some (.inl a2), none, none]) (st' := [.inl 1, .inl a2]) (I' := I) rfl rfl ?_
      obtain ⟨hv1, hv2⟩ := hv
      refine g_cgt hC dX8_place_13 (tgt := 23) (by decide) (fun hc => ?_) (fun hc => ?_)
      · have hv := hv1 hc
        clear hv1 hv2 hc
        refine g_blk hC _ bX8_place_23_24 (pc' := 24) (ls' := [some (.inr (some 0)), some (.inl a1), some (.inl a2), none, none]) (st' := [.inl ((-1))]) (I' := I) rfl rfl ?_
        exact g_reti hC hr rfl dX8_place_24 hv
      · have hv := hv2 hc
        clear hv1 hv2 hc
        refine g_blk hC _ bX8_place_16_17 (pc' := 17) (ls' := [some (.inr (some 0)), some (.inl a1), some (.inl a2), none, none]) (st' := [.inr (some 0)]) (I' := I) rfl rfl ?_
        obtain ⟨hp2, hv⟩ := hv
        refine g_callV hC (hh_X8_isDrawn I A  hp2) dX8_place_17 nm_X8_isDrawn rfl rfl wl_X8_133 wi_X8_isDrawn ws_X8_isDrawn wn_X8 wc_X8_isDrawn ⟨by decide, by decide⟩ (as := []) (rest := []) rfl (Nat.le_of_ble_eq_true rfl) ⟨Nat.le_refl _, Nat.le_refl _⟩ (k_qJ ?_)
        intro r3 I3 A3 hq3
        replace hv := hv r3 I3 A3 hq3
        obtain ⟨hv1, hv2⟩ := hv
        refine g_ifne hC dX8_place_20 (tgt := 25) (by decide) (fun hc => ?_) (fun hc => ?_)
        · have hv := hv1 hc
          clear hv1 hv2 hc
          refine g_blk hC _ bX8_place_25_30 (pc' := 30) (ls' := [some (.inr (some 0)), some (.inl a1), some (.inl a2), none, none]) (st' := [.inl a1, .inr (some 3)]) (I' := I3) rfl rfl ?_
          obtain ⟨hp4, hv⟩ := hv
          refine g_callV hC (c_X5_layerOf l D ads I3 A3 a1 hp4) dX8_place_30 nm_X5_layerOf rfl rfl wl_X8_124 wi_X5_layerOf ws_X5_layerOf wn_X5 wc_X5_layerOf ⟨by decide, by decide⟩ (as := [.inl a1]) (rest := []) rfl (Nat.le_of_ble_eq_true rfl) ⟨Nat.le_refl _, Nat.le_refl _⟩ (k_qI ?_)
          refine g_blk hC _ bX8_place_33_36 (pc' := 36) (ls' := [some (.inr (some 0)), some (.inl a1), some (.inl a2), some (.inl (A3 11 a1.toNatClampNeg)), none]) (st' := [.inl ((-1)), .inl (A3 11 a1.toNatClampNeg)]) (I' := I3) rfl rfl ?_
          obtain ⟨hv1, hv2⟩ := hv
          refine g_cne hC dX8_place_36 (tgt := 41) (by decide) (fun hc => ?_) (fun hc => ?_)
          · have hv := hv1 hc
            clear hv1 hv2 hc
            refine g_blk hC _ bX8_place_41_51 (pc' := 51) (ls' := [some (.inr (some 0)), some (.inl a1), some (.inl a2), some (.inl (A3 11 a1.toNatClampNeg)), none]) (st' := [.inl (I3 0 6), .inl a1, .inl (A3 11 a1.toNatClampNeg), .inr (some 95)]) (I' := I3) rfl rfl ?_
            obtain ⟨hp5, hv⟩ := hv
            refine g_callV hC (hh_X1_topOf I3 A3 (A3 11 a1.toNatClampNeg) a1 (I3 0 6) hp5) dX8_place_51 nm_X1_topOf rfl rfl wl_X8_157 wi_X1_topOf ws_X1_topOf wn_X1 wc_X1_topOf ⟨by decide, by decide⟩ (as := [.inl (A3 11 a1.toNatClampNeg), .inl a1, .inl (I3 0 6)]) (rest := []) rfl (Nat.le_of_ble_eq_true rfl) ⟨Nat.le_refl _, Nat.le_refl _⟩ (k_qI ?_)
            refine g_blk hC _ bX8_place_54_57 (pc' := 57) (ls' := [some (.inr (some 0)), some (.inl a1), some (.inl a2), some (.inl (A3 11 a1.toNatClampNeg)), some (.inl (ff_X1_topOf I3 A3 (A3 11 a1.toNatClampNeg) a1 (I3 0 6)))]) (st' := [.inl a2]) (I' := I3) rfl rfl ?_
            obtain ⟨hv1, hv2⟩ := hv
            refine g_ifne hC dX8_place_57 (tgt := 65) (by decide) (fun hc => ?_) (fun hc => ?_)
            · have hv := hv1 hc
              clear hv1 hv2 hc
              refine g_blk hC _ bX8_place_65_72 (pc' := 72) (ls' := [some (.inr (some 0)), some (.inl a1), some (.inl a2), some (.inl (A3 11 a1.toNatClampNeg)), some (.inl (ff_X1_topOf I3 A3 (A3 11 a1.toNatClampNeg) a1 (I3 0 6)))]) (st' := [.inl a1, .inr (some 95), .inl (ff_X1_topOf I3 A3 (A3 11 a1.toNatClampNeg) a1 (I3 0 6))]) (I' := I3) rfl rfl ?_
              obtain ⟨hp6, hv⟩ := hv
              refine g_callV hC (hh_X1_sizeOf I3 A3 a1 hp6) dX8_place_72 nm_X1_sizeOf rfl rfl wl_X8_161 wi_X1_sizeOf ws_X1_sizeOf wn_X1 wc_X1_sizeOf ⟨by decide, by decide⟩ (as := [.inl a1]) (rest := [.inl (ff_X1_topOf I3 A3 (A3 11 a1.toNatClampNeg) a1 (I3 0 6))]) rfl (Nat.le_of_ble_eq_true rfl) ⟨Nat.le_refl _, Nat.le_refl _⟩ (k_qI ?_)
              refine g_blk hC _ bX8_place_75_76 (pc' := 76) (ls' := [some (.inr (some 0)), some (.inl a1), some (.inl a2), some (.inl (A3 11 a1.toNatClampNeg)), some (.inl (ff_X1_topOf I3 A3 (A3 11 a1.toNatClampNeg) a1 (I3 0 6)))]) (st' := [.inl ((ff_X1_topOf I3 A3 (A3 11 a1.toNatClampNeg) a1 (I3 0 6)) + (ff_X1_sizeOf I3 A3 a1))]) (I' := I3) rfl rfl ?_
              exact g_reti hC hr rfl dX8_place_76 hv
            · have hv := hv2 hc
              clear hv1 hv2 hc
              refine g_blk hC _ bX8_place_60_62 (pc' := 62) (ls' := [some (.inr (some 0)), some (.inl a1), some (.inl a2), some (.inl (A3 11 a1.toNatClampNeg)), some (.inl (ff_X1_topOf I3 A3 (A3 11 a1.toNatClampNeg) a1 (I3 0 6)))]) (st' := [.inl (ff_X1_topOf I3 A3 (A3 11 a1.toNatClampNeg) a1 (I3 0 6))]) (I' := I3) rfl rfl ?_
              refine g_goto hC dX8_place_62 (tgt := 76) (by decide) ?_
              exact g_reti hC hr rfl dX8_place_76 hv
          · have hv := hv2 hc
            clear hv1 hv2 hc
            refine g_blk hC _ bX8_place_39_40 (pc' := 40) (ls' := [some (.inr (some 0)), some (.inl a1), some (.inl a2), some (.inl (A3 11 a1.toNatClampNeg)), none]) (st' := [.inl ((-1))]) (I' := I3) rfl rfl ?_
            exact g_reti hC hr rfl dX8_place_40 hv
        · have hv := hv2 hc
          clear hv1 hv2 hc
          refine g_blk hC _ bX8_place_23_24 (pc' := 24) (ls' := [some (.inr (some 0)), some (.inl a1), some (.inl a2), none, none]) (st' := [.inl ((-1))]) (I' := I3) rfl rfl ?_
          exact g_reti hC hr rfl dX8_place_24 hv
theorem bX8_point_0_6 : okB cX8_point RX8 0 [(5, 0, 0, 0, 0), (23, 12, 8, 0, 0), (3, 1, 0, 0, 0), (3, 2, 0, 0, 0)] := And.intro ⟨_, dX8_point_0, rfl⟩ (And.intro ⟨dX8_point_1, fl_X8_12⟩ (And.intro ⟨_, dX8_point_4, rfl⟩ (And.intro ⟨_, dX8_point_5, rfl⟩ trivial)))
theorem bX8_point_31_32 : okB cX8_point RX8 31 [(0, 0, 0, 0, (-1))] := And.intro ⟨_, dX8_point_31, by decide⟩ trivial
theorem bX8_point_12_13 : okB cX8_point RX8 12 [(5, 0, 0, 0, 0)] := And.intro ⟨_, dX8_point_12, rfl⟩ trivial
theorem bX8_point_19_25 : okB cX8_point RX8 19 [(5, 0, 0, 0, 0), (23, 21, 8, 1, 0), (3, 1, 0, 0, 0), (3, 2, 0, 0, 0)] := And.intro ⟨_, dX8_point_19, rfl⟩ (And.intro ⟨dX8_point_20, fl_X8_21⟩ (And.intro ⟨_, dX8_point_23, rfl⟩ (And.intro ⟨_, dX8_point_24, rfl⟩ trivial)))
theorem bX8_point_33_39 : okB cX8_point RX8 33 [(3, 3, 0, 0, 0), (5, 0, 0, 0, 0), (23, 21, 8, 1, 0), (3, 1, 0, 0, 0)] := And.intro ⟨_, dX8_point_33, rfl⟩ (And.intro ⟨_, dX8_point_34, rfl⟩ (And.intro ⟨dX8_point_35, fl_X8_21⟩ (And.intro ⟨_, dX8_point_38, rfl⟩ trivial)))
theorem bX8_point_57_58 : okB cX8_point RX8 57 [(0, 0, 0, 0, (-1))] := And.intro ⟨_, dX8_point_57, by decide⟩ trivial
theorem bX8_point_45_51 : okB cX8_point RX8 45 [(3, 3, 0, 0, 0), (5, 0, 0, 0, 0), (23, 21, 8, 1, 0), (3, 2, 0, 0, 0)] := And.intro ⟨_, dX8_point_45, rfl⟩ (And.intro ⟨_, dX8_point_46, rfl⟩ (And.intro ⟨dX8_point_47, fl_X8_21⟩ (And.intro ⟨_, dX8_point_50, rfl⟩ trivial)))
theorem bX8_point_59_61 : okB cX8_point RX8 59 [(4, 4, 0, 0, 0)] := And.intro dX8_point_59 trivial
theorem bX8_point_79_82 : okB cX8_point RX8 79 [(4, 4, 0, 0, 0), (0, 0, 0, 0, 1)] := And.intro dX8_point_79 (And.intro ⟨_, dX8_point_81, by decide⟩ trivial)
theorem bX8_point_102_103 : okB cX8_point RX8 102 [(0, 0, 0, 0, (-1))] := And.intro ⟨_, dX8_point_102, by decide⟩ trivial
theorem bX8_point_85_96 : okB cX8_point RX8 85 [(5, 0, 0, 0, 0), (23, 55, 8, 5, 0), (3, 1, 0, 0, 0), (3, 2, 0, 0, 0), (3, 3, 0, 0, 0), (5, 0, 0, 0, 0), (23, 59, 8, 6, 0)] := And.intro ⟨_, dX8_point_85, rfl⟩ (And.intro ⟨dX8_point_86, fl_X8_55⟩ (And.intro ⟨_, dX8_point_89, rfl⟩ (And.intro ⟨_, dX8_point_90, rfl⟩ (And.intro ⟨_, dX8_point_91, rfl⟩ (And.intro ⟨_, dX8_point_92, rfl⟩ (And.intro ⟨dX8_point_93, fl_X8_59⟩ trivial))))))
theorem bX8_point_64_75 : okB cX8_point RX8 64 [(5, 0, 0, 0, 0), (23, 55, 8, 5, 0), (3, 1, 0, 0, 0), (3, 2, 0, 0, 0), (3, 3, 0, 0, 0), (5, 0, 0, 0, 0), (23, 59, 8, 6, 0)] := And.intro ⟨_, dX8_point_64, rfl⟩ (And.intro ⟨dX8_point_65, fl_X8_55⟩ (And.intro ⟨_, dX8_point_68, rfl⟩ (And.intro ⟨_, dX8_point_69, rfl⟩ (And.intro ⟨_, dX8_point_70, rfl⟩ (And.intro ⟨_, dX8_point_71, rfl⟩ (And.intro ⟨dX8_point_72, fl_X8_59⟩ trivial))))))
set_option maxHeartbeats 4000000 in
set_option maxRecDepth 100000 in
theorem k_X8_point (l : Launch) (D : va_G) (ads : AD) (I A : HI) (a1 : Int32) (a2 : Int32) (a3 : Int32) (a4 : Int32) (po : Option AV → HI → HI → Prop) {pp_X8_isDrawn : HI → HI → Prop} {qq_X8_isDrawn : HI → HI → Int32 → HI → HI → Prop} (hh_X8_isDrawn : ∀ (I A : HI), pp_X8_isDrawn I A → Ct l yX8_isDrawn cX8_isDrawn 1 (some .boolean) 5 124 D ads shp [.inr (some 0)] I A (qJ (qq_X8_isDrawn I A))) {pp_X1_beginOf : HI → HI → Int32 → Int32 → Int32 → Int32 → Prop} {ff_X1_beginOf : HI → HI → Int32 → Int32 → Int32 → Int32 → Int32} (hh_X1_beginOf : ∀ (I A : HI) (a1 : Int32) (a2 : Int32) (a3 : Int32) (a4 : Int32), pp_X1_beginOf I A a1 a2 a3 a4 → Ct l yX1_beginOf cX1_beginOf 9 (some .int) 5 113 D ads shp [.inr (some 95), .inl a1, .inl a2, .inl a3, .inl a4] I A (qI (ff_X1_beginOf I A a1 a2 a3 a4) I A)) {pp_X1_endOf : HI → HI → Int32 → Int32 → Int32 → Int32 → Prop} {ff_X1_endOf : HI → HI → Int32 → Int32 → Int32 → Int32 → Int32} (hh_X1_endOf : ∀ (I A : HI) (a1 : Int32) (a2 : Int32) (a3 : Int32) (a4 : Int32), pp_X1_endOf I A a1 a2 a3 a4 → Ct l yX1_endOf cX1_endOf 9 (some .int) 5 113 D ads shp [.inr (some 95), .inl a1, .inl a2, .inl a3, .inl a4] I A (qI (ff_X1_endOf I A a1 a2 a3 a4) I A))
    (hv : (((btw A a1 a2) = 0 → po (some (.inl ((-1)))) I A) ∧ (¬ (btw A a1 a2) = 0 → ((pp_X8_isDrawn I A) ∧ (∀ (r3 : Int32) (I3 A3 : HI), qq_X8_isDrawn I A r3 I3 A3 → ((r3 = 0 → po (some (.inl ((-1)))) I3 A3) ∧ (¬ r3 = 0 → ((vp_in a1 10 ∧ vp_in a2 10) ∧ (((trnI (A3 10) a1 a2) = 0 → ((vp_in a1 10) ∧ ((a3 < (A3 11 a1.toNatClampNeg) → po (some (.inl ((-1)))) I3 A3) ∧ (¬ a3 < (A3 11 a1.toNatClampNeg) → ((vp_in a2 10) ∧ ((a3 ≤ (A3 11 a2.toNatClampNeg) → ((¬ a4 = 0 → ((¬ a4 = 1 → po (some (.inl ((-1)))) I3 A3) ∧ (a4 = 1 → ((pp_X1_beginOf I3 A3 a1 a2 a3 (I3 0 6)) ∧ po (some (.inl (ff_X1_beginOf I3 A3 a1 a2 a3 (I3 0 6)))) I3 A3)))) ∧ (a4 = 0 → ((pp_X1_endOf I3 A3 a1 a2 a3 (I3 0 6)) ∧ po (some (.inl (ff_X1_endOf I3 A3 a1 a2 a3 (I3 0 6)))) I3 A3)))) ∧ (¬ a3 ≤ (A3 11 a2.toNatClampNeg) → po (some (.inl ((-1)))) I3 A3))))))) ∧ (¬ (trnI (A3 10) a1 a2) = 0 → po (some (.inl ((-1)))) I3 A3)))))))))) : Ct l yX8_point cX8_point 5 (some .int) 6 144 D ads shp [.inr (some 0), .inl a1, .inl a2, .inl a3, .inl a4] I A po := by
  refine Ct_of (by decide) (Nat.le_of_ble_eq_true rfl) ?_
  intro p e s m args below meth c hC hr
  replace hC : CX p s m args meth c cX8_point 5 RX8 (AdS ads s.heap.size) := hC
  show Gm p l e s m args below meth c D ads 6 144 5 po I A 0 [some (.inr (some 0)), some (.inl a1), some (.inl a2), some (.inl a3), some (.inl a4)] []
  refine g_blk hC _ bX8_point_0_6 (pc' := 6) (ls' := [some (.inr (some 0)), some (.inl a1), some (.inl a2), some (.inl a3), some (.inl a4)]) (st' := [.inl a2, .inl a1, .inr (some 1)]) (I' := I) rfl rfl ?_
  refine g_callV hC (c_X2_between l D ads I A a1 a2) dX8_point_6 nm_X2_between rfl rfl wl_X8_77 wi_X2_between ws_X2_between wn_X2 wc_X2_between ⟨by decide, by decide⟩ (as := [.inl a1, .inl a2]) (rest := []) rfl (Nat.le_of_ble_eq_true rfl) ⟨Nat.le_refl _, Nat.le_refl _⟩ (k_qI ?_)
  obtain ⟨hv1, hv2⟩ := hv
  refine g_ifeq hC dX8_point_9 (tgt := 31) (by decide) (fun hc => ?_) (fun hc => ?_)
  · have hv := hv1 hc
    clear hv1 hv2 hc
    refine g_blk hC _ bX8_point_31_32 (pc' := 32) (ls' := [some (.inr (some 0)), some (.inl a1), some (.inl a2), some (.inl a3), some (.inl a4)]) (st' := [.inl ((-1))]) (I' := I) rfl rfl ?_
    exact g_reti hC hr rfl dX8_point_32 hv
  · have hv := hv2 hc
    clear hv1 hv2 hc
    refine g_blk hC _ bX8_point_12_13 (pc' := 13) (ls' := [some (.inr (some 0)), some (.inl a1), some (.inl a2), some (.inl a3), some (.inl a4)]) (st' := [.inr (some 0)]) (I' := I) rfl rfl ?_
    obtain ⟨hp2, hv⟩ := hv
    refine g_callV hC (hh_X8_isDrawn I A  hp2) dX8_point_13 nm_X8_isDrawn rfl rfl wl_X8_133 wi_X8_isDrawn ws_X8_isDrawn wn_X8 wc_X8_isDrawn ⟨by decide, by decide⟩ (as := []) (rest := []) rfl (Nat.le_of_ble_eq_true rfl) ⟨Nat.le_refl _, Nat.le_refl _⟩ (k_qJ ?_)
    intro r3 I3 A3 hq3
    replace hv := hv r3 I3 A3 hq3
    obtain ⟨hv1, hv2⟩ := hv
    refine g_ifeq hC dX8_point_16 (tgt := 31) (by decide) (fun hc => ?_) (fun hc => ?_)
    · have hv := hv1 hc
      clear hv1 hv2 hc
      refine g_blk hC _ bX8_point_31_32 (pc' := 32) (ls' := [some (.inr (some 0)), some (.inl a1), some (.inl a2), some (.inl a3), some (.inl a4)]) (st' := [.inl ((-1))]) (I' := I3) rfl rfl ?_
      exact g_reti hC hr rfl dX8_point_32 hv
    · have hv := hv2 hc
      clear hv1 hv2 hc
      refine g_blk hC _ bX8_point_19_25 (pc' := 25) (ls' := [some (.inr (some 0)), some (.inl a1), some (.inl a2), some (.inl a3), some (.inl a4)]) (st' := [.inl a2, .inl a1, .inr (some 3)]) (I' := I3) rfl rfl ?_
      obtain ⟨hp4, hv⟩ := hv
      refine g_callV hC (c_X5_turns l D ads I3 A3 a1 a2 hp4) dX8_point_25 nm_X5_turns rfl rfl wl_X8_112 wi_X5_turns ws_X5_turns wn_X5 wc_X5_turns ⟨by decide, by decide⟩ (as := [.inl a1, .inl a2]) (rest := []) rfl (Nat.le_of_ble_eq_true rfl) ⟨Nat.le_refl _, Nat.le_refl _⟩ (k_qI ?_)
      obtain ⟨hv1, hv2⟩ := hv
      refine g_ifeq hC dX8_point_28 (tgt := 33) (by decide) (fun hc => ?_) (fun hc => ?_)
      · have hv := hv1 hc
        clear hv1 hv2 hc
        refine g_blk hC _ bX8_point_33_39 (pc' := 39) (ls' := [some (.inr (some 0)), some (.inl a1), some (.inl a2), some (.inl a3), some (.inl a4)]) (st' := [.inl a1, .inr (some 3), .inl a3]) (I' := I3) rfl rfl ?_
        obtain ⟨hp5, hv⟩ := hv
        refine g_callV hC (c_X5_layerOf l D ads I3 A3 a1 hp5) dX8_point_39 nm_X5_layerOf rfl rfl wl_X8_124 wi_X5_layerOf ws_X5_layerOf wn_X5 wc_X5_layerOf ⟨by decide, by decide⟩ (as := [.inl a1]) (rest := [.inl a3]) rfl (Nat.le_of_ble_eq_true rfl) ⟨Nat.le_refl _, Nat.le_refl _⟩ (k_qI ?_)
        obtain ⟨hv1, hv2⟩ := hv
        refine g_clt hC dX8_point_42 (tgt := 57) (by decide) (fun hc => ?_) (fun hc => ?_)
        · have hv := hv1 hc
          clear hv1 hv2 hc
          refine g_blk hC _ bX8_point_57_58 (pc' := 58) (ls' := [some (.inr (some 0)), some (.inl a1), some (.inl a2), some (.inl a3), some (.inl a4)]) (st' := [.inl ((-1))]) (I' := I3) rfl rfl ?_
          exact g_reti hC hr rfl dX8_point_58 hv
        · have hv := hv2 hc
          clear hv1 hv2 hc
          refine g_blk hC _ bX8_point_45_51 (pc' := 51) (ls' := [some (.inr (some 0)), some (.inl a1), some (.inl a2), some (.inl a3), some (.inl a4)]) (st' := [.inl a2, .inr (some 3), .inl a3]) (I' := I3) rfl rfl ?_
          obtain ⟨hp6, hv⟩ := hv
          refine g_callV hC (c_X5_layerOf l D ads I3 A3 a2 hp6) dX8_point_51 nm_X5_layerOf rfl rfl wl_X8_124 wi_X5_layerOf ws_X5_layerOf wn_X5 wc_X5_layerOf ⟨by decide, by decide⟩ (as := [.inl a2]) (rest := [.inl a3]) rfl (Nat.le_of_ble_eq_true rfl) ⟨Nat.le_refl _, Nat.le_refl _⟩ (k_qI ?_)
          obtain ⟨hv1, hv2⟩ := hv
          refine g_cle hC dX8_point_54 (tgt := 59) (by decide) (fun hc => ?_) (fun hc => ?_)
          · have hv := hv1 hc
            clear hv1 hv2 hc
            refine g_blk hC _ bX8_point_59_61 (pc' := 61) (ls' := [some (.inr (some 0)), some (.inl a1), some (.inl a2), some (.inl a3), some (.inl a4)]) (st' := [.inl a4]) (I' := I3) rfl rfl ?_
            obtain ⟨hv1, hv2⟩ := hv
            refine g_ifne hC dX8_point_61 (tgt := 79) (by decide) (fun hc => ?_) (fun hc => ?_)
            · have hv := hv1 hc
              clear hv1 hv2 hc
              refine g_blk hC _ bX8_point_79_82 (pc' := 82) (ls' := [some (.inr (some 0)), some (.inl a1), some (.inl a2), some (.inl a3), some (.inl a4)]) (st' := [.inl 1, .inl a4]) (I' := I3) rfl rfl ?_
              obtain ⟨hv1, hv2⟩ := hv
              refine g_cne hC dX8_point_82 (tgt := 102) (by decide) (fun hc => ?_) (fun hc => ?_)
              · have hv := hv1 hc
                clear hv1 hv2 hc
                refine g_blk hC _ bX8_point_102_103 (pc' := 103) (ls' := [some (.inr (some 0)), some (.inl a1), some (.inl a2), some (.inl a3), some (.inl a4)]) (st' := [.inl ((-1))]) (I' := I3) rfl rfl ?_
                exact g_reti hC hr rfl dX8_point_103 hv
              · have hv := hv2 hc
                clear hv1 hv2 hc
                refine g_blk hC _ bX8_point_85_96 (pc' := 96) (ls' := [some (.inr (some 0)), some (.inl a1), some (.inl a2), some (.inl a3), some (.inl a4)]) (st' := [.inl (I3 0 6), .inl a3, .inl a2, .inl a1, .inr (some 95)]) (I' := I3) rfl rfl ?_
                obtain ⟨hp7, hv⟩ := hv
                refine g_callV hC (hh_X1_beginOf I3 A3 a1 a2 a3 (I3 0 6) hp7) dX8_point_96 nm_X1_beginOf rfl rfl wl_X8_168 wi_X1_beginOf ws_X1_beginOf wn_X1 wc_X1_beginOf ⟨by decide, by decide⟩ (as := [.inl a1, .inl a2, .inl a3, .inl (I3 0 6)]) (rest := []) rfl (Nat.le_of_ble_eq_true rfl) ⟨Nat.le_refl _, Nat.le_refl _⟩ (k_qI ?_)
                refine g_goto hC dX8_point_99 (tgt := 103) (by decide) ?_
                exact g_reti hC hr rfl dX8_point_103 hv
            · have hv := hv2 hc
              clear hv1 hv2 hc
              refine g_blk hC _ bX8_point_64_75 (pc' := 75) (ls' := [some (.inr (some 0)), some (.inl a1), some (.inl a2), some (.inl a3), some (.inl a4)]) (st' := [.inl (I3 0 6), .inl a3, .inl a2, .inl a1, .inr (some 95)]) (I' := I3) rfl rfl ?_
              obtain ⟨hp8, hv⟩ := hv
              refine g_callV hC (hh_X1_endOf I3 A3 a1 a2 a3 (I3 0 6) hp8) dX8_point_75 nm_X1_endOf rfl rfl wl_X8_164 wi_X1_endOf ws_X1_endOf wn_X1 wc_X1_endOf ⟨by decide, by decide⟩ (as := [.inl a1, .inl a2, .inl a3, .inl (I3 0 6)]) (rest := []) rfl (Nat.le_of_ble_eq_true rfl) ⟨Nat.le_refl _, Nat.le_refl _⟩ (k_qI ?_)
              exact g_reti hC hr rfl dX8_point_78 hv
          · have hv := hv2 hc
            clear hv1 hv2 hc
            refine g_blk hC _ bX8_point_57_58 (pc' := 58) (ls' := [some (.inr (some 0)), some (.inl a1), some (.inl a2), some (.inl a3), some (.inl a4)]) (st' := [.inl ((-1))]) (I' := I3) rfl rfl ?_
            exact g_reti hC hr rfl dX8_point_58 hv
      · have hv := hv2 hc
        clear hv1 hv2 hc
        refine g_blk hC _ bX8_point_31_32 (pc' := 32) (ls' := [some (.inr (some 0)), some (.inl a1), some (.inl a2), some (.inl a3), some (.inl a4)]) (st' := [.inl ((-1))]) (I' := I3) rfl rfl ?_
        exact g_reti hC hr rfl dX8_point_32 hv
theorem bX8_keep_0_1 : okB cX8_keep RX8 0 [(5, 0, 0, 0, 0)] := And.intro ⟨_, dX8_keep_0, rfl⟩ trivial
theorem bX8_keep_9_13 : okB cX8_keep RX8 9 [(5, 0, 0, 0, 0), (23, 37, 8, 3, 0)] := And.intro ⟨_, dX8_keep_9, rfl⟩ (And.intro ⟨dX8_keep_10, fl_X8_37⟩ trivial)
theorem bX8_keep_16_18 : okB cX8_keep RX8 16 [(0, 0, 0, 0, 0), (7, 1, 0, 0, 0)] := And.intro ⟨_, dX8_keep_16, by decide⟩ (And.intro ⟨_, dX8_keep_17, rfl⟩ trivial)
theorem bX8_keep_18_23 : okB cX8_keep RX8 18 [(3, 1, 0, 0, 0), (5, 0, 0, 0, 0), (23, 21, 8, 1, 0)] := And.intro ⟨_, dX8_keep_18, rfl⟩ (And.intro ⟨_, dX8_keep_19, rfl⟩ (And.intro ⟨dX8_keep_20, fl_X8_21⟩ trivial))
theorem bX8_keep_73_77 : okB cX8_keep RX8 73 [(5, 0, 0, 0, 0), (23, 37, 8, 3, 0)] := And.intro ⟨_, dX8_keep_73, rfl⟩ (And.intro ⟨dX8_keep_74, fl_X8_37⟩ trivial)
theorem bX8_keep_80_86 : okB cX8_keep RX8 80 [(5, 0, 0, 0, 0), (0, 0, 0, 0, 0), (25, 70, 8, 9, 0), (0, 0, 0, 0, 1)] := And.intro ⟨_, dX8_keep_80, rfl⟩ (And.intro ⟨_, dX8_keep_81, by decide⟩ (And.intro ⟨dX8_keep_82, fl_X8_70, rfl, rfl⟩ (And.intro ⟨_, dX8_keep_85, by decide⟩ trivial)))
theorem bX8_keep_29_31 : okB cX8_keep RX8 29 [(0, 0, 0, 0, 0), (7, 2, 0, 0, 0)] := And.intro ⟨_, dX8_keep_29, by decide⟩ (And.intro ⟨_, dX8_keep_30, rfl⟩ trivial)
theorem bX8_keep_31_37 : okB cX8_keep RX8 31 [(3, 2, 0, 0, 0), (5, 0, 0, 0, 0), (23, 30, 8, 2, 0), (3, 1, 0, 0, 0)] := And.intro ⟨_, dX8_keep_31, rfl⟩ (And.intro ⟨_, dX8_keep_32, rfl⟩ (And.intro ⟨dX8_keep_33, fl_X8_30⟩ (And.intro ⟨_, dX8_keep_36, rfl⟩ trivial)))
theorem bX8_keep_67_70 : okB cX8_keep RX8 67 [(11, 1, 0, 0, 1)] := And.intro ⟨_, dX8_keep_67, by decide⟩ trivial
theorem bX8_keep_43_53 : okB cX8_keep RX8 43 [(5, 0, 0, 0, 0), (23, 37, 8, 3, 0), (5, 0, 0, 0, 0), (23, 46, 8, 4, 0), (3, 1, 0, 0, 0), (3, 2, 0, 0, 0)] := And.intro ⟨_, dX8_keep_43, rfl⟩ (And.intro ⟨dX8_keep_44, fl_X8_37⟩ (And.intro ⟨_, dX8_keep_47, rfl⟩ (And.intro ⟨dX8_keep_48, fl_X8_46⟩ (And.intro ⟨_, dX8_keep_51, rfl⟩ (And.intro ⟨_, dX8_keep_52, rfl⟩ trivial)))))
theorem bX8_keep_56_58 : okB cX8_keep RX8 56 [(3, 1, 0, 0, 0), (3, 2, 0, 0, 0)] := And.intro ⟨_, dX8_keep_56, rfl⟩ (And.intro ⟨_, dX8_keep_57, rfl⟩ trivial)
theorem bX8_keep_61_64 : okB cX8_keep RX8 61 [(11, 2, 0, 0, 1)] := And.intro ⟨_, dX8_keep_61, by decide⟩ trivial
theorem bX8_keep_7_8 : okB cX8_keep RX8 7 [(0, 0, 0, 0, 0)] := And.intro ⟨_, dX8_keep_7, by decide⟩ trivial
set_option maxHeartbeats 4000000 in
set_option maxRecDepth 100000 in
theorem k_X8_keep (l : Launch) (D : va_G) (ads : AD) (I A : HI) (po : Option AV → HI → HI → Prop) {pp_X8_isDrawn : HI → HI → Prop} {qq_X8_isDrawn : HI → HI → Int32 → HI → HI → Prop} (hh_X8_isDrawn : ∀ (I A : HI), pp_X8_isDrawn I A → Ct l yX8_isDrawn cX8_isDrawn 1 (some .boolean) 5 124 D ads shp [.inr (some 0)] I A (qJ (qq_X8_isDrawn I A))) {pp_X6_shownAt : HI → HI → Int32 → Int32 → Prop} {ff_X6_shownAt : HI → HI → Int32 → Int32 → Int32} (hh_X6_shownAt : ∀ (I A : HI) (a1 : Int32) (a2 : Int32), pp_X6_shownAt I A a1 a2 → Ct l yX6_shownAt cX6_shownAt 3 (some .int) 2 42 D ads shp [.inr (some 29), .inl a1, .inl a2] I A (qI (ff_X6_shownAt I A a1 a2) I A)) (Iv18 : Int32 → HI → HI → Int32 → HI → Prop) (mu18 : Int32 → HI → HI → Int32 → HI → Nat) (Iv31 : Int32 → HI → HI → Int32 → HI → Int32 → HI → Prop) (mu31 : Int32 → HI → HI → Int32 → HI → Int32 → HI → Nat)
    (hv : ((pp_X8_isDrawn I A) ∧ (∀ (r2 : Int32) (I2 A2 : HI), qq_X8_isDrawn I A r2 I2 A2 → ((¬ r2 = 0 → (Iv18 r2 I2 A2 0 (filA A2 27 10 (-1)) ∧ ∀ (x1_18 : Int32) (A_18 : HI), Iv18 r2 I2 A2 x1_18 A_18 → ((((up2 I2 26 2 0) 3 11) ≤ x1_18 → po (some (.inl 1)) (up2 (up2 (up2 I2 26 2 0) 26 2 1) 0 9 0) A_18) ∧ (¬ ((up2 I2 26 2 0) 3 11) ≤ x1_18 → (Iv31 r2 I2 A2 x1_18 A_18 0 A_18 ∧ ∀ (x2_31 : Int32) (A_31 : HI), Iv31 r2 I2 A2 x1_18 A_18 x2_31 A_31 → ((vp_in x1_18 11) ∧ (((A_31 25 x1_18.toNatClampNeg) ≤ x2_31 → (Iv18 r2 I2 A2 (x1_18 + 1) A_31 ∧ mu18 r2 I2 A2 (x1_18 + 1) A_31 < mu18 r2 I2 A2 x1_18 A_18)) ∧ (¬ (A_31 25 x1_18.toNatClampNeg) ≤ x2_31 → ((pp_X6_shownAt (up2 I2 26 2 0) A_31 x1_18 x2_31) ∧ (Iv31 r2 I2 A2 x1_18 A_18 (x2_31 + 1) (notA A_31 (ff_X6_shownAt (up2 I2 26 2 0) A_31 x1_18 x2_31) x1_18 x2_31) ∧ mu31 r2 I2 A2 x1_18 A_18 (x2_31 + 1) (notA A_31 (ff_X6_shownAt (up2 I2 26 2 0) A_31 x1_18 x2_31) x1_18 x2_31) < mu31 r2 I2 A2 x1_18 A_18 x2_31 A_31)))))))))) ∧ (r2 = 0 → po (some (.inl 0)) I2 A2))))) : Ct l yX8_keep cX8_keep 3 (some .boolean) 6 144 D ads shp [.inr (some 0)] I A po := by
  refine Ct_of (by decide) (Nat.le_of_ble_eq_true rfl) ?_
  intro p e s m args below meth c hC hr
  replace hC : CX p s m args meth c cX8_keep 3 RX8 (AdS ads s.heap.size) := hC
  show Gm p l e s m args below meth c D ads 6 144 3 po I A 0 [some (.inr (some 0)), none, none] []
  refine g_blk hC _ bX8_keep_0_1 (pc' := 1) (ls' := [some (.inr (some 0)), none, none]) (st' := [.inr (some 0)]) (I' := I) rfl rfl ?_
  obtain ⟨hp1, hv⟩ := hv
  refine g_callV hC (hh_X8_isDrawn I A  hp1) dX8_keep_1 nm_X8_isDrawn rfl rfl wl_X8_133 wi_X8_isDrawn ws_X8_isDrawn wn_X8 wc_X8_isDrawn ⟨by decide, by decide⟩ (as := []) (rest := []) rfl (Nat.le_of_ble_eq_true rfl) ⟨Nat.le_refl _, Nat.le_refl _⟩ (k_qJ ?_)
  intro r2 I2 A2 hq2
  replace hv := hv r2 I2 A2 hq2
  obtain ⟨hv1, hv2⟩ := hv
  refine g_ifne hC dX8_keep_4 (tgt := 9) (by decide) (fun hc => ?_) (fun hc => ?_)
  · have hv := hv1 hc
    clear hv1 hv2 hc
    refine g_blk hC _ bX8_keep_9_13 (pc' := 13) (ls' := [some (.inr (some 0)), none, none]) (st' := [.inr (some 26)]) (I' := I2) rfl rfl ?_
    refine g_callV hC (c_X4_empty l D ads I2 A2 ) dX8_keep_13 nm_X4_empty rfl rfl wl_X8_171 wi_X4_empty ws_X4_empty wn_X4 wc_X4_empty ⟨by decide, by decide⟩ (as := []) (rest := []) rfl (Nat.le_of_ble_eq_true rfl) ⟨Nat.le_refl _, Nat.le_refl _⟩ (k_qN ?_)
    refine g_blk hC _ bX8_keep_16_18 (pc' := 18) (ls' := [some (.inr (some 0)), some (.inl 0), none]) (st' := []) (I' := up2 I2 26 2 0) rfl rfl ?_
    obtain ⟨hi18, hb18⟩ := hv
    have L18 : ∀ (n : Nat) (x1_18 : Int32) (A_18 : HI), Iv18 r2 I2 A2 x1_18 A_18 → mu18 r2 I2 A2 x1_18 A_18 < n → Gm p l e s m args below meth c D ads 6 144 3 po (up2 I2 26 2 0) A_18 18 [some (.inr (some 0)), some (.inl x1_18), none] [] := by
      intro n
      induction n with
      | zero => intro x1_18 A_18 _ hn; exact absurd hn (Nat.not_lt_zero _)
      | succ n ih18 =>
        intro x1_18 A_18 hv hn18
        replace hv := hb18 x1_18 A_18 hv
        skip
        refine g_blk hC _ bX8_keep_18_23 (pc' := 23) (ls' := [some (.inr (some 0)), some (.inl x1_18), none]) (st' := [.inr (some 3), .inl x1_18]) (I' := up2 I2 26 2 0) rfl rfl ?_
        refine g_callV hC (c_X5_layers l D ads (up2 I2 26 2 0) A_18 ) dX8_keep_23 nm_X5_layers rfl rfl wl_X8_105 wi_X5_layers ws_X5_layers wn_X5 wc_X5_layers ⟨by decide, by decide⟩ (as := []) (rest := [.inl x1_18]) rfl (Nat.le_of_ble_eq_true rfl) ⟨Nat.le_refl _, Nat.le_refl _⟩ (k_qI ?_)
        obtain ⟨hv1, hv2⟩ := hv
        refine g_cge hC dX8_keep_26 (tgt := 73) (by decide) (fun hc => ?_) (fun hc => ?_)
        · have hv := hv1 hc
          clear hv1 hv2 hc
          refine g_blk hC _ bX8_keep_73_77 (pc' := 77) (ls' := [some (.inr (some 0)), some (.inl x1_18), none]) (st' := [.inr (some 26)]) (I' := up2 I2 26 2 0) rfl rfl ?_
          refine g_callV hC (c_X4_hold l D ads (up2 I2 26 2 0) A_18 ) dX8_keep_77 nm_X4_hold rfl rfl wl_X8_177 wi_X4_hold ws_X4_hold wn_X4 wc_X4_hold ⟨by decide, by decide⟩ (as := []) (rest := []) rfl (Nat.le_of_ble_eq_true rfl) ⟨Nat.le_refl _, Nat.le_refl _⟩ (k_qN ?_)
          refine g_blk hC _ bX8_keep_80_86 (pc' := 86) (ls' := [some (.inr (some 0)), some (.inl x1_18), none]) (st' := [.inl 1]) (I' := up2 (up2 (up2 I2 26 2 0) 26 2 1) 0 9 0) rfl rfl ?_
          exact g_reti hC hr (by decide) dX8_keep_86 hv
        · have hv := hv2 hc
          clear hv1 hv2 hc
          refine g_blk hC _ bX8_keep_29_31 (pc' := 31) (ls' := [some (.inr (some 0)), some (.inl x1_18), some (.inl 0)]) (st' := []) (I' := up2 I2 26 2 0) rfl rfl ?_
          obtain ⟨hi31, hb31⟩ := hv
          have L31 : ∀ (n : Nat) (x2_31 : Int32) (A_31 : HI), Iv31 r2 I2 A2 x1_18 A_18 x2_31 A_31 → mu31 r2 I2 A2 x1_18 A_18 x2_31 A_31 < n → Gm p l e s m args below meth c D ads 6 144 3 po (up2 I2 26 2 0) A_31 31 [some (.inr (some 0)), some (.inl x1_18), some (.inl x2_31)] [] := by
            intro n
            induction n with
            | zero => intro x2_31 A_31 _ hn; exact absurd hn (Nat.not_lt_zero _)
            | succ n ih31 =>
              intro x2_31 A_31 hv hn31
              replace hv := hb31 x2_31 A_31 hv
              skip
              refine g_blk hC _ bX8_keep_31_37 (pc' := 37) (ls' := [some (.inr (some 0)), some (.inl x1_18), some (.inl x2_31)]) (st' := [.inl x1_18, .inr (some 13), .inl x2_31]) (I' := up2 I2 26 2 0) rfl rfl ?_
              obtain ⟨hp6, hv⟩ := hv
              refine g_callV hC (c_X7_countIn l D ads (up2 I2 26 2 0) A_31 x1_18 hp6) dX8_keep_37 nm_X7_countIn rfl rfl wl_X8_151 wi_X7_countIn ws_X7_countIn wn_X7 wc_X7_countIn ⟨by decide, by decide⟩ (as := [.inl x1_18]) (rest := [.inl x2_31]) rfl (Nat.le_of_ble_eq_true rfl) ⟨Nat.le_refl _, Nat.le_refl _⟩ (k_qI ?_)
              obtain ⟨hv1, hv2⟩ := hv
              refine g_cge hC dX8_keep_40 (tgt := 67) (by decide) (fun hc => ?_) (fun hc => ?_)
              · have hv := hv1 hc
                clear hv1 hv2 hc
                refine g_blk hC _ bX8_keep_67_70 (pc' := 70) (ls' := [some (.inr (some 0)), some (.inl (x1_18 + 1)), some (.inl x2_31)]) (st' := []) (I' := up2 I2 26 2 0) rfl rfl ?_
                refine g_goto hC dX8_keep_70 (tgt := 18) (by decide) ?_
                exact g_weak (ls1 := [some (.inr (some 0)), some (.inl (x1_18 + 1)), none]) rfl (And.intro rfl (And.intro rfl trivial)) (ih18 (x1_18 + 1) A_31 hv.1 (Nat.lt_of_lt_of_le hv.2 (Nat.le_of_lt_succ hn18)))
              · have hv := hv2 hc
                clear hv1 hv2 hc
                refine g_blk hC _ bX8_keep_43_53 (pc' := 53) (ls' := [some (.inr (some 0)), some (.inl x1_18), some (.inl x2_31)]) (st' := [.inl x2_31, .inl x1_18, .inr (some 29), .inr (some 26)]) (I' := up2 I2 26 2 0) rfl rfl ?_
                obtain ⟨hp7, hv⟩ := hv
                refine g_callV hC (hh_X6_shownAt (up2 I2 26 2 0) A_31 x1_18 x2_31 hp7) dX8_keep_53 nm_X6_shownAt rfl rfl wl_X8_154 wi_X6_shownAt ws_X6_shownAt wn_X6 wc_X6_shownAt ⟨by decide, by decide⟩ (as := [.inl x1_18, .inl x2_31]) (rest := [.inr (some 26)]) rfl (Nat.le_of_ble_eq_true rfl) ⟨Nat.le_refl _, Nat.le_refl _⟩ (k_qI ?_)
                refine g_blk hC _ bX8_keep_56_58 (pc' := 58) (ls' := [some (.inr (some 0)), some (.inl x1_18), some (.inl x2_31)]) (st' := [.inl x2_31, .inl x1_18, .inl (ff_X6_shownAt (up2 I2 26 2 0) A_31 x1_18 x2_31), .inr (some 26)]) (I' := up2 I2 26 2 0) rfl rfl ?_
                refine g_callV hC (c_X4_note l D ads (up2 I2 26 2 0) A_31 (ff_X6_shownAt (up2 I2 26 2 0) A_31 x1_18 x2_31) x1_18 x2_31) dX8_keep_58 nm_X4_note rfl rfl wl_X8_174 wi_X4_note ws_X4_note wn_X4 wc_X4_note ⟨by decide, by decide⟩ (as := [.inl (ff_X6_shownAt (up2 I2 26 2 0) A_31 x1_18 x2_31), .inl x1_18, .inl x2_31]) (rest := []) rfl (Nat.le_of_ble_eq_true rfl) ⟨Nat.le_refl _, Nat.le_refl _⟩ (k_qN ?_)
                refine g_blk hC _ bX8_keep_61_64 (pc' := 64) (ls' := [some (.inr (some 0)), some (.inl x1_18), some (.inl (x2_31 + 1))]) (st' := []) (I' := (up2 I2 26 2 0)) rfl rfl ?_
                refine g_goto hC dX8_keep_64 (tgt := 31) (by decide) ?_
                exact g_weak (ls1 := [some (.inr (some 0)), some (.inl x1_18), some (.inl (x2_31 + 1))]) rfl (And.intro rfl (And.intro rfl (And.intro rfl trivial))) (ih31 (x2_31 + 1) (notA A_31 (ff_X6_shownAt (up2 I2 26 2 0) A_31 x1_18 x2_31) x1_18 x2_31) hv.1 (Nat.lt_of_lt_of_le hv.2 (Nat.le_of_lt_succ hn31)))
          exact g_weak (ls1 := [some (.inr (some 0)), some (.inl x1_18), some (.inl 0)]) rfl (And.intro rfl (And.intro rfl (And.intro rfl trivial))) (L31 _ 0 A_18 hi31 (Nat.lt_succ_self _))
    exact g_weak (ls1 := [some (.inr (some 0)), some (.inl 0), none]) rfl (And.intro rfl (And.intro rfl trivial)) (L18 _ 0 (filA A2 27 10 (-1)) hi18 (Nat.lt_succ_self _))
  · have hv := hv2 hc
    clear hv1 hv2 hc
    refine g_blk hC _ bX8_keep_7_8 (pc' := 8) (ls' := [some (.inr (some 0)), none, none]) (st' := [.inl 0]) (I' := I2) rfl rfl ?_
    exact g_reti hC hr (by decide) dX8_keep_8 hv
theorem bX8_forget_0_4 : okB cX8_forget RX8 0 [(5, 0, 0, 0, 0), (23, 37, 8, 3, 0)] := And.intro ⟨_, dX8_forget_0, rfl⟩ (And.intro ⟨dX8_forget_1, fl_X8_37⟩ trivial)
theorem bX8_forget_10_14 : okB cX8_forget RX8 10 [(5, 0, 0, 0, 0), (23, 37, 8, 3, 0)] := And.intro ⟨_, dX8_forget_10, rfl⟩ (And.intro ⟨dX8_forget_11, fl_X8_37⟩ trivial)
theorem bX8_forget_17_22 : okB cX8_forget RX8 17 [(5, 0, 0, 0, 0), (0, 0, 0, 0, 0), (25, 70, 8, 9, 0)] := And.intro ⟨_, dX8_forget_17, rfl⟩ (And.intro ⟨_, dX8_forget_18, by decide⟩ (And.intro ⟨dX8_forget_19, fl_X8_70, rfl, rfl⟩ trivial))
set_option maxHeartbeats 4000000 in
set_option maxRecDepth 100000 in
theorem k_X8_forget (l : Launch) (D : va_G) (ads : AD) (I A : HI) (po : Option AV → HI → HI → Prop)
    (hv : ((I 26 2 = 0 ∨ I 26 2 = 1) ∧ (((I 26 2) = 0 → po none I A) ∧ (¬ (I 26 2) = 0 → po none (up2 (up2 I 26 2 0) 0 9 0) (filA A 27 10 (-1)))))) : Ct l yX8_forget cX8_forget 1 none 2 43 D ads shp [.inr (some 0)] I A po := by
  refine Ct_of (by decide) (Nat.le_of_ble_eq_true rfl) ?_
  intro p e s m args below meth c hC hr
  replace hC : CX p s m args meth c cX8_forget 1 RX8 (AdS ads s.heap.size) := hC
  show Gm p l e s m args below meth c D ads 2 43 1 po I A 0 [some (.inr (some 0))] []
  refine g_blk hC _ bX8_forget_0_4 (pc' := 4) (ls' := [some (.inr (some 0))]) (st' := [.inr (some 26)]) (I' := I) rfl rfl ?_
  obtain ⟨hp1, hv⟩ := hv
  refine g_callV hC (c_X4_holds l D ads I A  hp1) dX8_forget_4 nm_X4_holds rfl rfl wl_X8_108 wi_X4_holds ws_X4_holds wn_X4 wc_X4_holds ⟨by decide, by decide⟩ (as := []) (rest := []) rfl (Nat.le_of_ble_eq_true rfl) ⟨Nat.le_refl _, Nat.le_refl _⟩ (k_qI ?_)
  obtain ⟨hv1, hv2⟩ := hv
  refine g_ifeq hC dX8_forget_7 (tgt := 22) (by decide) (fun hc => ?_) (fun hc => ?_)
  · have hv := hv1 hc
    clear hv1 hv2 hc
    exact g_retv hC hr dX8_forget_22 hv
  · have hv := hv2 hc
    clear hv1 hv2 hc
    refine g_blk hC _ bX8_forget_10_14 (pc' := 14) (ls' := [some (.inr (some 0))]) (st' := [.inr (some 26)]) (I' := I) rfl rfl ?_
    refine g_callV hC (c_X4_empty l D ads I A ) dX8_forget_14 nm_X4_empty rfl rfl wl_X8_171 wi_X4_empty ws_X4_empty wn_X4 wc_X4_empty ⟨by decide, by decide⟩ (as := []) (rest := []) rfl (Nat.le_of_ble_eq_true rfl) ⟨Nat.le_refl _, Nat.le_refl _⟩ (k_qN ?_)
    refine g_blk hC _ bX8_forget_17_22 (pc' := 22) (ls' := [some (.inr (some 0))]) (st' := []) (I' := up2 (up2 I 26 2 0) 0 9 0) rfl rfl ?_
    exact g_retv hC hr dX8_forget_22 hv
theorem bX8_orders_0_1 : okB cX8_orders RX8 0 [(5, 0, 0, 0, 0)] := And.intro ⟨_, dX8_orders_0, rfl⟩ trivial
theorem bX8_orders_17_18 : okB cX8_orders RX8 17 [(0, 0, 0, 0, (-1))] := And.intro ⟨_, dX8_orders_17, by decide⟩ trivial
theorem bX8_orders_7_11 : okB cX8_orders RX8 7 [(5, 0, 0, 0, 0), (23, 46, 8, 4, 0)] := And.intro ⟨_, dX8_orders_7, rfl⟩ (And.intro ⟨dX8_orders_8, fl_X8_46⟩ trivial)
set_option maxHeartbeats 4000000 in
set_option maxRecDepth 100000 in
theorem k_X8_orders (l : Launch) (D : va_G) (ads : AD) (I A : HI) (po : Option AV → HI → HI → Prop) {pp_X8_isDrawn : HI → HI → Prop} {qq_X8_isDrawn : HI → HI → Int32 → HI → HI → Prop} (hh_X8_isDrawn : ∀ (I A : HI), pp_X8_isDrawn I A → Ct l yX8_isDrawn cX8_isDrawn 1 (some .boolean) 5 124 D ads shp [.inr (some 0)] I A (qJ (qq_X8_isDrawn I A)))
    (hv : ((pp_X8_isDrawn I A) ∧ (∀ (r2 : Int32) (I2 A2 : HI), qq_X8_isDrawn I A r2 I2 A2 → ((r2 = 0 → po (some (.inl ((-1)))) I2 A2) ∧ (¬ r2 = 0 → po (some (.inl (I2 29 10))) I2 A2))))) : Ct l yX8_orders cX8_orders 1 (some .int) 6 144 D ads shp [.inr (some 0)] I A po := by
  refine Ct_of (by decide) (Nat.le_of_ble_eq_true rfl) ?_
  intro p e s m args below meth c hC hr
  replace hC : CX p s m args meth c cX8_orders 1 RX8 (AdS ads s.heap.size) := hC
  show Gm p l e s m args below meth c D ads 6 144 1 po I A 0 [some (.inr (some 0))] []
  refine g_blk hC _ bX8_orders_0_1 (pc' := 1) (ls' := [some (.inr (some 0))]) (st' := [.inr (some 0)]) (I' := I) rfl rfl ?_
  obtain ⟨hp1, hv⟩ := hv
  refine g_callV hC (hh_X8_isDrawn I A  hp1) dX8_orders_1 nm_X8_isDrawn rfl rfl wl_X8_133 wi_X8_isDrawn ws_X8_isDrawn wn_X8 wc_X8_isDrawn ⟨by decide, by decide⟩ (as := []) (rest := []) rfl (Nat.le_of_ble_eq_true rfl) ⟨Nat.le_refl _, Nat.le_refl _⟩ (k_qJ ?_)
  intro r2 I2 A2 hq2
  replace hv := hv r2 I2 A2 hq2
  obtain ⟨hv1, hv2⟩ := hv
  refine g_ifeq hC dX8_orders_4 (tgt := 17) (by decide) (fun hc => ?_) (fun hc => ?_)
  · have hv := hv1 hc
    clear hv1 hv2 hc
    refine g_blk hC _ bX8_orders_17_18 (pc' := 18) (ls' := [some (.inr (some 0))]) (st' := [.inl ((-1))]) (I' := I2) rfl rfl ?_
    exact g_reti hC hr rfl dX8_orders_18 hv
  · have hv := hv2 hc
    clear hv1 hv2 hc
    refine g_blk hC _ bX8_orders_7_11 (pc' := 11) (ls' := [some (.inr (some 0))]) (st' := [.inr (some 29)]) (I' := I2) rfl rfl ?_
    refine g_callV hC (c_X6_leastWays l D ads I2 A2 ) dX8_orders_11 nm_X6_leastWays rfl rfl wl_X8_180 wi_X6_leastWays ws_X6_leastWays wn_X6 wc_X6_leastWays ⟨by decide, by decide⟩ (as := []) (rest := []) rfl (Nat.le_of_ble_eq_true rfl) ⟨Nat.le_refl _, Nat.le_refl _⟩ (k_qI ?_)
    refine g_goto hC dX8_orders_14 (tgt := 18) (by decide) ?_
    exact g_reti hC hr rfl dX8_orders_18 hv
