theorem bX5_gatherUsed_0_7 : okB cX5_gatherUsed RX5 0 [(5, 0, 0, 0, 0), (0, 0, 0, 0, 0), (24, 15, 5, 2, 0), (0, 0, 0, 0, 0), (7, 1, 0, 0, 0)] := And.intro ⟨_, dX5_gatherUsed_0, rfl⟩ (And.intro ⟨_, dX5_gatherUsed_1, by decide⟩ (And.intro ⟨dX5_gatherUsed_2, fl_X5_15, rfl, rfl⟩ (And.intro ⟨_, dX5_gatherUsed_5, by decide⟩ (And.intro ⟨_, dX5_gatherUsed_6, rfl⟩ trivial))))
theorem bX5_gatherUsed_7_10 : okB cX5_gatherUsed RX5 7 [(3, 1, 0, 0, 0), (1, 0, 0, 0, 10)] := And.intro ⟨_, dX5_gatherUsed_7, rfl⟩ (And.intro ⟨_, dX5_gatherUsed_8, by decide⟩ trivial)
theorem bX5_gatherUsed_13_18 : okB cX5_gatherUsed RX5 13 [(5, 0, 0, 0, 0), (23, 52, 5, 0, 0), (3, 1, 0, 0, 0)] := And.intro ⟨_, dX5_gatherUsed_13, rfl⟩ (And.intro ⟨dX5_gatherUsed_14, fl_X5_52⟩ (And.intro ⟨_, dX5_gatherUsed_17, rfl⟩ trivial))
theorem bX5_gatherUsed_44_47 : okB cX5_gatherUsed RX5 44 [(11, 1, 0, 0, 1)] := And.intro ⟨_, dX5_gatherUsed_44, by decide⟩ trivial
theorem bX5_gatherUsed_24_33 : okB cX5_gatherUsed RX5 24 [(5, 0, 0, 0, 0), (23, 9, 5, 1, 0), (5, 0, 0, 0, 0), (23, 15, 5, 2, 0), (3, 1, 0, 0, 0)] := And.intro ⟨_, dX5_gatherUsed_24, rfl⟩ (And.intro ⟨dX5_gatherUsed_25, fl_X5_9⟩ (And.intro ⟨_, dX5_gatherUsed_28, rfl⟩ (And.intro ⟨dX5_gatherUsed_29, fl_X5_15⟩ (And.intro ⟨_, dX5_gatherUsed_32, rfl⟩ trivial))))
theorem bX5_gatherUsed_34_47 : okB cX5_gatherUsed RX5 34 [(5, 0, 0, 0, 0), (20, 0, 0, 0, 0), (23, 15, 5, 2, 0), (0, 0, 0, 0, 1), (12, 0, 0, 0, 0), (24, 15, 5, 2, 0), (11, 1, 0, 0, 1)] := And.intro ⟨_, dX5_gatherUsed_34, rfl⟩ (And.intro dX5_gatherUsed_35 (And.intro ⟨dX5_gatherUsed_36, fl_X5_15⟩ (And.intro ⟨_, dX5_gatherUsed_39, by decide⟩ (And.intro dX5_gatherUsed_40 (And.intro ⟨dX5_gatherUsed_41, fl_X5_15, rfl, rfl⟩ (And.intro ⟨_, dX5_gatherUsed_44, by decide⟩ trivial))))))
set_option maxHeartbeats 4000000 in
set_option maxRecDepth 100000 in
theorem k_X5_gatherUsed (l : Launch) (D : va_G) (ads : AD) (I A : HI) (po : Option AV → HI → HI → Prop) (Iv7 : Int32 → HI → HI → Prop) (mu7 : Int32 → HI → HI → Nat)
    (hv : (Iv7 0 (up2 I 3 2 0) A ∧ ∀ (x1_7 : Int32) (I_7 : HI) (A_7 : HI), Iv7 x1_7 I_7 A_7 → ((10 ≤ x1_7 → po none I_7 A_7) ∧ (¬ 10 ≤ x1_7 → ((vp_in x1_7 10) ∧ (((usI (A_7 2) x1_7.toNatClampNeg) = 0 → (Iv7 (x1_7 + 1) I_7 A_7 ∧ mu7 (x1_7 + 1) I_7 A_7 < mu7 x1_7 I_7 A_7)) ∧ (¬ (usI (A_7 2) x1_7.toNatClampNeg) = 0 → (vp_in (I_7 3 2) 10 ∧ (Iv7 (x1_7 + 1) (up2 I_7 3 2 ((I_7 3 2) + 1)) (up2 A_7 4 (I_7 3 2).toNatClampNeg x1_7) ∧ mu7 (x1_7 + 1) (up2 I_7 3 2 ((I_7 3 2) + 1)) (up2 A_7 4 (I_7 3 2).toNatClampNeg x1_7) < mu7 x1_7 I_7 A_7))))))))) : Ct l yX5_gatherUsed cX5_gatherUsed 2 none 1 22 D ads shp [.inr (some 3)] I A po := by
  refine Ct_of (by decide) (Nat.le_of_ble_eq_true rfl) ?_
  intro p e s m args below meth c hC hr
  replace hC : CX p s m args meth c cX5_gatherUsed 2 RX5 (AdS ads s.heap.size) := hC
  show Gm p l e s m args below meth c D ads 1 22 2 po I A 0 [some (.inr (some 3)), none] []
  refine g_blk hC _ bX5_gatherUsed_0_7 (pc' := 7) (ls' := [some (.inr (some 3)), some (.inl 0)]) (st' := []) (I' := up2 I 3 2 0) rfl rfl ?_
  obtain ⟨hi7, hb7⟩ := hv
  have L7 : ∀ (n : Nat) (x1_7 : Int32) (I_7 : HI) (A_7 : HI), Iv7 x1_7 I_7 A_7 → mu7 x1_7 I_7 A_7 < n → Gm p l e s m args below meth c D ads 1 22 2 po I_7 A_7 7 [some (.inr (some 3)), some (.inl x1_7)] [] := by
    intro n
    induction n with
    | zero => intro x1_7 I_7 A_7 _ hn; exact absurd hn (Nat.not_lt_zero _)
    | succ n ih7 =>
      intro x1_7 I_7 A_7 hv hn7
      replace hv := hb7 x1_7 I_7 A_7 hv
      skip
      refine g_blk hC _ bX5_gatherUsed_7_10 (pc' := 10) (ls' := [some (.inr (some 3)), some (.inl x1_7)]) (st' := [.inl 10, .inl x1_7]) (I' := I_7) rfl rfl ?_
      obtain ⟨hv1, hv2⟩ := hv
      refine g_cge hC dX5_gatherUsed_10 (tgt := 50) (by decide) (fun hc => ?_) (fun hc => ?_)
      · have hv := hv1 hc
        clear hv1 hv2 hc
        exact g_retv hC hr dX5_gatherUsed_50 hv
      · have hv := hv2 hc
        clear hv1 hv2 hc
        refine g_blk hC _ bX5_gatherUsed_13_18 (pc' := 18) (ls' := [some (.inr (some 3)), some (.inl x1_7)]) (st' := [.inl x1_7, .inr (some 1)]) (I' := I_7) rfl rfl ?_
        obtain ⟨hp1, hv⟩ := hv
        refine g_callV hC (c_X2_uses l D ads I_7 A_7 x1_7 hp1) dX5_gatherUsed_18 nm_X2_uses rfl rfl wl_X5_78 wi_X2_uses ws_X2_uses wn_X2 wc_X2_uses ⟨by decide, by decide⟩ (as := [.inl x1_7]) (rest := []) rfl (Nat.le_of_ble_eq_true rfl) ⟨Nat.le_refl _, Nat.le_refl _⟩ (k_qI ?_)
        obtain ⟨hv1, hv2⟩ := hv
        refine g_ifeq hC dX5_gatherUsed_21 (tgt := 44) (by decide) (fun hc => ?_) (fun hc => ?_)
        · have hv := hv1 hc
          clear hv1 hv2 hc
          refine g_blk hC _ bX5_gatherUsed_44_47 (pc' := 47) (ls' := [some (.inr (some 3)), some (.inl (x1_7 + 1))]) (st' := []) (I' := I_7) rfl rfl ?_
          refine g_goto hC dX5_gatherUsed_47 (tgt := 7) (by decide) ?_
          exact g_weak (ls1 := [some (.inr (some 3)), some (.inl (x1_7 + 1))]) rfl (And.intro rfl (And.intro rfl trivial)) (ih7 (x1_7 + 1) I_7 A_7 hv.1 (Nat.lt_of_lt_of_le hv.2 (Nat.le_of_lt_succ hn7)))
        · have hv := hv2 hc
          clear hv1 hv2 hc
          refine g_blk hC _ bX5_gatherUsed_24_33 (pc' := 33) (ls' := [some (.inr (some 3)), some (.inl x1_7)]) (st' := [.inl x1_7, .inl (I_7 3 2), .inr (some 4)]) (I' := I_7) rfl rfl ?_
          obtain ⟨hi, hv⟩ := hv
          refine g_iast hC dX5_gatherUsed_33 (rfl) hi ?_
          clear hi
          refine g_blk hC _ bX5_gatherUsed_34_47 (pc' := 47) (ls' := [some (.inr (some 3)), some (.inl (x1_7 + 1))]) (st' := []) (I' := up2 I_7 3 2 ((I_7 3 2) + 1)) rfl rfl ?_
          refine g_goto hC dX5_gatherUsed_47 (tgt := 7) (by decide) ?_
          exact g_weak (ls1 := [some (.inr (some 3)), some (.inl (x1_7 + 1))]) rfl (And.intro rfl (And.intro rfl trivial)) (ih7 (x1_7 + 1) (up2 I_7 3 2 ((I_7 3 2) + 1)) (up2 A_7 4 (I_7 3 2).toNatClampNeg x1_7) hv.1 (Nat.lt_of_lt_of_le hv.2 (Nat.le_of_lt_succ hn7)))
  exact g_weak (ls1 := [some (.inr (some 3)), some (.inl 0)]) rfl (And.intro rfl (And.intro rfl trivial)) (L7 _ 0 (up2 I 3 2 0) A hi7 (Nat.lt_succ_self _))
theorem bX5_gatherSources_0_4 : okB cX5_gatherSources RX5 0 [(0, 0, 0, 0, 0), (7, 1, 0, 0, 0), (0, 0, 0, 0, 0), (7, 2, 0, 0, 0)] := And.intro ⟨_, dX5_gatherSources_0, by decide⟩ (And.intro ⟨_, dX5_gatherSources_1, rfl⟩ (And.intro ⟨_, dX5_gatherSources_2, by decide⟩ (And.intro ⟨_, dX5_gatherSources_3, rfl⟩ trivial)))
theorem bX5_gatherSources_4_9 : okB cX5_gatherSources RX5 4 [(3, 2, 0, 0, 0), (5, 0, 0, 0, 0), (23, 15, 5, 2, 0)] := And.intro ⟨_, dX5_gatherSources_4, rfl⟩ (And.intro ⟨_, dX5_gatherSources_5, rfl⟩ (And.intro ⟨dX5_gatherSources_6, fl_X5_15⟩ trivial))
theorem bX5_gatherSources_93_102 : okB cX5_gatherSources RX5 93 [(5, 0, 0, 0, 0), (23, 19, 5, 3, 0), (5, 0, 0, 0, 0), (23, 15, 5, 2, 0), (3, 1, 0, 0, 0)] := And.intro ⟨_, dX5_gatherSources_93, rfl⟩ (And.intro ⟨dX5_gatherSources_94, fl_X5_19⟩ (And.intro ⟨_, dX5_gatherSources_97, rfl⟩ (And.intro ⟨dX5_gatherSources_98, fl_X5_15⟩ (And.intro ⟨_, dX5_gatherSources_101, rfl⟩ trivial))))
theorem bX5_gatherSources_12_18 : okB cX5_gatherSources RX5 12 [(5, 0, 0, 0, 0), (23, 19, 5, 3, 0), (3, 2, 0, 0, 0), (3, 1, 0, 0, 0)] := And.intro ⟨_, dX5_gatherSources_12, rfl⟩ (And.intro ⟨dX5_gatherSources_13, fl_X5_19⟩ (And.intro ⟨_, dX5_gatherSources_16, rfl⟩ (And.intro ⟨_, dX5_gatherSources_17, rfl⟩ trivial)))
theorem bX5_gatherSources_19_21 : okB cX5_gatherSources RX5 19 [(0, 0, 0, 0, 0), (7, 3, 0, 0, 0)] := And.intro ⟨_, dX5_gatherSources_19, by decide⟩ (And.intro ⟨_, dX5_gatherSources_20, rfl⟩ trivial)
theorem bX5_gatherSources_21_26 : okB cX5_gatherSources RX5 21 [(3, 3, 0, 0, 0), (5, 0, 0, 0, 0), (23, 15, 5, 2, 0)] := And.intro ⟨_, dX5_gatherSources_21, rfl⟩ (And.intro ⟨_, dX5_gatherSources_22, rfl⟩ (And.intro ⟨dX5_gatherSources_23, fl_X5_15⟩ trivial))
theorem bX5_gatherSources_87_90 : okB cX5_gatherSources RX5 87 [(11, 2, 0, 0, 1)] := And.intro ⟨_, dX5_gatherSources_87, by decide⟩ trivial
theorem bX5_gatherSources_29_38 : okB cX5_gatherSources RX5 29 [(5, 0, 0, 0, 0), (23, 52, 5, 0, 0), (5, 0, 0, 0, 0), (23, 9, 5, 1, 0), (3, 3, 0, 0, 0)] := And.intro ⟨_, dX5_gatherSources_29, rfl⟩ (And.intro ⟨dX5_gatherSources_30, fl_X5_52⟩ (And.intro ⟨_, dX5_gatherSources_33, rfl⟩ (And.intro ⟨dX5_gatherSources_34, fl_X5_9⟩ (And.intro ⟨_, dX5_gatherSources_37, rfl⟩ trivial))))
theorem bX5_gatherSources_39_44 : okB cX5_gatherSources RX5 39 [(5, 0, 0, 0, 0), (23, 9, 5, 1, 0), (3, 2, 0, 0, 0)] := And.intro ⟨_, dX5_gatherSources_39, rfl⟩ (And.intro ⟨dX5_gatherSources_40, fl_X5_9⟩ (And.intro ⟨_, dX5_gatherSources_43, rfl⟩ trivial))
theorem bX5_gatherSources_48_52 : okB cX5_gatherSources RX5 48 [(8, 4, 0, 0, 0), (4, 4, 0, 0, 0)] := And.intro dX5_gatherSources_48 (And.intro dX5_gatherSources_50 trivial)
theorem bX5_gatherSources_81_84 : okB cX5_gatherSources RX5 81 [(11, 3, 0, 0, 1)] := And.intro ⟨_, dX5_gatherSources_81, by decide⟩ trivial
theorem bX5_gatherSources_55_58 : okB cX5_gatherSources RX5 55 [(3, 1, 0, 0, 0), (1, 0, 0, 0, 16)] := And.intro ⟨_, dX5_gatherSources_55, rfl⟩ (And.intro ⟨_, dX5_gatherSources_56, by decide⟩ trivial)
theorem bX5_gatherSources_61_69 : okB cX5_gatherSources RX5 61 [(5, 0, 0, 0, 0), (23, 22, 5, 4, 0), (3, 1, 0, 0, 0), (0, 0, 0, 0, 1), (3, 3, 0, 0, 0), (18, 0, 0, 0, 0)] := And.intro ⟨_, dX5_gatherSources_61, rfl⟩ (And.intro ⟨dX5_gatherSources_62, fl_X5_22⟩ (And.intro ⟨_, dX5_gatherSources_65, rfl⟩ (And.intro ⟨_, dX5_gatherSources_66, by decide⟩ (And.intro ⟨_, dX5_gatherSources_67, rfl⟩ (And.intro dX5_gatherSources_68 trivial)))))
theorem bX5_gatherSources_70_77 : okB cX5_gatherSources RX5 70 [(5, 0, 0, 0, 0), (23, 25, 5, 5, 0), (3, 1, 0, 0, 0), (4, 4, 0, 0, 0)] := And.intro ⟨_, dX5_gatherSources_70, rfl⟩ (And.intro ⟨dX5_gatherSources_71, fl_X5_25⟩ (And.intro ⟨_, dX5_gatherSources_74, rfl⟩ (And.intro dX5_gatherSources_75 trivial)))
theorem bX5_gatherSources_78_84 : okB cX5_gatherSources RX5 78 [(11, 1, 0, 0, 1), (11, 3, 0, 0, 1)] := And.intro ⟨_, dX5_gatherSources_78, by decide⟩ (And.intro ⟨_, dX5_gatherSources_81, by decide⟩ trivial)
set_option maxHeartbeats 4000000 in
set_option maxRecDepth 100000 in
theorem k_X5_gatherSources (l : Launch) (D : va_G) (ads : AD) (I A : HI) (po : Option AV → HI → HI → Prop) (Iv4 : Int32 → Int32 → HI → Prop) (mu4 : Int32 → Int32 → HI → Nat) (Iv21 : Int32 → Int32 → HI → Int32 → Int32 → HI → Prop) (mu21 : Int32 → Int32 → HI → Int32 → Int32 → HI → Nat)
    (hv : (Iv4 0 0 A ∧ ∀ (x1_4 : Int32) (x2_4 : Int32) (A_4 : HI), Iv4 x1_4 x2_4 A_4 → (((I 3 2) ≤ x2_4 → (vp_in (I 3 2) 11 ∧ po none I (up2 A_4 5 (I 3 2).toNatClampNeg x1_4))) ∧ (¬ (I 3 2) ≤ x2_4 → (vp_in x2_4 11 ∧ (Iv21 x1_4 x2_4 A_4 x1_4 0 (up2 A_4 5 x2_4.toNatClampNeg x1_4) ∧ ∀ (x1_21 : Int32) (x3_21 : Int32) (A_21 : HI), Iv21 x1_4 x2_4 A_4 x1_21 x3_21 A_21 → (((I 3 2) ≤ x3_21 → (Iv4 x1_21 (x2_4 + 1) A_21 ∧ mu4 x1_21 (x2_4 + 1) A_21 < mu4 x1_4 x2_4 A_4)) ∧ (¬ (I 3 2) ≤ x3_21 → (vp_in x3_21 10 ∧ (vp_in x2_4 10 ∧ (((btw A_21 (A_21 4 x3_21.toNatClampNeg) (A_21 4 x2_4.toNatClampNeg)) ≤ 0 → (Iv21 x1_4 x2_4 A_4 x1_21 (x3_21 + 1) A_21 ∧ mu21 x1_4 x2_4 A_4 x1_21 (x3_21 + 1) A_21 < mu21 x1_4 x2_4 A_4 x1_21 x3_21 A_21)) ∧ (¬ (btw A_21 (A_21 4 x3_21.toNatClampNeg) (A_21 4 x2_4.toNatClampNeg)) ≤ 0 → ((16 ≤ x1_21 → (Iv21 x1_4 x2_4 A_4 x1_21 (x3_21 + 1) A_21 ∧ mu21 x1_4 x2_4 A_4 x1_21 (x3_21 + 1) A_21 < mu21 x1_4 x2_4 A_4 x1_21 x3_21 A_21)) ∧ (¬ 16 ≤ x1_21 → (vp_in x1_21 16 ∧ (vp_in x1_21 16 ∧ (Iv21 x1_4 x2_4 A_4 (x1_21 + 1) (x3_21 + 1) (up2 (up2 A_21 6 x1_21.toNatClampNeg (1 <<< (x3_21 &&& 31))) 7 x1_21.toNatClampNeg (btw A_21 (A_21 4 x3_21.toNatClampNeg) (A_21 4 x2_4.toNatClampNeg))) ∧ mu21 x1_4 x2_4 A_4 (x1_21 + 1) (x3_21 + 1) (up2 (up2 A_21 6 x1_21.toNatClampNeg (1 <<< (x3_21 &&& 31))) 7 x1_21.toNatClampNeg (btw A_21 (A_21 4 x3_21.toNatClampNeg) (A_21 4 x2_4.toNatClampNeg))) < mu21 x1_4 x2_4 A_4 x1_21 x3_21 A_21))))))))))))))))) : Ct l yX5_gatherSources cX5_gatherSources 5 none 2 43 D ads shp [.inr (some 3)] I A po := by
  refine Ct_of (by decide) (Nat.le_of_ble_eq_true rfl) ?_
  intro p e s m args below meth c hC hr
  replace hC : CX p s m args meth c cX5_gatherSources 5 RX5 (AdS ads s.heap.size) := hC
  show Gm p l e s m args below meth c D ads 2 43 5 po I A 0 [some (.inr (some 3)), none, none, none, none] []
  refine g_blk hC _ bX5_gatherSources_0_4 (pc' := 4) (ls' := [some (.inr (some 3)), some (.inl 0), some (.inl 0), none, none]) (st' := []) (I' := I) rfl rfl ?_
  obtain ⟨hi4, hb4⟩ := hv
  have L4 : ∀ (n : Nat) (x1_4 : Int32) (x2_4 : Int32) (A_4 : HI), Iv4 x1_4 x2_4 A_4 → mu4 x1_4 x2_4 A_4 < n → Gm p l e s m args below meth c D ads 2 43 5 po I A_4 4 [some (.inr (some 3)), some (.inl x1_4), some (.inl x2_4), none, none] [] := by
    intro n
    induction n with
    | zero => intro x1_4 x2_4 A_4 _ hn; exact absurd hn (Nat.not_lt_zero _)
    | succ n ih4 =>
      intro x1_4 x2_4 A_4 hv hn4
      replace hv := hb4 x1_4 x2_4 A_4 hv
      skip
      refine g_blk hC _ bX5_gatherSources_4_9 (pc' := 9) (ls' := [some (.inr (some 3)), some (.inl x1_4), some (.inl x2_4), none, none]) (st' := [.inl (I 3 2), .inl x2_4]) (I' := I) rfl rfl ?_
      obtain ⟨hv1, hv2⟩ := hv
      refine g_cge hC dX5_gatherSources_9 (tgt := 93) (by decide) (fun hc => ?_) (fun hc => ?_)
      · have hv := hv1 hc
        clear hv1 hv2 hc
        refine g_blk hC _ bX5_gatherSources_93_102 (pc' := 102) (ls' := [some (.inr (some 3)), some (.inl x1_4), some (.inl x2_4), none, none]) (st' := [.inl x1_4, .inl (I 3 2), .inr (some 5)]) (I' := I) rfl rfl ?_
        obtain ⟨hi, hv⟩ := hv
        refine g_iast hC dX5_gatherSources_102 (rfl) hi ?_
        clear hi
        exact g_retv hC hr dX5_gatherSources_103 hv
      · have hv := hv2 hc
        clear hv1 hv2 hc
        refine g_blk hC _ bX5_gatherSources_12_18 (pc' := 18) (ls' := [some (.inr (some 3)), some (.inl x1_4), some (.inl x2_4), none, none]) (st' := [.inl x1_4, .inl x2_4, .inr (some 5)]) (I' := I) rfl rfl ?_
        obtain ⟨hi, hv⟩ := hv
        refine g_iast hC dX5_gatherSources_18 (rfl) hi ?_
        clear hi
        refine g_blk hC _ bX5_gatherSources_19_21 (pc' := 21) (ls' := [some (.inr (some 3)), some (.inl x1_4), some (.inl x2_4), some (.inl 0), none]) (st' := []) (I' := I) rfl rfl ?_
        obtain ⟨hi21, hb21⟩ := hv
        have L21 : ∀ (n : Nat) (x1_21 : Int32) (x3_21 : Int32) (A_21 : HI), Iv21 x1_4 x2_4 A_4 x1_21 x3_21 A_21 → mu21 x1_4 x2_4 A_4 x1_21 x3_21 A_21 < n → Gm p l e s m args below meth c D ads 2 43 5 po I A_21 21 [some (.inr (some 3)), some (.inl x1_21), some (.inl x2_4), some (.inl x3_21), none] [] := by
          intro n
          induction n with
          | zero => intro x1_21 x3_21 A_21 _ hn; exact absurd hn (Nat.not_lt_zero _)
          | succ n ih21 =>
            intro x1_21 x3_21 A_21 hv hn21
            replace hv := hb21 x1_21 x3_21 A_21 hv
            skip
            refine g_blk hC _ bX5_gatherSources_21_26 (pc' := 26) (ls' := [some (.inr (some 3)), some (.inl x1_21), some (.inl x2_4), some (.inl x3_21), none]) (st' := [.inl (I 3 2), .inl x3_21]) (I' := I) rfl rfl ?_
            obtain ⟨hv1, hv2⟩ := hv
            refine g_cge hC dX5_gatherSources_26 (tgt := 87) (by decide) (fun hc => ?_) (fun hc => ?_)
            · have hv := hv1 hc
              clear hv1 hv2 hc
              refine g_blk hC _ bX5_gatherSources_87_90 (pc' := 90) (ls' := [some (.inr (some 3)), some (.inl x1_21), some (.inl (x2_4 + 1)), some (.inl x3_21), none]) (st' := []) (I' := I) rfl rfl ?_
              refine g_goto hC dX5_gatherSources_90 (tgt := 4) (by decide) ?_
              exact g_weak (ls1 := [some (.inr (some 3)), some (.inl x1_21), some (.inl (x2_4 + 1)), none, none]) rfl (And.intro rfl (And.intro rfl (And.intro rfl trivial))) (ih4 x1_21 (x2_4 + 1) A_21 hv.1 (Nat.lt_of_lt_of_le hv.2 (Nat.le_of_lt_succ hn4)))
            · have hv := hv2 hc
              clear hv1 hv2 hc
              refine g_blk hC _ bX5_gatherSources_29_38 (pc' := 38) (ls' := [some (.inr (some 3)), some (.inl x1_21), some (.inl x2_4), some (.inl x3_21), none]) (st' := [.inl x3_21, .inr (some 4), .inr (some 1)]) (I' := I) rfl rfl ?_
              obtain ⟨hi, hv⟩ := hv
              refine g_iald hC dX5_gatherSources_38 (rfl) hi ?_
              clear hi
              refine g_blk hC _ bX5_gatherSources_39_44 (pc' := 44) (ls' := [some (.inr (some 3)), some (.inl x1_21), some (.inl x2_4), some (.inl x3_21), none]) (st' := [.inl x2_4, .inr (some 4), .inl (A_21 4 x3_21.toNatClampNeg), .inr (some 1)]) (I' := I) rfl rfl ?_
              obtain ⟨hi, hv⟩ := hv
              refine g_iald hC dX5_gatherSources_44 (rfl) hi ?_
              clear hi
              refine g_callV hC (c_X2_between l D ads I A_21 (A_21 4 x3_21.toNatClampNeg) (A_21 4 x2_4.toNatClampNeg)) dX5_gatherSources_45 nm_X2_between rfl rfl wl_X5_84 wi_X2_between ws_X2_between wn_X2 wc_X2_between ⟨by decide, by decide⟩ (as := [.inl (A_21 4 x3_21.toNatClampNeg), .inl (A_21 4 x2_4.toNatClampNeg)]) (rest := []) rfl (Nat.le_of_ble_eq_true rfl) ⟨Nat.le_refl _, Nat.le_refl _⟩ (k_qI ?_)
              refine g_blk hC _ bX5_gatherSources_48_52 (pc' := 52) (ls' := [some (.inr (some 3)), some (.inl x1_21), some (.inl x2_4), some (.inl x3_21), some (.inl (btw A_21 (A_21 4 x3_21.toNatClampNeg) (A_21 4 x2_4.toNatClampNeg)))]) (st' := [.inl (btw A_21 (A_21 4 x3_21.toNatClampNeg) (A_21 4 x2_4.toNatClampNeg))]) (I' := I) rfl rfl ?_
              obtain ⟨hv1, hv2⟩ := hv
              refine g_ifle hC dX5_gatherSources_52 (tgt := 81) (by decide) (fun hc => ?_) (fun hc => ?_)
              · have hv := hv1 hc
                clear hv1 hv2 hc
                refine g_blk hC _ bX5_gatherSources_81_84 (pc' := 84) (ls' := [some (.inr (some 3)), some (.inl x1_21), some (.inl x2_4), some (.inl (x3_21 + 1)), some (.inl (btw A_21 (A_21 4 x3_21.toNatClampNeg) (A_21 4 x2_4.toNatClampNeg)))]) (st' := []) (I' := I) rfl rfl ?_
                refine g_goto hC dX5_gatherSources_84 (tgt := 21) (by decide) ?_
                exact g_weak (ls1 := [some (.inr (some 3)), some (.inl x1_21), some (.inl x2_4), some (.inl (x3_21 + 1)), none]) rfl (And.intro rfl (And.intro rfl (And.intro rfl (And.intro rfl trivial)))) (ih21 x1_21 (x3_21 + 1) A_21 hv.1 (Nat.lt_of_lt_of_le hv.2 (Nat.le_of_lt_succ hn21)))
              · have hv := hv2 hc
                clear hv1 hv2 hc
                refine g_blk hC _ bX5_gatherSources_55_58 (pc' := 58) (ls' := [some (.inr (some 3)), some (.inl x1_21), some (.inl x2_4), some (.inl x3_21), some (.inl (btw A_21 (A_21 4 x3_21.toNatClampNeg) (A_21 4 x2_4.toNatClampNeg)))]) (st' := [.inl 16, .inl x1_21]) (I' := I) rfl rfl ?_
                obtain ⟨hv1, hv2⟩ := hv
                refine g_cge hC dX5_gatherSources_58 (tgt := 81) (by decide) (fun hc => ?_) (fun hc => ?_)
                · have hv := hv1 hc
                  clear hv1 hv2 hc
                  refine g_blk hC _ bX5_gatherSources_81_84 (pc' := 84) (ls' := [some (.inr (some 3)), some (.inl x1_21), some (.inl x2_4), some (.inl (x3_21 + 1)), some (.inl (btw A_21 (A_21 4 x3_21.toNatClampNeg) (A_21 4 x2_4.toNatClampNeg)))]) (st' := []) (I' := I) rfl rfl ?_
                  refine g_goto hC dX5_gatherSources_84 (tgt := 21) (by decide) ?_
                  exact g_weak (ls1 := [some (.inr (some 3)), some (.inl x1_21), some (.inl x2_4), some (.inl (x3_21 + 1)), none]) rfl (And.intro rfl (And.intro rfl (And.intro rfl (And.intro rfl trivial)))) (ih21 x1_21 (x3_21 + 1) A_21 hv.1 (Nat.lt_of_lt_of_le hv.2 (Nat.le_of_lt_succ hn21)))
                · have hv := hv2 hc
                  clear hv1 hv2 hc
                  refine g_blk hC _ bX5_gatherSources_61_69 (pc' := 69) (ls' := [some (.inr (some 3)), some (.inl x1_21), some (.inl x2_4), some (.inl x3_21), some (.inl (btw A_21 (A_21 4 x3_21.toNatClampNeg) (A_21 4 x2_4.toNatClampNeg)))]) (st' := [.inl (1 <<< (x3_21 &&& 31)), .inl x1_21, .inr (some 6)]) (I' := I) rfl rfl ?_
                  obtain ⟨hi, hv⟩ := hv
                  refine g_iast hC dX5_gatherSources_69 (rfl) hi ?_
                  clear hi
                  refine g_blk hC _ bX5_gatherSources_70_77 (pc' := 77) (ls' := [some (.inr (some 3)), some (.inl x1_21), some (.inl x2_4), some (.inl x3_21), some (.inl (btw A_21 (A_21 4 x3_21.toNatClampNeg) (A_21 4 x2_4.toNatClampNeg)))]) (st' := [.inl (btw A_21 (A_21 4 x3_21.toNatClampNeg) (A_21 4 x2_4.toNatClampNeg)), .inl x1_21, .inr (some 7)]) (I' := I) rfl rfl ?_
                  obtain ⟨hi, hv⟩ := hv
                  refine g_iast hC dX5_gatherSources_77 (rfl) hi ?_
                  clear hi
                  refine g_blk hC _ bX5_gatherSources_78_84 (pc' := 84) (ls' := [some (.inr (some 3)), some (.inl (x1_21 + 1)), some (.inl x2_4), some (.inl (x3_21 + 1)), some (.inl (btw A_21 (A_21 4 x3_21.toNatClampNeg) (A_21 4 x2_4.toNatClampNeg)))]) (st' := []) (I' := I) rfl rfl ?_
                  refine g_goto hC dX5_gatherSources_84 (tgt := 21) (by decide) ?_
                  exact g_weak (ls1 := [some (.inr (some 3)), some (.inl (x1_21 + 1)), some (.inl x2_4), some (.inl (x3_21 + 1)), none]) rfl (And.intro rfl (And.intro rfl (And.intro rfl (And.intro rfl trivial)))) (ih21 (x1_21 + 1) (x3_21 + 1) (up2 (up2 A_21 6 x1_21.toNatClampNeg (1 <<< (x3_21 &&& 31))) 7 x1_21.toNatClampNeg (btw A_21 (A_21 4 x3_21.toNatClampNeg) (A_21 4 x2_4.toNatClampNeg))) hv.1 (Nat.lt_of_lt_of_le hv.2 (Nat.le_of_lt_succ hn21)))
        exact g_weak (ls1 := [some (.inr (some 3)), some (.inl x1_4), some (.inl x2_4), some (.inl 0), none]) rfl (And.intro rfl (And.intro rfl (And.intro rfl (And.intro rfl trivial)))) (L21 _ x1_4 0 (up2 A_4 5 x2_4.toNatClampNeg x1_4) hi21 (Nat.lt_succ_self _))
  exact g_weak (ls1 := [some (.inr (some 3)), some (.inl 0), some (.inl 0), none, none]) rfl (And.intro rfl (And.intro rfl (And.intro rfl trivial))) (L4 _ 0 0 A hi4 (Nat.lt_succ_self _))
theorem bX5_sumWithFirst_0_5 : okB cX5_sumWithFirst RX5 0 [(5, 0, 0, 0, 0), (23, 28, 5, 6, 0), (3, 2, 0, 0, 0)] := And.intro ⟨_, dX5_sumWithFirst_0, rfl⟩ (And.intro ⟨dX5_sumWithFirst_1, fl_X5_28⟩ (And.intro ⟨_, dX5_sumWithFirst_4, rfl⟩ trivial))
theorem bX5_sumWithFirst_6_12 : okB cX5_sumWithFirst RX5 6 [(7, 3, 0, 0, 0), (5, 0, 0, 0, 0), (23, 19, 5, 3, 0), (3, 1, 0, 0, 0)] := And.intro ⟨_, dX5_sumWithFirst_6, rfl⟩ (And.intro ⟨_, dX5_sumWithFirst_7, rfl⟩ (And.intro ⟨dX5_sumWithFirst_8, fl_X5_19⟩ (And.intro ⟨_, dX5_sumWithFirst_11, rfl⟩ trivial)))
theorem bX5_sumWithFirst_13_15 : okB cX5_sumWithFirst RX5 13 [(8, 4, 0, 0, 0)] := And.intro dX5_sumWithFirst_13 trivial
theorem bX5_sumWithFirst_15_24 : okB cX5_sumWithFirst RX5 15 [(4, 4, 0, 0, 0), (5, 0, 0, 0, 0), (23, 19, 5, 3, 0), (3, 1, 0, 0, 0), (0, 0, 0, 0, 1), (12, 0, 0, 0, 0)] := And.intro dX5_sumWithFirst_15 (And.intro ⟨_, dX5_sumWithFirst_17, rfl⟩ (And.intro ⟨dX5_sumWithFirst_18, fl_X5_19⟩ (And.intro ⟨_, dX5_sumWithFirst_21, rfl⟩ (And.intro ⟨_, dX5_sumWithFirst_22, by decide⟩ (And.intro dX5_sumWithFirst_23 trivial)))))
theorem bX5_sumWithFirst_56_57 : okB cX5_sumWithFirst RX5 56 [(3, 3, 0, 0, 0)] := And.intro ⟨_, dX5_sumWithFirst_56, rfl⟩ trivial
theorem bX5_sumWithFirst_28_35 : okB cX5_sumWithFirst RX5 28 [(3, 2, 0, 0, 0), (5, 0, 0, 0, 0), (23, 22, 5, 4, 0), (4, 4, 0, 0, 0)] := And.intro ⟨_, dX5_sumWithFirst_28, rfl⟩ (And.intro ⟨_, dX5_sumWithFirst_29, rfl⟩ (And.intro ⟨dX5_sumWithFirst_30, fl_X5_22⟩ (And.intro dX5_sumWithFirst_33 trivial)))
theorem bX5_sumWithFirst_36_37 : okB cX5_sumWithFirst RX5 36 [(15, 0, 0, 0, 0)] := And.intro dX5_sumWithFirst_36 trivial
theorem bX5_sumWithFirst_50_53 : okB cX5_sumWithFirst RX5 50 [(11, 4, 0, 0, 1)] := And.intro ⟨_, dX5_sumWithFirst_50, by decide⟩ trivial
theorem bX5_sumWithFirst_40_47 : okB cX5_sumWithFirst RX5 40 [(3, 3, 0, 0, 0), (5, 0, 0, 0, 0), (23, 25, 5, 5, 0), (4, 4, 0, 0, 0)] := And.intro ⟨_, dX5_sumWithFirst_40, rfl⟩ (And.intro ⟨_, dX5_sumWithFirst_41, rfl⟩ (And.intro ⟨dX5_sumWithFirst_42, fl_X5_25⟩ (And.intro dX5_sumWithFirst_45 trivial)))
theorem bX5_sumWithFirst_48_53 : okB cX5_sumWithFirst RX5 48 [(12, 0, 0, 0, 0), (7, 3, 0, 0, 0), (11, 4, 0, 0, 1)] := And.intro dX5_sumWithFirst_48 (And.intro ⟨_, dX5_sumWithFirst_49, rfl⟩ (And.intro ⟨_, dX5_sumWithFirst_50, by decide⟩ trivial))
set_option maxHeartbeats 4000000 in
set_option maxRecDepth 100000 in
theorem k_X5_sumWithFirst (l : Launch) (D : va_G) (ads : AD) (I A : HI) (a1 : Int32) (a2 : Int32) (po : Option AV → HI → HI → Prop) (Iv15 : Int32 → Int32 → Prop) (mu15 : Int32 → Int32 → Nat)
    (hv : (vp_in a2 1024 ∧ (vp_in a1 11 ∧ (Iv15 (A 8 a2.toNatClampNeg) (A 5 a1.toNatClampNeg) ∧ ∀ (x3_15 : Int32) (x4_15 : Int32), Iv15 x3_15 x4_15 → (vp_in (a1 + 1) 11 ∧ (((A 5 (a1 + 1).toNatClampNeg) ≤ x4_15 → po (some (.inl x3_15)) I A) ∧ (¬ (A 5 (a1 + 1).toNatClampNeg) ≤ x4_15 → (vp_in x4_15 16 ∧ (((a2 &&& (A 6 x4_15.toNatClampNeg)) = 0 → (Iv15 x3_15 (x4_15 + 1) ∧ mu15 x3_15 (x4_15 + 1) < mu15 x3_15 x4_15)) ∧ (¬ (a2 &&& (A 6 x4_15.toNatClampNeg)) = 0 → (vp_in x4_15 16 ∧ (Iv15 (x3_15 + (A 7 x4_15.toNatClampNeg)) (x4_15 + 1) ∧ mu15 (x3_15 + (A 7 x4_15.toNatClampNeg)) (x4_15 + 1) < mu15 x3_15 x4_15)))))))))))) : Ct l yX5_sumWithFirst cX5_sumWithFirst 5 (some .int) 0 0 D ads shp [.inr (some 3), .inl a1, .inl a2] I A po := by
  refine Ct_of (by decide) (Nat.le_of_ble_eq_true rfl) ?_
  intro p e s m args below meth c hC hr
  replace hC : CX p s m args meth c cX5_sumWithFirst 5 RX5 (AdS ads s.heap.size) := hC
  show Gm p l e s m args below meth c D ads 0 0 5 po I A 0 [some (.inr (some 3)), some (.inl a1), some (.inl a2), none, none] []
  refine g_blk hC _ bX5_sumWithFirst_0_5 (pc' := 5) (ls' := [some (.inr (some 3)), some (.inl a1), some (.inl a2), none, none]) (st' := [.inl a2, .inr (some 8)]) (I' := I) rfl rfl ?_
  obtain ⟨hi, hv⟩ := hv
  refine g_iald hC dX5_sumWithFirst_5 (rfl) hi ?_
  clear hi
  refine g_blk hC _ bX5_sumWithFirst_6_12 (pc' := 12) (ls' := [some (.inr (some 3)), some (.inl a1), some (.inl a2), some (.inl (A 8 a2.toNatClampNeg)), none]) (st' := [.inl a1, .inr (some 5)]) (I' := I) rfl rfl ?_
  obtain ⟨hi, hv⟩ := hv
  refine g_iald hC dX5_sumWithFirst_12 (rfl) hi ?_
  clear hi
  refine g_blk hC _ bX5_sumWithFirst_13_15 (pc' := 15) (ls' := [some (.inr (some 3)), some (.inl a1), some (.inl a2), some (.inl (A 8 a2.toNatClampNeg)), some (.inl (A 5 a1.toNatClampNeg))]) (st' := []) (I' := I) rfl rfl ?_
  obtain ⟨hi15, hb15⟩ := hv
  have L15 : ∀ (n : Nat) (x3_15 : Int32) (x4_15 : Int32), Iv15 x3_15 x4_15 → mu15 x3_15 x4_15 < n → Gm p l e s m args below meth c D ads 0 0 5 po I A 15 [some (.inr (some 3)), some (.inl a1), some (.inl a2), some (.inl x3_15), some (.inl x4_15)] [] := by
    intro n
    induction n with
    | zero => intro x3_15 x4_15 _ hn; exact absurd hn (Nat.not_lt_zero _)
    | succ n ih15 =>
      intro x3_15 x4_15 hv hn15
      replace hv := hb15 x3_15 x4_15 hv
      skip
      refine g_blk hC _ bX5_sumWithFirst_15_24 (pc' := 24) (ls' := [some (.inr (some 3)), some (.inl a1), some (.inl a2), some (.inl x3_15), some (.inl x4_15)]) (st' := [.inl (a1 + 1), .inr (some 5), .inl x4_15]) (I' := I) rfl rfl ?_
      obtain ⟨hi, hv⟩ := hv
      refine g_iald hC dX5_sumWithFirst_24 (rfl) hi ?_
      clear hi
      obtain ⟨hv1, hv2⟩ := hv
      refine g_cge hC dX5_sumWithFirst_25 (tgt := 56) (by decide) (fun hc => ?_) (fun hc => ?_)
      · have hv := hv1 hc
        clear hv1 hv2 hc
        refine g_blk hC _ bX5_sumWithFirst_56_57 (pc' := 57) (ls' := [some (.inr (some 3)), some (.inl a1), some (.inl a2), some (.inl x3_15), some (.inl x4_15)]) (st' := [.inl x3_15]) (I' := I) rfl rfl ?_
        exact g_reti hC hr rfl dX5_sumWithFirst_57 hv
      · have hv := hv2 hc
        clear hv1 hv2 hc
        refine g_blk hC _ bX5_sumWithFirst_28_35 (pc' := 35) (ls' := [some (.inr (some 3)), some (.inl a1), some (.inl a2), some (.inl x3_15), some (.inl x4_15)]) (st' := [.inl x4_15, .inr (some 6), .inl a2]) (I' := I) rfl rfl ?_
        obtain ⟨hi, hv⟩ := hv
        refine g_iald hC dX5_sumWithFirst_35 (rfl) hi ?_
        clear hi
        refine g_blk hC _ bX5_sumWithFirst_36_37 (pc' := 37) (ls' := [some (.inr (some 3)), some (.inl a1), some (.inl a2), some (.inl x3_15), some (.inl x4_15)]) (st' := [.inl (a2 &&& (A 6 x4_15.toNatClampNeg))]) (I' := I) rfl rfl ?_
        obtain ⟨hv1, hv2⟩ := hv
        refine g_ifeq hC dX5_sumWithFirst_37 (tgt := 50) (by decide) (fun hc => ?_) (fun hc => ?_)
        · have hv := hv1 hc
          clear hv1 hv2 hc
          refine g_blk hC _ bX5_sumWithFirst_50_53 (pc' := 53) (ls' := [some (.inr (some 3)), some (.inl a1), some (.inl a2), some (.inl x3_15), some (.inl (x4_15 + 1))]) (st' := []) (I' := I) rfl rfl ?_
          refine g_goto hC dX5_sumWithFirst_53 (tgt := 15) (by decide) ?_
          exact g_weak (ls1 := [some (.inr (some 3)), some (.inl a1), some (.inl a2), some (.inl x3_15), some (.inl (x4_15 + 1))]) rfl (And.intro rfl (And.intro rfl (And.intro rfl (And.intro rfl (And.intro rfl trivial))))) (ih15 x3_15 (x4_15 + 1) hv.1 (Nat.lt_of_lt_of_le hv.2 (Nat.le_of_lt_succ hn15)))
        · have hv := hv2 hc
          clear hv1 hv2 hc
          refine g_blk hC _ bX5_sumWithFirst_40_47 (pc' := 47) (ls' := [some (.inr (some 3)), some (.inl a1), some (.inl a2), some (.inl x3_15), some (.inl x4_15)]) (st' := [.inl x4_15, .inr (some 7), .inl x3_15]) (I' := I) rfl rfl ?_
          obtain ⟨hi, hv⟩ := hv
          refine g_iald hC dX5_sumWithFirst_47 (rfl) hi ?_
          clear hi
          refine g_blk hC _ bX5_sumWithFirst_48_53 (pc' := 53) (ls' := [some (.inr (some 3)), some (.inl a1), some (.inl a2), some (.inl (x3_15 + (A 7 x4_15.toNatClampNeg))), some (.inl (x4_15 + 1))]) (st' := []) (I' := I) rfl rfl ?_
          refine g_goto hC dX5_sumWithFirst_53 (tgt := 15) (by decide) ?_
          exact g_weak (ls1 := [some (.inr (some 3)), some (.inl a1), some (.inl a2), some (.inl (x3_15 + (A 7 x4_15.toNatClampNeg))), some (.inl (x4_15 + 1))]) rfl (And.intro rfl (And.intro rfl (And.intro rfl (And.intro rfl (And.intro rfl trivial))))) (ih15 (x3_15 + (A 7 x4_15.toNatClampNeg)) (x4_15 + 1) hv.1 (Nat.lt_of_lt_of_le hv.2 (Nat.le_of_lt_succ hn15)))
  exact g_weak (ls1 := [some (.inr (some 3)), some (.inl a1), some (.inl a2), some (.inl (A 8 a2.toNatClampNeg)), some (.inl (A 5 a1.toNatClampNeg))]) rfl (And.intro rfl (And.intro rfl (And.intro rfl (And.intro rfl (And.intro rfl trivial))))) (L15 _ (A 8 a2.toNatClampNeg) (A 5 a1.toNatClampNeg) hi15 (Nat.lt_succ_self _))
theorem bX5_weighSets_0_6 : okB cX5_weighSets RX5 0 [(5, 0, 0, 0, 0), (23, 28, 5, 6, 0), (0, 0, 0, 0, 0), (0, 0, 0, 0, 0)] := And.intro ⟨_, dX5_weighSets_0, rfl⟩ (And.intro ⟨dX5_weighSets_1, fl_X5_28⟩ (And.intro ⟨_, dX5_weighSets_4, by decide⟩ (And.intro ⟨_, dX5_weighSets_5, by decide⟩ trivial)))
theorem bX5_weighSets_7_9 : okB cX5_weighSets RX5 7 [(0, 0, 0, 0, 1), (7, 1, 0, 0, 0)] := And.intro ⟨_, dX5_weighSets_7, by decide⟩ (And.intro ⟨_, dX5_weighSets_8, rfl⟩ trivial)
theorem bX5_weighSets_9_16 : okB cX5_weighSets RX5 9 [(3, 1, 0, 0, 0), (0, 0, 0, 0, 1), (5, 0, 0, 0, 0), (23, 15, 5, 2, 0), (18, 0, 0, 0, 0)] := And.intro ⟨_, dX5_weighSets_9, rfl⟩ (And.intro ⟨_, dX5_weighSets_10, by decide⟩ (And.intro ⟨_, dX5_weighSets_11, rfl⟩ (And.intro ⟨dX5_weighSets_12, fl_X5_15⟩ (And.intro dX5_weighSets_15 trivial))))
theorem bX5_weighSets_19_24 : okB cX5_weighSets RX5 19 [(26, 90, 0, 0, 2147483647), (7, 2, 0, 0, 0), (0, 0, 0, 0, 0), (7, 3, 0, 0, 0)] := And.intro ⟨dX5_weighSets_19, wk_X5_90⟩ (And.intro ⟨_, dX5_weighSets_21, rfl⟩ (And.intro ⟨_, dX5_weighSets_22, by decide⟩ (And.intro ⟨_, dX5_weighSets_23, rfl⟩ trivial)))
theorem bX5_weighSets_24_29 : okB cX5_weighSets RX5 24 [(3, 3, 0, 0, 0), (5, 0, 0, 0, 0), (23, 15, 5, 2, 0)] := And.intro ⟨_, dX5_weighSets_24, rfl⟩ (And.intro ⟨_, dX5_weighSets_25, rfl⟩ (And.intro ⟨dX5_weighSets_26, fl_X5_15⟩ trivial))
theorem bX5_weighSets_64_70 : okB cX5_weighSets RX5 64 [(5, 0, 0, 0, 0), (23, 28, 5, 6, 0), (3, 1, 0, 0, 0), (3, 2, 0, 0, 0)] := And.intro ⟨_, dX5_weighSets_64, rfl⟩ (And.intro ⟨dX5_weighSets_65, fl_X5_28⟩ (And.intro ⟨_, dX5_weighSets_68, rfl⟩ (And.intro ⟨_, dX5_weighSets_69, rfl⟩ trivial)))
theorem bX5_weighSets_71_74 : okB cX5_weighSets RX5 71 [(11, 1, 0, 0, 1)] := And.intro ⟨_, dX5_weighSets_71, by decide⟩ trivial
theorem bX5_weighSets_32_41 : okB cX5_weighSets RX5 32 [(0, 0, 0, 0, 1), (3, 3, 0, 0, 0), (18, 0, 0, 0, 0), (8, 4, 0, 0, 0), (3, 1, 0, 0, 0), (4, 4, 0, 0, 0), (15, 0, 0, 0, 0)] := And.intro ⟨_, dX5_weighSets_32, by decide⟩ (And.intro ⟨_, dX5_weighSets_33, rfl⟩ (And.intro dX5_weighSets_34 (And.intro dX5_weighSets_35 (And.intro ⟨_, dX5_weighSets_37, rfl⟩ (And.intro dX5_weighSets_38 (And.intro dX5_weighSets_40 trivial))))))
theorem bX5_weighSets_58_61 : okB cX5_weighSets RX5 58 [(11, 3, 0, 0, 1)] := And.intro ⟨_, dX5_weighSets_58, by decide⟩ trivial
theorem bX5_weighSets_44_51 : okB cX5_weighSets RX5 44 [(3, 2, 0, 0, 0), (5, 0, 0, 0, 0), (3, 3, 0, 0, 0), (3, 1, 0, 0, 0), (4, 4, 0, 0, 0), (17, 0, 0, 0, 0)] := And.intro ⟨_, dX5_weighSets_44, rfl⟩ (And.intro ⟨_, dX5_weighSets_45, rfl⟩ (And.intro ⟨_, dX5_weighSets_46, rfl⟩ (And.intro ⟨_, dX5_weighSets_47, rfl⟩ (And.intro dX5_weighSets_48 (And.intro dX5_weighSets_50 trivial)))))
theorem bX5_weighSets_57_61 : okB cX5_weighSets RX5 57 [(7, 2, 0, 0, 0), (11, 3, 0, 0, 1)] := And.intro ⟨_, dX5_weighSets_57, rfl⟩ (And.intro ⟨_, dX5_weighSets_58, by decide⟩ trivial)
set_option maxHeartbeats 4000000 in
set_option maxRecDepth 100000 in
theorem k_X5_weighSets (l : Launch) (D : va_G) (ads : AD) (I A : HI) (po : Option AV → HI → HI → Prop) {pp_X5_sumWithFirst : HI → HI → Int32 → Int32 → Prop} {ff_X5_sumWithFirst : HI → HI → Int32 → Int32 → Int32} (hh_X5_sumWithFirst : ∀ (I A : HI) (a1 : Int32) (a2 : Int32), pp_X5_sumWithFirst I A a1 a2 → Ct l yX5_sumWithFirst cX5_sumWithFirst 5 (some .int) 0 0 D ads shp [.inr (some 3), .inl a1, .inl a2] I A (qI (ff_X5_sumWithFirst I A a1 a2) I A)) (Iv9 : Int32 → HI → Prop) (mu9 : Int32 → HI → Nat) (Iv24 : Int32 → HI → Int32 → Int32 → Prop) (mu24 : Int32 → HI → Int32 → Int32 → Nat)
    (hv : (vp_in (0 : Int32) 1024 ∧ (Iv9 1 (up2 A 8 (0 : Int32).toNatClampNeg 0) ∧ ∀ (x1_9 : Int32) (A_9 : HI), Iv9 x1_9 A_9 → (((1 <<< ((I 3 2) &&& 31)) ≤ x1_9 → po none I A_9) ∧ (¬ (1 <<< ((I 3 2) &&& 31)) ≤ x1_9 → (Iv24 x1_9 A_9 2147483647 0 ∧ ∀ (x2_24 : Int32) (x3_24 : Int32), Iv24 x1_9 A_9 x2_24 x3_24 → (((I 3 2) ≤ x3_24 → (vp_in x1_9 1024 ∧ (Iv9 (x1_9 + 1) (up2 A_9 8 x1_9.toNatClampNeg x2_24) ∧ mu9 (x1_9 + 1) (up2 A_9 8 x1_9.toNatClampNeg x2_24) < mu9 x1_9 A_9))) ∧ (¬ (I 3 2) ≤ x3_24 → (((x1_9 &&& (1 <<< (x3_24 &&& 31))) = 0 → (Iv24 x1_9 A_9 x2_24 (x3_24 + 1) ∧ mu24 x1_9 A_9 x2_24 (x3_24 + 1) < mu24 x1_9 A_9 x2_24 x3_24)) ∧ (¬ (x1_9 &&& (1 <<< (x3_24 &&& 31))) = 0 → ((pp_X5_sumWithFirst I A_9 x3_24 (x1_9 ^^^ (1 <<< (x3_24 &&& 31)))) ∧ (Iv24 x1_9 A_9 (mnI x2_24 (ff_X5_sumWithFirst I A_9 x3_24 (x1_9 ^^^ (1 <<< (x3_24 &&& 31))))) (x3_24 + 1) ∧ mu24 x1_9 A_9 (mnI x2_24 (ff_X5_sumWithFirst I A_9 x3_24 (x1_9 ^^^ (1 <<< (x3_24 &&& 31))))) (x3_24 + 1) < mu24 x1_9 A_9 x2_24 x3_24)))))))))))) : Ct l yX5_weighSets cX5_weighSets 5 none 1 24 D ads shp [.inr (some 3)] I A po := by
  refine Ct_of (by decide) (Nat.le_of_ble_eq_true rfl) ?_
  intro p e s m args below meth c hC hr
  replace hC : CX p s m args meth c cX5_weighSets 5 RX5 (AdS ads s.heap.size) := hC
  show Gm p l e s m args below meth c D ads 1 24 5 po I A 0 [some (.inr (some 3)), none, none, none, none] []
  refine g_blk hC _ bX5_weighSets_0_6 (pc' := 6) (ls' := [some (.inr (some 3)), none, none, none, none]) (st' := [.inl 0, .inl 0, .inr (some 8)]) (I' := I) rfl rfl ?_
  obtain ⟨hi, hv⟩ := hv
  refine g_iast hC dX5_weighSets_6 (rfl) hi ?_
  clear hi
  refine g_blk hC _ bX5_weighSets_7_9 (pc' := 9) (ls' := [some (.inr (some 3)), some (.inl 1), none, none, none]) (st' := []) (I' := I) rfl rfl ?_
  obtain ⟨hi9, hb9⟩ := hv
  have L9 : ∀ (n : Nat) (x1_9 : Int32) (A_9 : HI), Iv9 x1_9 A_9 → mu9 x1_9 A_9 < n → Gm p l e s m args below meth c D ads 1 24 5 po I A_9 9 [some (.inr (some 3)), some (.inl x1_9), none, none, none] [] := by
    intro n
    induction n with
    | zero => intro x1_9 A_9 _ hn; exact absurd hn (Nat.not_lt_zero _)
    | succ n ih9 =>
      intro x1_9 A_9 hv hn9
      replace hv := hb9 x1_9 A_9 hv
      skip
      refine g_blk hC _ bX5_weighSets_9_16 (pc' := 16) (ls' := [some (.inr (some 3)), some (.inl x1_9), none, none, none]) (st' := [.inl (1 <<< ((I 3 2) &&& 31)), .inl x1_9]) (I' := I) rfl rfl ?_
      obtain ⟨hv1, hv2⟩ := hv
      refine g_cge hC dX5_weighSets_16 (tgt := 77) (by decide) (fun hc => ?_) (fun hc => ?_)
      · have hv := hv1 hc
        clear hv1 hv2 hc
        exact g_retv hC hr dX5_weighSets_77 hv
      · have hv := hv2 hc
        clear hv1 hv2 hc
        refine g_blk hC _ bX5_weighSets_19_24 (pc' := 24) (ls' := [some (.inr (some 3)), some (.inl x1_9), some (.inl 2147483647), some (.inl 0), none]) (st' := []) (I' := I) rfl rfl ?_
        obtain ⟨hi24, hb24⟩ := hv
        have L24 : ∀ (n : Nat) (x2_24 : Int32) (x3_24 : Int32), Iv24 x1_9 A_9 x2_24 x3_24 → mu24 x1_9 A_9 x2_24 x3_24 < n → Gm p l e s m args below meth c D ads 1 24 5 po I A_9 24 [some (.inr (some 3)), some (.inl x1_9), some (.inl x2_24), some (.inl x3_24), none] [] := by
          intro n
          induction n with
          | zero => intro x2_24 x3_24 _ hn; exact absurd hn (Nat.not_lt_zero _)
          | succ n ih24 =>
            intro x2_24 x3_24 hv hn24
            replace hv := hb24 x2_24 x3_24 hv
            skip
            refine g_blk hC _ bX5_weighSets_24_29 (pc' := 29) (ls' := [some (.inr (some 3)), some (.inl x1_9), some (.inl x2_24), some (.inl x3_24), none]) (st' := [.inl (I 3 2), .inl x3_24]) (I' := I) rfl rfl ?_
            obtain ⟨hv1, hv2⟩ := hv
            refine g_cge hC dX5_weighSets_29 (tgt := 64) (by decide) (fun hc => ?_) (fun hc => ?_)
            · have hv := hv1 hc
              clear hv1 hv2 hc
              refine g_blk hC _ bX5_weighSets_64_70 (pc' := 70) (ls' := [some (.inr (some 3)), some (.inl x1_9), some (.inl x2_24), some (.inl x3_24), none]) (st' := [.inl x2_24, .inl x1_9, .inr (some 8)]) (I' := I) rfl rfl ?_
              obtain ⟨hi, hv⟩ := hv
              refine g_iast hC dX5_weighSets_70 (rfl) hi ?_
              clear hi
              refine g_blk hC _ bX5_weighSets_71_74 (pc' := 74) (ls' := [some (.inr (some 3)), some (.inl (x1_9 + 1)), some (.inl x2_24), some (.inl x3_24), none]) (st' := []) (I' := I) rfl rfl ?_
              refine g_goto hC dX5_weighSets_74 (tgt := 9) (by decide) ?_
              exact g_weak (ls1 := [some (.inr (some 3)), some (.inl (x1_9 + 1)), none, none, none]) rfl (And.intro rfl (And.intro rfl trivial)) (ih9 (x1_9 + 1) (up2 A_9 8 x1_9.toNatClampNeg x2_24) hv.1 (Nat.lt_of_lt_of_le hv.2 (Nat.le_of_lt_succ hn9)))
            · have hv := hv2 hc
              clear hv1 hv2 hc
              refine g_blk hC _ bX5_weighSets_32_41 (pc' := 41) (ls' := [some (.inr (some 3)), some (.inl x1_9), some (.inl x2_24), some (.inl x3_24), some (.inl (1 <<< (x3_24 &&& 31)))]) (st' := [.inl (x1_9 &&& (1 <<< (x3_24 &&& 31)))]) (I' := I) rfl rfl ?_
              obtain ⟨hv1, hv2⟩ := hv
              refine g_ifeq hC dX5_weighSets_41 (tgt := 58) (by decide) (fun hc => ?_) (fun hc => ?_)
              · have hv := hv1 hc
                clear hv1 hv2 hc
                refine g_blk hC _ bX5_weighSets_58_61 (pc' := 61) (ls' := [some (.inr (some 3)), some (.inl x1_9), some (.inl x2_24), some (.inl (x3_24 + 1)), some (.inl (1 <<< (x3_24 &&& 31)))]) (st' := []) (I' := I) rfl rfl ?_
                refine g_goto hC dX5_weighSets_61 (tgt := 24) (by decide) ?_
                exact g_weak (ls1 := [some (.inr (some 3)), some (.inl x1_9), some (.inl x2_24), some (.inl (x3_24 + 1)), none]) rfl (And.intro rfl (And.intro rfl (And.intro rfl (And.intro rfl trivial)))) (ih24 x2_24 (x3_24 + 1) hv.1 (Nat.lt_of_lt_of_le hv.2 (Nat.le_of_lt_succ hn24)))
              · have hv := hv2 hc
                clear hv1 hv2 hc
                refine g_blk hC _ bX5_weighSets_44_51 (pc' := 51) (ls' := [some (.inr (some 3)), some (.inl x1_9), some (.inl x2_24), some (.inl x3_24), some (.inl (1 <<< (x3_24 &&& 31)))]) (st' := [.inl (x1_9 ^^^ (1 <<< (x3_24 &&& 31))), .inl x3_24, .inr (some 3), .inl x2_24]) (I' := I) rfl rfl ?_
                obtain ⟨hp1, hv⟩ := hv
                refine g_callV hC (hh_X5_sumWithFirst I A_9 x3_24 (x1_9 ^^^ (1 <<< (x3_24 &&& 31))) hp1) dX5_weighSets_51 nm_X5_sumWithFirst rfl rfl wl_X5_91 wi_X5_sumWithFirst ws_X5_sumWithFirst wn_X5 wc_X5_sumWithFirst ⟨by decide, by decide⟩ (as := [.inl x3_24, .inl (x1_9 ^^^ (1 <<< (x3_24 &&& 31)))]) (rest := [.inl x2_24]) rfl (Nat.le_of_ble_eq_true rfl) ⟨Nat.le_refl _, Nat.le_refl _⟩ (k_qI ?_)
                refine g_min hC dX5_weighSets_54 wl_X5_94 (by decide) (Nat.le_of_ble_eq_true rfl) ⟨Nat.le_refl _, Nat.le_refl _⟩ ?_
                refine g_blk hC _ bX5_weighSets_57_61 (pc' := 61) (ls' := [some (.inr (some 3)), some (.inl x1_9), some (.inl (mnI x2_24 (ff_X5_sumWithFirst I A_9 x3_24 (x1_9 ^^^ (1 <<< (x3_24 &&& 31)))))), some (.inl (x3_24 + 1)), some (.inl (1 <<< (x3_24 &&& 31)))]) (st' := []) (I' := I) rfl rfl ?_
                refine g_goto hC dX5_weighSets_61 (tgt := 24) (by decide) ?_
                exact g_weak (ls1 := [some (.inr (some 3)), some (.inl x1_9), some (.inl (mnI x2_24 (ff_X5_sumWithFirst I A_9 x3_24 (x1_9 ^^^ (1 <<< (x3_24 &&& 31)))))), some (.inl (x3_24 + 1)), none]) rfl (And.intro rfl (And.intro rfl (And.intro rfl (And.intro rfl trivial)))) (ih24 (mnI x2_24 (ff_X5_sumWithFirst I A_9 x3_24 (x1_9 ^^^ (1 <<< (x3_24 &&& 31))))) (x3_24 + 1) hv.1 (Nat.lt_of_lt_of_le hv.2 (Nat.le_of_lt_succ hn24)))
        exact g_weak (ls1 := [some (.inr (some 3)), some (.inl x1_9), some (.inl 2147483647), some (.inl 0), none]) rfl (And.intro rfl (And.intro rfl (And.intro rfl (And.intro rfl trivial)))) (L24 _ 2147483647 0 hi24 (Nat.lt_succ_self _))
  exact g_weak (ls1 := [some (.inr (some 3)), some (.inl 1), none, none, none]) rfl (And.intro rfl (And.intro rfl trivial)) (L9 _ 1 (up2 A 8 (0 : Int32).toNatClampNeg 0) hi9 (Nat.lt_succ_self _))
theorem bX5_firstOf_0_2 : okB cX5_firstOf RX5 0 [(0, 0, 0, 0, 0), (7, 2, 0, 0, 0)] := And.intro ⟨_, dX5_firstOf_0, by decide⟩ (And.intro ⟨_, dX5_firstOf_1, rfl⟩ trivial)
theorem bX5_firstOf_2_7 : okB cX5_firstOf RX5 2 [(3, 2, 0, 0, 0), (5, 0, 0, 0, 0), (23, 15, 5, 2, 0)] := And.intro ⟨_, dX5_firstOf_2, rfl⟩ (And.intro ⟨_, dX5_firstOf_3, rfl⟩ (And.intro ⟨dX5_firstOf_4, fl_X5_15⟩ trivial))
theorem bX5_firstOf_45_46 : okB cX5_firstOf RX5 45 [(0, 0, 0, 0, 0)] := And.intro ⟨_, dX5_firstOf_45, by decide⟩ trivial
theorem bX5_firstOf_10_17 : okB cX5_firstOf RX5 10 [(0, 0, 0, 0, 1), (3, 2, 0, 0, 0), (18, 0, 0, 0, 0), (7, 3, 0, 0, 0), (3, 1, 0, 0, 0), (3, 3, 0, 0, 0), (15, 0, 0, 0, 0)] := And.intro ⟨_, dX5_firstOf_10, by decide⟩ (And.intro ⟨_, dX5_firstOf_11, rfl⟩ (And.intro dX5_firstOf_12 (And.intro ⟨_, dX5_firstOf_13, rfl⟩ (And.intro ⟨_, dX5_firstOf_14, rfl⟩ (And.intro ⟨_, dX5_firstOf_15, rfl⟩ (And.intro dX5_firstOf_16 trivial))))))
theorem bX5_firstOf_39_42 : okB cX5_firstOf RX5 39 [(11, 2, 0, 0, 1)] := And.intro ⟨_, dX5_firstOf_39, by decide⟩ trivial
theorem bX5_firstOf_20_25 : okB cX5_firstOf RX5 20 [(5, 0, 0, 0, 0), (3, 2, 0, 0, 0), (3, 1, 0, 0, 0), (3, 3, 0, 0, 0), (17, 0, 0, 0, 0)] := And.intro ⟨_, dX5_firstOf_20, rfl⟩ (And.intro ⟨_, dX5_firstOf_21, rfl⟩ (And.intro ⟨_, dX5_firstOf_22, rfl⟩ (And.intro ⟨_, dX5_firstOf_23, rfl⟩ (And.intro dX5_firstOf_24 trivial))))
theorem bX5_firstOf_28_33 : okB cX5_firstOf RX5 28 [(5, 0, 0, 0, 0), (23, 28, 5, 6, 0), (3, 1, 0, 0, 0)] := And.intro ⟨_, dX5_firstOf_28, rfl⟩ (And.intro ⟨dX5_firstOf_29, fl_X5_28⟩ (And.intro ⟨_, dX5_firstOf_32, rfl⟩ trivial))
theorem bX5_firstOf_37_38 : okB cX5_firstOf RX5 37 [(3, 2, 0, 0, 0)] := And.intro ⟨_, dX5_firstOf_37, rfl⟩ trivial
set_option maxHeartbeats 4000000 in
set_option maxRecDepth 100000 in
theorem k_X5_firstOf (l : Launch) (D : va_G) (ads : AD) (I A : HI) (a1 : Int32) (po : Option AV → HI → HI → Prop) {pp_X5_sumWithFirst : HI → HI → Int32 → Int32 → Prop} {ff_X5_sumWithFirst : HI → HI → Int32 → Int32 → Int32} (hh_X5_sumWithFirst : ∀ (I A : HI) (a1 : Int32) (a2 : Int32), pp_X5_sumWithFirst I A a1 a2 → Ct l yX5_sumWithFirst cX5_sumWithFirst 5 (some .int) 0 0 D ads shp [.inr (some 3), .inl a1, .inl a2] I A (qI (ff_X5_sumWithFirst I A a1 a2) I A)) (Iv2 : Int32 → Prop) (mu2 : Int32 → Nat)
    (hv : (Iv2 0 ∧ ∀ (x2_2 : Int32), Iv2 x2_2 → (((I 3 2) ≤ x2_2 → po (some (.inl 0)) I A) ∧ (¬ (I 3 2) ≤ x2_2 → (((a1 &&& (1 <<< (x2_2 &&& 31))) = 0 → (Iv2 (x2_2 + 1) ∧ mu2 (x2_2 + 1) < mu2 x2_2)) ∧ (¬ (a1 &&& (1 <<< (x2_2 &&& 31))) = 0 → ((pp_X5_sumWithFirst I A x2_2 (a1 ^^^ (1 <<< (x2_2 &&& 31)))) ∧ (vp_in a1 1024 ∧ ((¬ (ff_X5_sumWithFirst I A x2_2 (a1 ^^^ (1 <<< (x2_2 &&& 31)))) = (A 8 a1.toNatClampNeg) → (Iv2 (x2_2 + 1) ∧ mu2 (x2_2 + 1) < mu2 x2_2)) ∧ ((ff_X5_sumWithFirst I A x2_2 (a1 ^^^ (1 <<< (x2_2 &&& 31)))) = (A 8 a1.toNatClampNeg) → po (some (.inl x2_2)) I A)))))))))) : Ct l yX5_firstOf cX5_firstOf 4 (some .int) 1 24 D ads shp [.inr (some 3), .inl a1] I A po := by
  refine Ct_of (by decide) (Nat.le_of_ble_eq_true rfl) ?_
  intro p e s m args below meth c hC hr
  replace hC : CX p s m args meth c cX5_firstOf 4 RX5 (AdS ads s.heap.size) := hC
  show Gm p l e s m args below meth c D ads 1 24 4 po I A 0 [some (.inr (some 3)), some (.inl a1), none, none] []
  refine g_blk hC _ bX5_firstOf_0_2 (pc' := 2) (ls' := [some (.inr (some 3)), some (.inl a1), some (.inl 0), none]) (st' := []) (I' := I) rfl rfl ?_
  obtain ⟨hi2, hb2⟩ := hv
  have L2 : ∀ (n : Nat) (x2_2 : Int32), Iv2 x2_2 → mu2 x2_2 < n → Gm p l e s m args below meth c D ads 1 24 4 po I A 2 [some (.inr (some 3)), some (.inl a1), some (.inl x2_2), none] [] := by
    intro n
    induction n with
    | zero => intro x2_2 _ hn; exact absurd hn (Nat.not_lt_zero _)
    | succ n ih2 =>
      intro x2_2 hv hn2
      replace hv := hb2 x2_2 hv
      skip
      refine g_blk hC _ bX5_firstOf_2_7 (pc' := 7) (ls' := [some (.inr (some 3)), some (.inl a1), some (.inl x2_2), none]) (st' := [.inl (I 3 2), .inl x2_2]) (I' := I) rfl rfl ?_
      obtain ⟨hv1, hv2⟩ := hv
      refine g_cge hC dX5_firstOf_7 (tgt := 45) (by decide) (fun hc => ?_) (fun hc => ?_)
      · have hv := hv1 hc
        clear hv1 hv2 hc
        refine g_blk hC _ bX5_firstOf_45_46 (pc' := 46) (ls' := [some (.inr (some 3)), some (.inl a1), some (.inl x2_2), none]) (st' := [.inl 0]) (I' := I) rfl rfl ?_
        exact g_reti hC hr rfl dX5_firstOf_46 hv
      · have hv := hv2 hc
        clear hv1 hv2 hc
        refine g_blk hC _ bX5_firstOf_10_17 (pc' := 17) (ls' := [some (.inr (some 3)), some (.inl a1), some (.inl x2_2), some (.inl (1 <<< (x2_2 &&& 31)))]) (st' := [.inl (a1 &&& (1 <<< (x2_2 &&& 31)))]) (I' := I) rfl rfl ?_
        obtain ⟨hv1, hv2⟩ := hv
        refine g_ifeq hC dX5_firstOf_17 (tgt := 39) (by decide) (fun hc => ?_) (fun hc => ?_)
        · have hv := hv1 hc
          clear hv1 hv2 hc
          refine g_blk hC _ bX5_firstOf_39_42 (pc' := 42) (ls' := [some (.inr (some 3)), some (.inl a1), some (.inl (x2_2 + 1)), some (.inl (1 <<< (x2_2 &&& 31)))]) (st' := []) (I' := I) rfl rfl ?_
          refine g_goto hC dX5_firstOf_42 (tgt := 2) (by decide) ?_
          exact g_weak (ls1 := [some (.inr (some 3)), some (.inl a1), some (.inl (x2_2 + 1)), none]) rfl (And.intro rfl (And.intro rfl (And.intro rfl trivial))) (ih2 (x2_2 + 1) hv.1 (Nat.lt_of_lt_of_le hv.2 (Nat.le_of_lt_succ hn2)))
        · have hv := hv2 hc
          clear hv1 hv2 hc
          refine g_blk hC _ bX5_firstOf_20_25 (pc' := 25) (ls' := [some (.inr (some 3)), some (.inl a1), some (.inl x2_2), some (.inl (1 <<< (x2_2 &&& 31)))]) (st' := [.inl (a1 ^^^ (1 <<< (x2_2 &&& 31))), .inl x2_2, .inr (some 3)]) (I' := I) rfl rfl ?_
          obtain ⟨hp1, hv⟩ := hv
          refine g_callV hC (hh_X5_sumWithFirst I A x2_2 (a1 ^^^ (1 <<< (x2_2 &&& 31))) hp1) dX5_firstOf_25 nm_X5_sumWithFirst rfl rfl wl_X5_91 wi_X5_sumWithFirst ws_X5_sumWithFirst wn_X5 wc_X5_sumWithFirst ⟨by decide, by decide⟩ (as := [.inl x2_2, .inl (a1 ^^^ (1 <<< (x2_2 &&& 31)))]) (rest := []) rfl (Nat.le_of_ble_eq_true rfl) ⟨Nat.le_refl _, Nat.le_refl _⟩ (k_qI ?_)
          refine g_blk hC _ bX5_firstOf_28_33 (pc' := 33) (ls' := [some (.inr (some 3)), some (.inl a1), some (.inl x2_2), some (.inl (1 <<< (x2_2 &&& 31)))]) (st' := [.inl a1, .inr (some 8), .inl (ff_X5_sumWithFirst I A x2_2 (a1 ^^^ (1 <<< (x2_2 &&& 31))))]) (I' := I) rfl rfl ?_
          obtain ⟨hi, hv⟩ := hv
          refine g_iald hC dX5_firstOf_33 (rfl) hi ?_
          clear hi
          obtain ⟨hv1, hv2⟩ := hv
          refine g_cne hC dX5_firstOf_34 (tgt := 39) (by decide) (fun hc => ?_) (fun hc => ?_)
          · have hv := hv1 hc
            clear hv1 hv2 hc
            refine g_blk hC _ bX5_firstOf_39_42 (pc' := 42) (ls' := [some (.inr (some 3)), some (.inl a1), some (.inl (x2_2 + 1)), some (.inl (1 <<< (x2_2 &&& 31)))]) (st' := []) (I' := I) rfl rfl ?_
            refine g_goto hC dX5_firstOf_42 (tgt := 2) (by decide) ?_
            exact g_weak (ls1 := [some (.inr (some 3)), some (.inl a1), some (.inl (x2_2 + 1)), none]) rfl (And.intro rfl (And.intro rfl (And.intro rfl trivial))) (ih2 (x2_2 + 1) hv.1 (Nat.lt_of_lt_of_le hv.2 (Nat.le_of_lt_succ hn2)))
          · have hv := hv2 hc
            clear hv1 hv2 hc
            refine g_blk hC _ bX5_firstOf_37_38 (pc' := 38) (ls' := [some (.inr (some 3)), some (.inl a1), some (.inl x2_2), some (.inl (1 <<< (x2_2 &&& 31)))]) (st' := [.inl x2_2]) (I' := I) rfl rfl ?_
            exact g_reti hC hr rfl dX5_firstOf_38 hv
  exact g_weak (ls1 := [some (.inr (some 3)), some (.inl a1), some (.inl 0), none]) rfl (And.intro rfl (And.intro rfl (And.intro rfl trivial))) (L2 _ 0 hi2 (Nat.lt_succ_self _))
theorem bX5_lineUp_0_5 : okB cX5_lineUp RX5 0 [(5, 0, 0, 0, 0), (23, 34, 5, 8, 0), (0, 0, 0, 0, (-1))] := And.intro ⟨_, dX5_lineUp_0, rfl⟩ (And.intro ⟨dX5_lineUp_1, fl_X5_34⟩ (And.intro ⟨_, dX5_lineUp_4, by decide⟩ trivial))
theorem bX5_lineUp_8_19 : okB cX5_lineUp RX5 8 [(0, 0, 0, 0, 1), (5, 0, 0, 0, 0), (23, 15, 5, 2, 0), (18, 0, 0, 0, 0), (0, 0, 0, 0, 1), (13, 0, 0, 0, 0), (7, 1, 0, 0, 0), (0, 0, 0, 0, 0), (7, 2, 0, 0, 0)] := And.intro ⟨_, dX5_lineUp_8, by decide⟩ (And.intro ⟨_, dX5_lineUp_9, rfl⟩ (And.intro ⟨dX5_lineUp_10, fl_X5_15⟩ (And.intro dX5_lineUp_13 (And.intro ⟨_, dX5_lineUp_14, by decide⟩ (And.intro dX5_lineUp_15 (And.intro ⟨_, dX5_lineUp_16, rfl⟩ (And.intro ⟨_, dX5_lineUp_17, by decide⟩ (And.intro ⟨_, dX5_lineUp_18, rfl⟩ trivial))))))))
theorem bX5_lineUp_19_24 : okB cX5_lineUp RX5 19 [(3, 2, 0, 0, 0), (5, 0, 0, 0, 0), (23, 15, 5, 2, 0)] := And.intro ⟨_, dX5_lineUp_19, rfl⟩ (And.intro ⟨_, dX5_lineUp_20, rfl⟩ (And.intro ⟨dX5_lineUp_21, fl_X5_15⟩ trivial))
theorem bX5_lineUp_27_29 : okB cX5_lineUp RX5 27 [(5, 0, 0, 0, 0), (3, 1, 0, 0, 0)] := And.intro ⟨_, dX5_lineUp_27, rfl⟩ (And.intro ⟨_, dX5_lineUp_28, rfl⟩ trivial)
theorem bX5_lineUp_32_43 : okB cX5_lineUp RX5 32 [(7, 3, 0, 0, 0), (5, 0, 0, 0, 0), (23, 31, 5, 7, 0), (3, 2, 0, 0, 0), (5, 0, 0, 0, 0), (23, 9, 5, 1, 0), (3, 3, 0, 0, 0)] := And.intro ⟨_, dX5_lineUp_32, rfl⟩ (And.intro ⟨_, dX5_lineUp_33, rfl⟩ (And.intro ⟨dX5_lineUp_34, fl_X5_31⟩ (And.intro ⟨_, dX5_lineUp_37, rfl⟩ (And.intro ⟨_, dX5_lineUp_38, rfl⟩ (And.intro ⟨dX5_lineUp_39, fl_X5_9⟩ (And.intro ⟨_, dX5_lineUp_42, rfl⟩ trivial))))))
theorem bX5_lineUp_45_54 : okB cX5_lineUp RX5 45 [(5, 0, 0, 0, 0), (23, 34, 5, 8, 0), (5, 0, 0, 0, 0), (23, 9, 5, 1, 0), (3, 3, 0, 0, 0)] := And.intro ⟨_, dX5_lineUp_45, rfl⟩ (And.intro ⟨dX5_lineUp_46, fl_X5_34⟩ (And.intro ⟨_, dX5_lineUp_49, rfl⟩ (And.intro ⟨dX5_lineUp_50, fl_X5_9⟩ (And.intro ⟨_, dX5_lineUp_53, rfl⟩ trivial))))
theorem bX5_lineUp_55_56 : okB cX5_lineUp RX5 55 [(3, 2, 0, 0, 0)] := And.intro ⟨_, dX5_lineUp_55, rfl⟩ trivial
theorem bX5_lineUp_57_68 : okB cX5_lineUp RX5 57 [(3, 1, 0, 0, 0), (0, 0, 0, 0, 1), (3, 3, 0, 0, 0), (18, 0, 0, 0, 0), (0, 0, 0, 0, (-1)), (17, 0, 0, 0, 0), (15, 0, 0, 0, 0), (7, 1, 0, 0, 0), (11, 2, 0, 0, 1)] := And.intro ⟨_, dX5_lineUp_57, rfl⟩ (And.intro ⟨_, dX5_lineUp_58, by decide⟩ (And.intro ⟨_, dX5_lineUp_59, rfl⟩ (And.intro dX5_lineUp_60 (And.intro ⟨_, dX5_lineUp_61, by decide⟩ (And.intro dX5_lineUp_62 (And.intro dX5_lineUp_63 (And.intro ⟨_, dX5_lineUp_64, rfl⟩ (And.intro ⟨_, dX5_lineUp_65, by decide⟩ trivial))))))))
set_option maxHeartbeats 4000000 in
set_option maxRecDepth 100000 in
theorem k_X5_lineUp (l : Launch) (D : va_G) (ads : AD) (I A : HI) (po : Option AV → HI → HI → Prop) {pp_X5_firstOf : HI → HI → Int32 → Prop} {ff_X5_firstOf : HI → HI → Int32 → Int32} (hh_X5_firstOf : ∀ (I A : HI) (a1 : Int32), pp_X5_firstOf I A a1 → Ct l yX5_firstOf cX5_firstOf 4 (some .int) 1 24 D ads shp [.inr (some 3), .inl a1] I A (qI (ff_X5_firstOf I A a1) I A)) (Iv19 : Int32 → Int32 → HI → Prop) (mu19 : Int32 → Int32 → HI → Nat)
    (hv : (Iv19 ((1 <<< ((I 3 2) &&& 31)) - 1) 0 (filA A 10 10 ((-1))) ∧ ∀ (x1_19 : Int32) (x2_19 : Int32) (A_19 : HI), Iv19 x1_19 x2_19 A_19 → (((I 3 2) ≤ x2_19 → po none I A_19) ∧ (¬ (I 3 2) ≤ x2_19 → ((pp_X5_firstOf I A_19 x1_19) ∧ (vp_in (ff_X5_firstOf I A_19 x1_19) 10 ∧ (vp_in x2_19 10 ∧ (vp_in (ff_X5_firstOf I A_19 x1_19) 10 ∧ (vp_in ((up2 A_19 9 x2_19.toNatClampNeg (A_19 4 (ff_X5_firstOf I A_19 x1_19).toNatClampNeg)) 4 (ff_X5_firstOf I A_19 x1_19).toNatClampNeg) 10 ∧ (Iv19 (x1_19 &&& ((1 <<< ((ff_X5_firstOf I A_19 x1_19) &&& 31)) ^^^ ((-1)))) (x2_19 + 1) (up2 (up2 A_19 9 x2_19.toNatClampNeg (A_19 4 (ff_X5_firstOf I A_19 x1_19).toNatClampNeg)) 10 ((up2 A_19 9 x2_19.toNatClampNeg (A_19 4 (ff_X5_firstOf I A_19 x1_19).toNatClampNeg)) 4 (ff_X5_firstOf I A_19 x1_19).toNatClampNeg).toNatClampNeg x2_19) ∧ mu19 (x1_19 &&& ((1 <<< ((ff_X5_firstOf I A_19 x1_19) &&& 31)) ^^^ ((-1)))) (x2_19 + 1) (up2 (up2 A_19 9 x2_19.toNatClampNeg (A_19 4 (ff_X5_firstOf I A_19 x1_19).toNatClampNeg)) 10 ((up2 A_19 9 x2_19.toNatClampNeg (A_19 4 (ff_X5_firstOf I A_19 x1_19).toNatClampNeg)) 4 (ff_X5_firstOf I A_19 x1_19).toNatClampNeg).toNatClampNeg x2_19) < mu19 x1_19 x2_19 A_19)))))))))) : Ct l yX5_lineUp cX5_lineUp 4 none 2 47 D ads shp [.inr (some 3)] I A po := by
  refine Ct_of (by decide) (Nat.le_of_ble_eq_true rfl) ?_
  intro p e s m args below meth c hC hr
  replace hC : CX p s m args meth c cX5_lineUp 4 RX5 (AdS ads s.heap.size) := hC
  show Gm p l e s m args below meth c D ads 2 47 4 po I A 0 [some (.inr (some 3)), none, none, none] []
  refine g_blk hC _ bX5_lineUp_0_5 (pc' := 5) (ls' := [some (.inr (some 3)), none, none, none]) (st' := [.inl ((-1)), .inr (some 10)]) (I' := I) rfl rfl ?_
  refine g_callS hC (c_J7_fill_53178 l D ads I A 10 ((-1)) 10 (rfl) (by decide)) dX5_lineUp_5 nm_J7_fill_53178 wl_X5_99 wt_J7_fill_53178 wn_J7 wc_J7_fill_53178 ⟨by decide, by decide⟩ (as := [.inr (some 10), .inl ((-1))]) (rest := []) rfl (Nat.le_of_ble_eq_true rfl) ⟨Nat.le_refl _, Nat.le_refl _⟩ (k_qN ?_)
  refine g_blk hC _ bX5_lineUp_8_19 (pc' := 19) (ls' := [some (.inr (some 3)), some (.inl ((1 <<< ((I 3 2) &&& 31)) - 1)), some (.inl 0), none]) (st' := []) (I' := I) rfl rfl ?_
  obtain ⟨hi19, hb19⟩ := hv
  have L19 : ∀ (n : Nat) (x1_19 : Int32) (x2_19 : Int32) (A_19 : HI), Iv19 x1_19 x2_19 A_19 → mu19 x1_19 x2_19 A_19 < n → Gm p l e s m args below meth c D ads 2 47 4 po I A_19 19 [some (.inr (some 3)), some (.inl x1_19), some (.inl x2_19), none] [] := by
    intro n
    induction n with
    | zero => intro x1_19 x2_19 A_19 _ hn; exact absurd hn (Nat.not_lt_zero _)
    | succ n ih19 =>
      intro x1_19 x2_19 A_19 hv hn19
      replace hv := hb19 x1_19 x2_19 A_19 hv
      skip
      refine g_blk hC _ bX5_lineUp_19_24 (pc' := 24) (ls' := [some (.inr (some 3)), some (.inl x1_19), some (.inl x2_19), none]) (st' := [.inl (I 3 2), .inl x2_19]) (I' := I) rfl rfl ?_
      obtain ⟨hv1, hv2⟩ := hv
      refine g_cge hC dX5_lineUp_24 (tgt := 71) (by decide) (fun hc => ?_) (fun hc => ?_)
      · have hv := hv1 hc
        clear hv1 hv2 hc
        exact g_retv hC hr dX5_lineUp_71 hv
      · have hv := hv2 hc
        clear hv1 hv2 hc
        refine g_blk hC _ bX5_lineUp_27_29 (pc' := 29) (ls' := [some (.inr (some 3)), some (.inl x1_19), some (.inl x2_19), none]) (st' := [.inl x1_19, .inr (some 3)]) (I' := I) rfl rfl ?_
        obtain ⟨hp2, hv⟩ := hv
        refine g_callV hC (hh_X5_firstOf I A_19 x1_19 hp2) dX5_lineUp_29 nm_X5_firstOf rfl rfl wl_X5_105 wi_X5_firstOf ws_X5_firstOf wn_X5 wc_X5_firstOf ⟨by decide, by decide⟩ (as := [.inl x1_19]) (rest := []) rfl (Nat.le_of_ble_eq_true rfl) ⟨Nat.le_refl _, Nat.le_refl _⟩ (k_qI ?_)
        refine g_blk hC _ bX5_lineUp_32_43 (pc' := 43) (ls' := [some (.inr (some 3)), some (.inl x1_19), some (.inl x2_19), some (.inl (ff_X5_firstOf I A_19 x1_19))]) (st' := [.inl (ff_X5_firstOf I A_19 x1_19), .inr (some 4), .inl x2_19, .inr (some 9)]) (I' := I) rfl rfl ?_
        obtain ⟨hi, hv⟩ := hv
        refine g_iald hC dX5_lineUp_43 (rfl) hi ?_
        clear hi
        obtain ⟨hi, hv⟩ := hv
        refine g_iast hC dX5_lineUp_44 (rfl) hi ?_
        clear hi
        refine g_blk hC _ bX5_lineUp_45_54 (pc' := 54) (ls' := [some (.inr (some 3)), some (.inl x1_19), some (.inl x2_19), some (.inl (ff_X5_firstOf I A_19 x1_19))]) (st' := [.inl (ff_X5_firstOf I A_19 x1_19), .inr (some 4), .inr (some 10)]) (I' := I) rfl rfl ?_
        obtain ⟨hi, hv⟩ := hv
        refine g_iald hC dX5_lineUp_54 (rfl) hi ?_
        clear hi
        refine g_blk hC _ bX5_lineUp_55_56 (pc' := 56) (ls' := [some (.inr (some 3)), some (.inl x1_19), some (.inl x2_19), some (.inl (ff_X5_firstOf I A_19 x1_19))]) (st' := [.inl x2_19, .inl ((up2 A_19 9 x2_19.toNatClampNeg (A_19 4 (ff_X5_firstOf I A_19 x1_19).toNatClampNeg)) 4 (ff_X5_firstOf I A_19 x1_19).toNatClampNeg), .inr (some 10)]) (I' := I) rfl rfl ?_
        obtain ⟨hi, hv⟩ := hv
        refine g_iast hC dX5_lineUp_56 (rfl) hi ?_
        clear hi
        refine g_blk hC _ bX5_lineUp_57_68 (pc' := 68) (ls' := [some (.inr (some 3)), some (.inl (x1_19 &&& ((1 <<< ((ff_X5_firstOf I A_19 x1_19) &&& 31)) ^^^ ((-1))))), some (.inl (x2_19 + 1)), some (.inl (ff_X5_firstOf I A_19 x1_19))]) (st' := []) (I' := I) rfl rfl ?_
        refine g_goto hC dX5_lineUp_68 (tgt := 19) (by decide) ?_
        exact g_weak (ls1 := [some (.inr (some 3)), some (.inl (x1_19 &&& ((1 <<< ((ff_X5_firstOf I A_19 x1_19) &&& 31)) ^^^ ((-1))))), some (.inl (x2_19 + 1)), none]) rfl (And.intro rfl (And.intro rfl (And.intro rfl trivial))) (ih19 (x1_19 &&& ((1 <<< ((ff_X5_firstOf I A_19 x1_19) &&& 31)) ^^^ ((-1)))) (x2_19 + 1) (up2 (up2 A_19 9 x2_19.toNatClampNeg (A_19 4 (ff_X5_firstOf I A_19 x1_19).toNatClampNeg)) 10 ((up2 A_19 9 x2_19.toNatClampNeg (A_19 4 (ff_X5_firstOf I A_19 x1_19).toNatClampNeg)) 4 (ff_X5_firstOf I A_19 x1_19).toNatClampNeg).toNatClampNeg x2_19) hv.1 (Nat.lt_of_lt_of_le hv.2 (Nat.le_of_lt_succ hn19)))
  exact g_weak (ls1 := [some (.inr (some 3)), some (.inl ((1 <<< ((I 3 2) &&& 31)) - 1)), some (.inl 0), none]) rfl (And.intro rfl (And.intro rfl (And.intro rfl trivial))) (L19 _ ((1 <<< ((I 3 2) &&& 31)) - 1) 0 (filA A 10 10 ((-1))) hi19 (Nat.lt_succ_self _))
theorem bX5_partFlows_0_5 : okB cX5_partFlows RX5 0 [(5, 0, 0, 0, 0), (23, 40, 5, 10, 0), (0, 0, 0, 0, 0)] := And.intro ⟨_, dX5_partFlows_0, rfl⟩ (And.intro ⟨dX5_partFlows_1, fl_X5_40⟩ (And.intro ⟨_, dX5_partFlows_4, by decide⟩ trivial))
theorem bX5_partFlows_8_20 : okB cX5_partFlows RX5 8 [(5, 0, 0, 0, 0), (0, 0, 0, 0, 0), (24, 46, 5, 12, 0), (5, 0, 0, 0, 0), (0, 0, 0, 0, 0), (24, 49, 5, 13, 0), (0, 0, 0, 0, 0), (7, 1, 0, 0, 0)] := And.intro ⟨_, dX5_partFlows_8, rfl⟩ (And.intro ⟨_, dX5_partFlows_9, by decide⟩ (And.intro ⟨dX5_partFlows_10, fl_X5_46, rfl, rfl⟩ (And.intro ⟨_, dX5_partFlows_13, rfl⟩ (And.intro ⟨_, dX5_partFlows_14, by decide⟩ (And.intro ⟨dX5_partFlows_15, fl_X5_49, rfl, rfl⟩ (And.intro ⟨_, dX5_partFlows_18, by decide⟩ (And.intro ⟨_, dX5_partFlows_19, rfl⟩ trivial)))))))
theorem bX5_partFlows_20_23 : okB cX5_partFlows RX5 20 [(3, 1, 0, 0, 0), (1, 0, 0, 0, 10)] := And.intro ⟨_, dX5_partFlows_20, rfl⟩ (And.intro ⟨_, dX5_partFlows_21, by decide⟩ trivial)
theorem bX5_partFlows_26_28 : okB cX5_partFlows RX5 26 [(0, 0, 0, 0, 0), (7, 2, 0, 0, 0)] := And.intro ⟨_, dX5_partFlows_26, by decide⟩ (And.intro ⟨_, dX5_partFlows_27, rfl⟩ trivial)
theorem bX5_partFlows_28_31 : okB cX5_partFlows RX5 28 [(3, 2, 0, 0, 0), (1, 0, 0, 0, 10)] := And.intro ⟨_, dX5_partFlows_28, rfl⟩ (And.intro ⟨_, dX5_partFlows_29, by decide⟩ trivial)
theorem bX5_partFlows_98_101 : okB cX5_partFlows RX5 98 [(11, 1, 0, 0, 1)] := And.intro ⟨_, dX5_partFlows_98, by decide⟩ trivial
theorem bX5_partFlows_34_40 : okB cX5_partFlows RX5 34 [(5, 0, 0, 0, 0), (23, 52, 5, 0, 0), (3, 1, 0, 0, 0), (3, 2, 0, 0, 0)] := And.intro ⟨_, dX5_partFlows_34, rfl⟩ (And.intro ⟨dX5_partFlows_35, fl_X5_52⟩ (And.intro ⟨_, dX5_partFlows_38, rfl⟩ (And.intro ⟨_, dX5_partFlows_39, rfl⟩ trivial)))
theorem bX5_partFlows_43_45 : okB cX5_partFlows RX5 43 [(7, 3, 0, 0, 0), (3, 3, 0, 0, 0)] := And.intro ⟨_, dX5_partFlows_43, rfl⟩ (And.intro ⟨_, dX5_partFlows_44, rfl⟩ trivial)
theorem bX5_partFlows_80_91 : okB cX5_partFlows RX5 80 [(5, 0, 0, 0, 0), (23, 40, 5, 10, 0), (3, 1, 0, 0, 0), (1, 0, 0, 0, 10), (14, 0, 0, 0, 0), (3, 2, 0, 0, 0), (12, 0, 0, 0, 0), (3, 3, 0, 0, 0)] := And.intro ⟨_, dX5_partFlows_80, rfl⟩ (And.intro ⟨dX5_partFlows_81, fl_X5_40⟩ (And.intro ⟨_, dX5_partFlows_84, rfl⟩ (And.intro ⟨_, dX5_partFlows_85, by decide⟩ (And.intro dX5_partFlows_87 (And.intro ⟨_, dX5_partFlows_88, rfl⟩ (And.intro dX5_partFlows_89 (And.intro ⟨_, dX5_partFlows_90, rfl⟩ trivial)))))))
theorem bX5_partFlows_92_95 : okB cX5_partFlows RX5 92 [(11, 2, 0, 0, 1)] := And.intro ⟨_, dX5_partFlows_92, by decide⟩ trivial
theorem bX5_partFlows_48_51 : okB cX5_partFlows RX5 48 [(5, 0, 0, 0, 0), (3, 1, 0, 0, 0), (3, 2, 0, 0, 0)] := And.intro ⟨_, dX5_partFlows_48, rfl⟩ (And.intro ⟨_, dX5_partFlows_49, rfl⟩ (And.intro ⟨_, dX5_partFlows_50, rfl⟩ trivial))
theorem bX5_partFlows_57_77 : okB cX5_partFlows RX5 57 [(5, 0, 0, 0, 0), (20, 0, 0, 0, 0), (23, 46, 5, 12, 0), (0, 0, 0, 0, 1), (12, 0, 0, 0, 0), (24, 46, 5, 12, 0), (5, 0, 0, 0, 0), (20, 0, 0, 0, 0), (23, 49, 5, 13, 0), (3, 3, 0, 0, 0), (12, 0, 0, 0, 0), (24, 49, 5, 13, 0)] := And.intro ⟨_, dX5_partFlows_57, rfl⟩ (And.intro dX5_partFlows_58 (And.intro ⟨dX5_partFlows_59, fl_X5_46⟩ (And.intro ⟨_, dX5_partFlows_62, by decide⟩ (And.intro dX5_partFlows_63 (And.intro ⟨dX5_partFlows_64, fl_X5_46, rfl, rfl⟩ (And.intro ⟨_, dX5_partFlows_67, rfl⟩ (And.intro dX5_partFlows_68 (And.intro ⟨dX5_partFlows_69, fl_X5_49⟩ (And.intro ⟨_, dX5_partFlows_72, rfl⟩ (And.intro dX5_partFlows_73 (And.intro ⟨dX5_partFlows_74, fl_X5_49, rfl, rfl⟩ trivial)))))))))))
set_option maxHeartbeats 4000000 in
set_option maxRecDepth 100000 in
theorem k_X5_partFlows (l : Launch) (D : va_G) (ads : AD) (I A : HI) (po : Option AV → HI → HI → Prop) (Iv20 : Int32 → HI → HI → Prop) (mu20 : Int32 → HI → HI → Nat) (Iv28 : Int32 → HI → HI → Int32 → HI → HI → Prop) (mu28 : Int32 → HI → HI → Int32 → HI → HI → Nat)
    (hv : (Iv20 0 (up2 (up2 I 3 12 0) 3 13 0) (filA A 12 100 (0 : Int32)) ∧ ∀ (x1_20 : Int32) (I_20 : HI) (A_20 : HI), Iv20 x1_20 I_20 A_20 → ((10 ≤ x1_20 → po none I_20 A_20) ∧ (¬ 10 ≤ x1_20 → (Iv28 x1_20 I_20 A_20 0 I_20 A_20 ∧ ∀ (x2_28 : Int32) (I_28 : HI) (A_28 : HI), Iv28 x1_20 I_20 A_20 x2_28 I_28 A_28 → ((10 ≤ x2_28 → (Iv20 (x1_20 + 1) I_28 A_28 ∧ mu20 (x1_20 + 1) I_28 A_28 < mu20 x1_20 I_20 A_20)) ∧ (¬ 10 ≤ x2_28 → (((btw A_28 x1_20 x2_28) ≤ 0 → (vp_in ((x1_20 * 10) + x2_28) 100 ∧ (Iv28 x1_20 I_20 A_20 (x2_28 + 1) I_28 (up2 A_28 12 ((x1_20 * 10) + x2_28).toNatClampNeg (btw A_28 x1_20 x2_28)) ∧ mu28 x1_20 I_20 A_20 (x2_28 + 1) I_28 (up2 A_28 12 ((x1_20 * 10) + x2_28).toNatClampNeg (btw A_28 x1_20 x2_28)) < mu28 x1_20 I_20 A_20 x2_28 I_28 A_28))) ∧ (¬ (btw A_28 x1_20 x2_28) ≤ 0 → ((vp_in x1_20 10 ∧ vp_in x2_28 10) ∧ (((trnI (A_28 10) x1_20 x2_28) = 0 → (vp_in ((x1_20 * 10) + x2_28) 100 ∧ (Iv28 x1_20 I_20 A_20 (x2_28 + 1) I_28 (up2 A_28 12 ((x1_20 * 10) + x2_28).toNatClampNeg (btw A_28 x1_20 x2_28)) ∧ mu28 x1_20 I_20 A_20 (x2_28 + 1) I_28 (up2 A_28 12 ((x1_20 * 10) + x2_28).toNatClampNeg (btw A_28 x1_20 x2_28)) < mu28 x1_20 I_20 A_20 x2_28 I_28 A_28))) ∧ (¬ (trnI (A_28 10) x1_20 x2_28) = 0 → (Iv28 x1_20 I_20 A_20 (x2_28 + 1) (up2 (up2 I_28 3 12 ((I_28 3 12) + 1)) 3 13 (((up2 I_28 3 12 ((I_28 3 12) + 1)) 3 13) + (btw A_28 x1_20 x2_28))) A_28 ∧ mu28 x1_20 I_20 A_20 (x2_28 + 1) (up2 (up2 I_28 3 12 ((I_28 3 12) + 1)) 3 13 (((up2 I_28 3 12 ((I_28 3 12) + 1)) 3 13) + (btw A_28 x1_20 x2_28))) A_28 < mu28 x1_20 I_20 A_20 x2_28 I_28 A_28))))))))))))) : Ct l yX5_partFlows cX5_partFlows 4 none 2 43 D ads shp [.inr (some 3)] I A po := by
  refine Ct_of (by decide) (Nat.le_of_ble_eq_true rfl) ?_
  intro p e s m args below meth c hC hr
  replace hC : CX p s m args meth c cX5_partFlows 4 RX5 (AdS ads s.heap.size) := hC
  show Gm p l e s m args below meth c D ads 2 43 4 po I A 0 [some (.inr (some 3)), none, none, none] []
  refine g_blk hC _ bX5_partFlows_0_5 (pc' := 5) (ls' := [some (.inr (some 3)), none, none, none]) (st' := [.inl 0, .inr (some 12)]) (I' := I) rfl rfl ?_
  refine g_callS hC (c_J7_fill_53178 l D ads I A 12 (0 : Int32) 100 (rfl) (by decide)) dX5_partFlows_5 nm_J7_fill_53178 wl_X5_99 wt_J7_fill_53178 wn_J7 wc_J7_fill_53178 ⟨by decide, by decide⟩ (as := [.inr (some 12), .inl 0]) (rest := []) rfl (Nat.le_of_ble_eq_true rfl) ⟨Nat.le_refl _, Nat.le_refl _⟩ (k_qN ?_)
  refine g_blk hC _ bX5_partFlows_8_20 (pc' := 20) (ls' := [some (.inr (some 3)), some (.inl 0), none, none]) (st' := []) (I' := up2 (up2 I 3 12 0) 3 13 0) rfl rfl ?_
  obtain ⟨hi20, hb20⟩ := hv
  have L20 : ∀ (n : Nat) (x1_20 : Int32) (I_20 : HI) (A_20 : HI), Iv20 x1_20 I_20 A_20 → mu20 x1_20 I_20 A_20 < n → Gm p l e s m args below meth c D ads 2 43 4 po I_20 A_20 20 [some (.inr (some 3)), some (.inl x1_20), none, none] [] := by
    intro n
    induction n with
    | zero => intro x1_20 I_20 A_20 _ hn; exact absurd hn (Nat.not_lt_zero _)
    | succ n ih20 =>
      intro x1_20 I_20 A_20 hv hn20
      replace hv := hb20 x1_20 I_20 A_20 hv
      skip
      refine g_blk hC _ bX5_partFlows_20_23 (pc' := 23) (ls' := [some (.inr (some 3)), some (.inl x1_20), none, none]) (st' := [.inl 10, .inl x1_20]) (I' := I_20) rfl rfl ?_
      obtain ⟨hv1, hv2⟩ := hv
      refine g_cge hC dX5_partFlows_23 (tgt := 104) (by decide) (fun hc => ?_) (fun hc => ?_)
      · have hv := hv1 hc
        clear hv1 hv2 hc
        exact g_retv hC hr dX5_partFlows_104 hv
      · have hv := hv2 hc
        clear hv1 hv2 hc
        refine g_blk hC _ bX5_partFlows_26_28 (pc' := 28) (ls' := [some (.inr (some 3)), some (.inl x1_20), some (.inl 0), none]) (st' := []) (I' := I_20) rfl rfl ?_
        obtain ⟨hi28, hb28⟩ := hv
        have L28 : ∀ (n : Nat) (x2_28 : Int32) (I_28 : HI) (A_28 : HI), Iv28 x1_20 I_20 A_20 x2_28 I_28 A_28 → mu28 x1_20 I_20 A_20 x2_28 I_28 A_28 < n → Gm p l e s m args below meth c D ads 2 43 4 po I_28 A_28 28 [some (.inr (some 3)), some (.inl x1_20), some (.inl x2_28), none] [] := by
          intro n
          induction n with
          | zero => intro x2_28 I_28 A_28 _ hn; exact absurd hn (Nat.not_lt_zero _)
          | succ n ih28 =>
            intro x2_28 I_28 A_28 hv hn28
            replace hv := hb28 x2_28 I_28 A_28 hv
            skip
            refine g_blk hC _ bX5_partFlows_28_31 (pc' := 31) (ls' := [some (.inr (some 3)), some (.inl x1_20), some (.inl x2_28), none]) (st' := [.inl 10, .inl x2_28]) (I' := I_28) rfl rfl ?_
            obtain ⟨hv1, hv2⟩ := hv
            refine g_cge hC dX5_partFlows_31 (tgt := 98) (by decide) (fun hc => ?_) (fun hc => ?_)
            · have hv := hv1 hc
              clear hv1 hv2 hc
              refine g_blk hC _ bX5_partFlows_98_101 (pc' := 101) (ls' := [some (.inr (some 3)), some (.inl (x1_20 + 1)), some (.inl x2_28), none]) (st' := []) (I' := I_28) rfl rfl ?_
              refine g_goto hC dX5_partFlows_101 (tgt := 20) (by decide) ?_
              exact g_weak (ls1 := [some (.inr (some 3)), some (.inl (x1_20 + 1)), none, none]) rfl (And.intro rfl (And.intro rfl trivial)) (ih20 (x1_20 + 1) I_28 A_28 hv.1 (Nat.lt_of_lt_of_le hv.2 (Nat.le_of_lt_succ hn20)))
            · have hv := hv2 hc
              clear hv1 hv2 hc
              refine g_blk hC _ bX5_partFlows_34_40 (pc' := 40) (ls' := [some (.inr (some 3)), some (.inl x1_20), some (.inl x2_28), none]) (st' := [.inl x2_28, .inl x1_20, .inr (some 1)]) (I' := I_28) rfl rfl ?_
              refine g_callV hC (c_X2_between l D ads I_28 A_28 x1_20 x2_28) dX5_partFlows_40 nm_X2_between rfl rfl wl_X5_84 wi_X2_between ws_X2_between wn_X2 wc_X2_between ⟨by decide, by decide⟩ (as := [.inl x1_20, .inl x2_28]) (rest := []) rfl (Nat.le_of_ble_eq_true rfl) ⟨Nat.le_refl _, Nat.le_refl _⟩ (k_qI ?_)
              refine g_blk hC _ bX5_partFlows_43_45 (pc' := 45) (ls' := [some (.inr (some 3)), some (.inl x1_20), some (.inl x2_28), some (.inl (btw A_28 x1_20 x2_28))]) (st' := [.inl (btw A_28 x1_20 x2_28)]) (I' := I_28) rfl rfl ?_
              obtain ⟨hv1, hv2⟩ := hv
              refine g_ifle hC dX5_partFlows_45 (tgt := 80) (by decide) (fun hc => ?_) (fun hc => ?_)
              · have hv := hv1 hc
                clear hv1 hv2 hc
                refine g_blk hC _ bX5_partFlows_80_91 (pc' := 91) (ls' := [some (.inr (some 3)), some (.inl x1_20), some (.inl x2_28), some (.inl (btw A_28 x1_20 x2_28))]) (st' := [.inl (btw A_28 x1_20 x2_28), .inl ((x1_20 * 10) + x2_28), .inr (some 12)]) (I' := I_28) rfl rfl ?_
                obtain ⟨hi, hv⟩ := hv
                refine g_iast hC dX5_partFlows_91 (rfl) hi ?_
                clear hi
                refine g_blk hC _ bX5_partFlows_92_95 (pc' := 95) (ls' := [some (.inr (some 3)), some (.inl x1_20), some (.inl (x2_28 + 1)), some (.inl (btw A_28 x1_20 x2_28))]) (st' := []) (I' := I_28) rfl rfl ?_
                refine g_goto hC dX5_partFlows_95 (tgt := 28) (by decide) ?_
                exact g_weak (ls1 := [some (.inr (some 3)), some (.inl x1_20), some (.inl (x2_28 + 1)), none]) rfl (And.intro rfl (And.intro rfl (And.intro rfl trivial))) (ih28 (x2_28 + 1) I_28 (up2 A_28 12 ((x1_20 * 10) + x2_28).toNatClampNeg (btw A_28 x1_20 x2_28)) hv.1 (Nat.lt_of_lt_of_le hv.2 (Nat.le_of_lt_succ hn28)))
              · have hv := hv2 hc
                clear hv1 hv2 hc
                refine g_blk hC _ bX5_partFlows_48_51 (pc' := 51) (ls' := [some (.inr (some 3)), some (.inl x1_20), some (.inl x2_28), some (.inl (btw A_28 x1_20 x2_28))]) (st' := [.inl x2_28, .inl x1_20, .inr (some 3)]) (I' := I_28) rfl rfl ?_
                obtain ⟨hp3, hv⟩ := hv
                refine g_callV hC (c_X5_turns l D ads I_28 A_28 x1_20 x2_28 hp3) dX5_partFlows_51 nm_X5_turns rfl rfl wl_X5_109 wi_X5_turns ws_X5_turns wn_X5 wc_X5_turns ⟨by decide, by decide⟩ (as := [.inl x1_20, .inl x2_28]) (rest := []) rfl (Nat.le_of_ble_eq_true rfl) ⟨Nat.le_refl _, Nat.le_refl _⟩ (k_qI ?_)
                obtain ⟨hv1, hv2⟩ := hv
                refine g_ifeq hC dX5_partFlows_54 (tgt := 80) (by decide) (fun hc => ?_) (fun hc => ?_)
                · have hv := hv1 hc
                  clear hv1 hv2 hc
                  refine g_blk hC _ bX5_partFlows_80_91 (pc' := 91) (ls' := [some (.inr (some 3)), some (.inl x1_20), some (.inl x2_28), some (.inl (btw A_28 x1_20 x2_28))]) (st' := [.inl (btw A_28 x1_20 x2_28), .inl ((x1_20 * 10) + x2_28), .inr (some 12)]) (I' := I_28) rfl rfl ?_
                  obtain ⟨hi, hv⟩ := hv
                  refine g_iast hC dX5_partFlows_91 (rfl) hi ?_
                  clear hi
                  refine g_blk hC _ bX5_partFlows_92_95 (pc' := 95) (ls' := [some (.inr (some 3)), some (.inl x1_20), some (.inl (x2_28 + 1)), some (.inl (btw A_28 x1_20 x2_28))]) (st' := []) (I' := I_28) rfl rfl ?_
                  refine g_goto hC dX5_partFlows_95 (tgt := 28) (by decide) ?_
                  exact g_weak (ls1 := [some (.inr (some 3)), some (.inl x1_20), some (.inl (x2_28 + 1)), none]) rfl (And.intro rfl (And.intro rfl (And.intro rfl trivial))) (ih28 (x2_28 + 1) I_28 (up2 A_28 12 ((x1_20 * 10) + x2_28).toNatClampNeg (btw A_28 x1_20 x2_28)) hv.1 (Nat.lt_of_lt_of_le hv.2 (Nat.le_of_lt_succ hn28)))
                · have hv := hv2 hc
                  clear hv1 hv2 hc
                  refine g_blk hC _ bX5_partFlows_57_77 (pc' := 77) (ls' := [some (.inr (some 3)), some (.inl x1_20), some (.inl x2_28), some (.inl (btw A_28 x1_20 x2_28))]) (st' := []) (I' := up2 (up2 I_28 3 12 ((I_28 3 12) + 1)) 3 13 (((up2 I_28 3 12 ((I_28 3 12) + 1)) 3 13) + (btw A_28 x1_20 x2_28))) rfl rfl ?_
                  refine g_goto hC dX5_partFlows_77 (tgt := 92) (by decide) ?_
                  refine g_blk hC _ bX5_partFlows_92_95 (pc' := 95) (ls' := [some (.inr (some 3)), some (.inl x1_20), some (.inl (x2_28 + 1)), some (.inl (btw A_28 x1_20 x2_28))]) (st' := []) (I' := up2 (up2 I_28 3 12 ((I_28 3 12) + 1)) 3 13 (((up2 I_28 3 12 ((I_28 3 12) + 1)) 3 13) + (btw A_28 x1_20 x2_28))) rfl rfl ?_
                  refine g_goto hC dX5_partFlows_95 (tgt := 28) (by decide) ?_
                  exact g_weak (ls1 := [some (.inr (some 3)), some (.inl x1_20), some (.inl (x2_28 + 1)), none]) rfl (And.intro rfl (And.intro rfl (And.intro rfl trivial))) (ih28 (x2_28 + 1) (up2 (up2 I_28 3 12 ((I_28 3 12) + 1)) 3 13 (((up2 I_28 3 12 ((I_28 3 12) + 1)) 3 13) + (btw A_28 x1_20 x2_28))) A_28 hv.1 (Nat.lt_of_lt_of_le hv.2 (Nat.le_of_lt_succ hn28)))
        exact g_weak (ls1 := [some (.inr (some 3)), some (.inl x1_20), some (.inl 0), none]) rfl (And.intro rfl (And.intro rfl (And.intro rfl trivial))) (L28 _ 0 I_20 A_20 hi28 (Nat.lt_succ_self _))
  exact g_weak (ls1 := [some (.inr (some 3)), some (.inl 0), none, none]) rfl (And.intro rfl (And.intro rfl trivial)) (L20 _ 0 (up2 (up2 I 3 12 0) 3 13 0) (filA A 12 100 (0 : Int32)) hi20 (Nat.lt_succ_self _))
theorem bX5_putInLayers_0_5 : okB cX5_putInLayers RX5 0 [(5, 0, 0, 0, 0), (23, 37, 5, 9, 0), (0, 0, 0, 0, (-1))] := And.intro ⟨_, dX5_putInLayers_0, rfl⟩ (And.intro ⟨dX5_putInLayers_1, fl_X5_37⟩ (And.intro ⟨_, dX5_putInLayers_4, by decide⟩ trivial))
theorem bX5_putInLayers_8_15 : okB cX5_putInLayers RX5 8 [(5, 0, 0, 0, 0), (0, 0, 0, 0, 0), (24, 43, 5, 11, 0), (0, 0, 0, 0, 0), (7, 1, 0, 0, 0)] := And.intro ⟨_, dX5_putInLayers_8, rfl⟩ (And.intro ⟨_, dX5_putInLayers_9, by decide⟩ (And.intro ⟨dX5_putInLayers_10, fl_X5_43, rfl, rfl⟩ (And.intro ⟨_, dX5_putInLayers_13, by decide⟩ (And.intro ⟨_, dX5_putInLayers_14, rfl⟩ trivial))))
theorem bX5_putInLayers_15_20 : okB cX5_putInLayers RX5 15 [(3, 1, 0, 0, 0), (5, 0, 0, 0, 0), (23, 15, 5, 2, 0)] := And.intro ⟨_, dX5_putInLayers_15, rfl⟩ (And.intro ⟨_, dX5_putInLayers_16, rfl⟩ (And.intro ⟨dX5_putInLayers_17, fl_X5_15⟩ trivial))
theorem bX5_putInLayers_23_27 : okB cX5_putInLayers RX5 23 [(0, 0, 0, 0, 0), (7, 2, 0, 0, 0), (0, 0, 0, 0, 0), (7, 3, 0, 0, 0)] := And.intro ⟨_, dX5_putInLayers_23, by decide⟩ (And.intro ⟨_, dX5_putInLayers_24, rfl⟩ (And.intro ⟨_, dX5_putInLayers_25, by decide⟩ (And.intro ⟨_, dX5_putInLayers_26, rfl⟩ trivial)))
theorem bX5_putInLayers_27_29 : okB cX5_putInLayers RX5 27 [(3, 3, 0, 0, 0), (3, 1, 0, 0, 0)] := And.intro ⟨_, dX5_putInLayers_27, rfl⟩ (And.intro ⟨_, dX5_putInLayers_28, rfl⟩ trivial)
theorem bX5_putInLayers_75_84 : okB cX5_putInLayers RX5 75 [(5, 0, 0, 0, 0), (23, 37, 5, 9, 0), (5, 0, 0, 0, 0), (23, 31, 5, 7, 0), (3, 1, 0, 0, 0)] := And.intro ⟨_, dX5_putInLayers_75, rfl⟩ (And.intro ⟨dX5_putInLayers_76, fl_X5_37⟩ (And.intro ⟨_, dX5_putInLayers_79, rfl⟩ (And.intro ⟨dX5_putInLayers_80, fl_X5_31⟩ (And.intro ⟨_, dX5_putInLayers_83, rfl⟩ trivial))))
theorem bX5_putInLayers_85_86 : okB cX5_putInLayers RX5 85 [(3, 2, 0, 0, 0)] := And.intro ⟨_, dX5_putInLayers_85, rfl⟩ trivial
theorem bX5_putInLayers_87_95 : okB cX5_putInLayers RX5 87 [(5, 0, 0, 0, 0), (5, 0, 0, 0, 0), (23, 43, 5, 11, 0), (3, 2, 0, 0, 0), (0, 0, 0, 0, 1), (12, 0, 0, 0, 0)] := And.intro ⟨_, dX5_putInLayers_87, rfl⟩ (And.intro ⟨_, dX5_putInLayers_88, rfl⟩ (And.intro ⟨dX5_putInLayers_89, fl_X5_43⟩ (And.intro ⟨_, dX5_putInLayers_92, rfl⟩ (And.intro ⟨_, dX5_putInLayers_93, by decide⟩ (And.intro dX5_putInLayers_94 trivial)))))
theorem bX5_putInLayers_98_104 : okB cX5_putInLayers RX5 98 [(24, 43, 5, 11, 0), (11, 1, 0, 0, 1)] := And.intro ⟨dX5_putInLayers_98, fl_X5_43, rfl, rfl⟩ (And.intro ⟨_, dX5_putInLayers_101, by decide⟩ trivial)
theorem bX5_putInLayers_32_38 : okB cX5_putInLayers RX5 32 [(5, 0, 0, 0, 0), (5, 0, 0, 0, 0), (23, 31, 5, 7, 0), (3, 3, 0, 0, 0)] := And.intro ⟨_, dX5_putInLayers_32, rfl⟩ (And.intro ⟨_, dX5_putInLayers_33, rfl⟩ (And.intro ⟨dX5_putInLayers_34, fl_X5_31⟩ (And.intro ⟨_, dX5_putInLayers_37, rfl⟩ trivial)))
theorem bX5_putInLayers_39_44 : okB cX5_putInLayers RX5 39 [(5, 0, 0, 0, 0), (23, 31, 5, 7, 0), (3, 1, 0, 0, 0)] := And.intro ⟨_, dX5_putInLayers_39, rfl⟩ (And.intro ⟨dX5_putInLayers_40, fl_X5_31⟩ (And.intro ⟨_, dX5_putInLayers_43, rfl⟩ trivial))
theorem bX5_putInLayers_69_72 : okB cX5_putInLayers RX5 69 [(11, 3, 0, 0, 1)] := And.intro ⟨_, dX5_putInLayers_69, by decide⟩ trivial
theorem bX5_putInLayers_51_61 : okB cX5_putInLayers RX5 51 [(3, 2, 0, 0, 0), (5, 0, 0, 0, 0), (23, 37, 5, 9, 0), (5, 0, 0, 0, 0), (23, 31, 5, 7, 0), (3, 3, 0, 0, 0)] := And.intro ⟨_, dX5_putInLayers_51, rfl⟩ (And.intro ⟨_, dX5_putInLayers_52, rfl⟩ (And.intro ⟨dX5_putInLayers_53, fl_X5_37⟩ (And.intro ⟨_, dX5_putInLayers_56, rfl⟩ (And.intro ⟨dX5_putInLayers_57, fl_X5_31⟩ (And.intro ⟨_, dX5_putInLayers_60, rfl⟩ trivial)))))
theorem bX5_putInLayers_63_65 : okB cX5_putInLayers RX5 63 [(0, 0, 0, 0, 1), (12, 0, 0, 0, 0)] := And.intro ⟨_, dX5_putInLayers_63, by decide⟩ (And.intro dX5_putInLayers_64 trivial)
theorem bX5_putInLayers_68_72 : okB cX5_putInLayers RX5 68 [(7, 2, 0, 0, 0), (11, 3, 0, 0, 1)] := And.intro ⟨_, dX5_putInLayers_68, rfl⟩ (And.intro ⟨_, dX5_putInLayers_69, by decide⟩ trivial)
set_option maxHeartbeats 4000000 in
set_option maxRecDepth 100000 in
theorem k_X5_putInLayers (l : Launch) (D : va_G) (ads : AD) (I A : HI) (po : Option AV → HI → HI → Prop) (Iv15 : Int32 → HI → HI → Prop) (mu15 : Int32 → HI → HI → Nat) (Iv27 : Int32 → HI → HI → Int32 → Int32 → Prop) (mu27 : Int32 → HI → HI → Int32 → Int32 → Nat)
    (hv : (Iv15 0 (up2 I 3 11 0) (filA A 11 10 ((-1))) ∧ ∀ (x1_15 : Int32) (I_15 : HI) (A_15 : HI), Iv15 x1_15 I_15 A_15 → (((I_15 3 2) ≤ x1_15 → po none I_15 A_15) ∧ (¬ (I_15 3 2) ≤ x1_15 → (Iv27 x1_15 I_15 A_15 0 0 ∧ ∀ (x2_27 : Int32) (x3_27 : Int32), Iv27 x1_15 I_15 A_15 x2_27 x3_27 → ((x1_15 ≤ x3_27 → (vp_in x1_15 10 ∧ (vp_in (A_15 9 x1_15.toNatClampNeg) 10 ∧ (Iv15 (x1_15 + 1) (up2 I_15 3 11 (mxI (I_15 3 11) (x2_27 + 1))) (up2 A_15 11 (A_15 9 x1_15.toNatClampNeg).toNatClampNeg x2_27) ∧ mu15 (x1_15 + 1) (up2 I_15 3 11 (mxI (I_15 3 11) (x2_27 + 1))) (up2 A_15 11 (A_15 9 x1_15.toNatClampNeg).toNatClampNeg x2_27) < mu15 x1_15 I_15 A_15)))) ∧ (¬ x1_15 ≤ x3_27 → (vp_in x3_27 10 ∧ (vp_in x1_15 10 ∧ (((strI A_15 (A_15 9 x3_27.toNatClampNeg) (A_15 9 x1_15.toNatClampNeg)) ≤ 0 → (Iv27 x1_15 I_15 A_15 x2_27 (x3_27 + 1) ∧ mu27 x1_15 I_15 A_15 x2_27 (x3_27 + 1) < mu27 x1_15 I_15 A_15 x2_27 x3_27)) ∧ (¬ (strI A_15 (A_15 9 x3_27.toNatClampNeg) (A_15 9 x1_15.toNatClampNeg)) ≤ 0 → (vp_in x3_27 10 ∧ (vp_in (A_15 9 x3_27.toNatClampNeg) 10 ∧ (Iv27 x1_15 I_15 A_15 (mxI x2_27 ((A_15 11 (A_15 9 x3_27.toNatClampNeg).toNatClampNeg) + 1)) (x3_27 + 1) ∧ mu27 x1_15 I_15 A_15 (mxI x2_27 ((A_15 11 (A_15 9 x3_27.toNatClampNeg).toNatClampNeg) + 1)) (x3_27 + 1) < mu27 x1_15 I_15 A_15 x2_27 x3_27)))))))))))))) : Ct l yX5_putInLayers cX5_putInLayers 4 none 2 43 D ads shp [.inr (some 3)] I A po := by
  refine Ct_of (by decide) (Nat.le_of_ble_eq_true rfl) ?_
  intro p e s m args below meth c hC hr
  replace hC : CX p s m args meth c cX5_putInLayers 4 RX5 (AdS ads s.heap.size) := hC
  show Gm p l e s m args below meth c D ads 2 43 4 po I A 0 [some (.inr (some 3)), none, none, none] []
  refine g_blk hC _ bX5_putInLayers_0_5 (pc' := 5) (ls' := [some (.inr (some 3)), none, none, none]) (st' := [.inl ((-1)), .inr (some 11)]) (I' := I) rfl rfl ?_
  refine g_callS hC (c_J7_fill_53178 l D ads I A 11 ((-1)) 10 (rfl) (by decide)) dX5_putInLayers_5 nm_J7_fill_53178 wl_X5_99 wt_J7_fill_53178 wn_J7 wc_J7_fill_53178 ⟨by decide, by decide⟩ (as := [.inr (some 11), .inl ((-1))]) (rest := []) rfl (Nat.le_of_ble_eq_true rfl) ⟨Nat.le_refl _, Nat.le_refl _⟩ (k_qN ?_)
  refine g_blk hC _ bX5_putInLayers_8_15 (pc' := 15) (ls' := [some (.inr (some 3)), some (.inl 0), none, none]) (st' := []) (I' := up2 I 3 11 0) rfl rfl ?_
  obtain ⟨hi15, hb15⟩ := hv
  have L15 : ∀ (n : Nat) (x1_15 : Int32) (I_15 : HI) (A_15 : HI), Iv15 x1_15 I_15 A_15 → mu15 x1_15 I_15 A_15 < n → Gm p l e s m args below meth c D ads 2 43 4 po I_15 A_15 15 [some (.inr (some 3)), some (.inl x1_15), none, none] [] := by
    intro n
    induction n with
    | zero => intro x1_15 I_15 A_15 _ hn; exact absurd hn (Nat.not_lt_zero _)
    | succ n ih15 =>
      intro x1_15 I_15 A_15 hv hn15
      replace hv := hb15 x1_15 I_15 A_15 hv
      skip
      refine g_blk hC _ bX5_putInLayers_15_20 (pc' := 20) (ls' := [some (.inr (some 3)), some (.inl x1_15), none, none]) (st' := [.inl (I_15 3 2), .inl x1_15]) (I' := I_15) rfl rfl ?_
      obtain ⟨hv1, hv2⟩ := hv
      refine g_cge hC dX5_putInLayers_20 (tgt := 107) (by decide) (fun hc => ?_) (fun hc => ?_)
      · have hv := hv1 hc
        clear hv1 hv2 hc
        exact g_retv hC hr dX5_putInLayers_107 hv
      · have hv := hv2 hc
        clear hv1 hv2 hc
        refine g_blk hC _ bX5_putInLayers_23_27 (pc' := 27) (ls' := [some (.inr (some 3)), some (.inl x1_15), some (.inl 0), some (.inl 0)]) (st' := []) (I' := I_15) rfl rfl ?_
        obtain ⟨hi27, hb27⟩ := hv
        have L27 : ∀ (n : Nat) (x2_27 : Int32) (x3_27 : Int32), Iv27 x1_15 I_15 A_15 x2_27 x3_27 → mu27 x1_15 I_15 A_15 x2_27 x3_27 < n → Gm p l e s m args below meth c D ads 2 43 4 po I_15 A_15 27 [some (.inr (some 3)), some (.inl x1_15), some (.inl x2_27), some (.inl x3_27)] [] := by
          intro n
          induction n with
          | zero => intro x2_27 x3_27 _ hn; exact absurd hn (Nat.not_lt_zero _)
          | succ n ih27 =>
            intro x2_27 x3_27 hv hn27
            replace hv := hb27 x2_27 x3_27 hv
            skip
            refine g_blk hC _ bX5_putInLayers_27_29 (pc' := 29) (ls' := [some (.inr (some 3)), some (.inl x1_15), some (.inl x2_27), some (.inl x3_27)]) (st' := [.inl x1_15, .inl x3_27]) (I' := I_15) rfl rfl ?_
            obtain ⟨hv1, hv2⟩ := hv
            refine g_cge hC dX5_putInLayers_29 (tgt := 75) (by decide) (fun hc => ?_) (fun hc => ?_)
            · have hv := hv1 hc
              clear hv1 hv2 hc
              refine g_blk hC _ bX5_putInLayers_75_84 (pc' := 84) (ls' := [some (.inr (some 3)), some (.inl x1_15), some (.inl x2_27), some (.inl x3_27)]) (st' := [.inl x1_15, .inr (some 9), .inr (some 11)]) (I' := I_15) rfl rfl ?_
              obtain ⟨hi, hv⟩ := hv
              refine g_iald hC dX5_putInLayers_84 (rfl) hi ?_
              clear hi
              refine g_blk hC _ bX5_putInLayers_85_86 (pc' := 86) (ls' := [some (.inr (some 3)), some (.inl x1_15), some (.inl x2_27), some (.inl x3_27)]) (st' := [.inl x2_27, .inl (A_15 9 x1_15.toNatClampNeg), .inr (some 11)]) (I' := I_15) rfl rfl ?_
              obtain ⟨hi, hv⟩ := hv
              refine g_iast hC dX5_putInLayers_86 (rfl) hi ?_
              clear hi
              refine g_blk hC _ bX5_putInLayers_87_95 (pc' := 95) (ls' := [some (.inr (some 3)), some (.inl x1_15), some (.inl x2_27), some (.inl x3_27)]) (st' := [.inl (x2_27 + 1), .inl (I_15 3 11), .inr (some 3)]) (I' := I_15) rfl rfl ?_
              refine g_max hC dX5_putInLayers_95 wl_X5_115 (by decide) (Nat.le_of_ble_eq_true rfl) ⟨Nat.le_refl _, Nat.le_refl _⟩ ?_
              refine g_blk hC _ bX5_putInLayers_98_104 (pc' := 104) (ls' := [some (.inr (some 3)), some (.inl (x1_15 + 1)), some (.inl x2_27), some (.inl x3_27)]) (st' := []) (I' := up2 I_15 3 11 (mxI (I_15 3 11) (x2_27 + 1))) rfl rfl ?_
              refine g_goto hC dX5_putInLayers_104 (tgt := 15) (by decide) ?_
              exact g_weak (ls1 := [some (.inr (some 3)), some (.inl (x1_15 + 1)), none, none]) rfl (And.intro rfl (And.intro rfl trivial)) (ih15 (x1_15 + 1) (up2 I_15 3 11 (mxI (I_15 3 11) (x2_27 + 1))) (up2 A_15 11 (A_15 9 x1_15.toNatClampNeg).toNatClampNeg x2_27) hv.1 (Nat.lt_of_lt_of_le hv.2 (Nat.le_of_lt_succ hn15)))
            · have hv := hv2 hc
              clear hv1 hv2 hc
              refine g_blk hC _ bX5_putInLayers_32_38 (pc' := 38) (ls' := [some (.inr (some 3)), some (.inl x1_15), some (.inl x2_27), some (.inl x3_27)]) (st' := [.inl x3_27, .inr (some 9), .inr (some 3)]) (I' := I_15) rfl rfl ?_
              obtain ⟨hi, hv⟩ := hv
              refine g_iald hC dX5_putInLayers_38 (rfl) hi ?_
              clear hi
              refine g_blk hC _ bX5_putInLayers_39_44 (pc' := 44) (ls' := [some (.inr (some 3)), some (.inl x1_15), some (.inl x2_27), some (.inl x3_27)]) (st' := [.inl x1_15, .inr (some 9), .inl (A_15 9 x3_27.toNatClampNeg), .inr (some 3)]) (I' := I_15) rfl rfl ?_
              obtain ⟨hi, hv⟩ := hv
              refine g_iald hC dX5_putInLayers_44 (rfl) hi ?_
              clear hi
              refine g_callV hC (c_X5_straight l D ads I_15 A_15 (A_15 9 x3_27.toNatClampNeg) (A_15 9 x1_15.toNatClampNeg)) dX5_putInLayers_45 nm_X5_straight rfl rfl wl_X5_112 wi_X5_straight ws_X5_straight wn_X5 wc_X5_straight ⟨by decide, by decide⟩ (as := [.inl (A_15 9 x3_27.toNatClampNeg), .inl (A_15 9 x1_15.toNatClampNeg)]) (rest := []) rfl (Nat.le_of_ble_eq_true rfl) ⟨Nat.le_refl _, Nat.le_refl _⟩ (k_qI ?_)
              obtain ⟨hv1, hv2⟩ := hv
              refine g_ifle hC dX5_putInLayers_48 (tgt := 69) (by decide) (fun hc => ?_) (fun hc => ?_)
              · have hv := hv1 hc
                clear hv1 hv2 hc
                refine g_blk hC _ bX5_putInLayers_69_72 (pc' := 72) (ls' := [some (.inr (some 3)), some (.inl x1_15), some (.inl x2_27), some (.inl (x3_27 + 1))]) (st' := []) (I' := I_15) rfl rfl ?_
                refine g_goto hC dX5_putInLayers_72 (tgt := 27) (by decide) ?_
                exact g_weak (ls1 := [some (.inr (some 3)), some (.inl x1_15), some (.inl x2_27), some (.inl (x3_27 + 1))]) rfl (And.intro rfl (And.intro rfl (And.intro rfl (And.intro rfl trivial)))) (ih27 x2_27 (x3_27 + 1) hv.1 (Nat.lt_of_lt_of_le hv.2 (Nat.le_of_lt_succ hn27)))
              · have hv := hv2 hc
                clear hv1 hv2 hc
                refine g_blk hC _ bX5_putInLayers_51_61 (pc' := 61) (ls' := [some (.inr (some 3)), some (.inl x1_15), some (.inl x2_27), some (.inl x3_27)]) (st' := [.inl x3_27, .inr (some 9), .inr (some 11), .inl x2_27]) (I' := I_15) rfl rfl ?_
                obtain ⟨hi, hv⟩ := hv
                refine g_iald hC dX5_putInLayers_61 (rfl) hi ?_
                clear hi
                obtain ⟨hi, hv⟩ := hv
                refine g_iald hC dX5_putInLayers_62 (rfl) hi ?_
                clear hi
                refine g_blk hC _ bX5_putInLayers_63_65 (pc' := 65) (ls' := [some (.inr (some 3)), some (.inl x1_15), some (.inl x2_27), some (.inl x3_27)]) (st' := [.inl ((A_15 11 (A_15 9 x3_27.toNatClampNeg).toNatClampNeg) + 1), .inl x2_27]) (I' := I_15) rfl rfl ?_
                refine g_max hC dX5_putInLayers_65 wl_X5_115 (by decide) (Nat.le_of_ble_eq_true rfl) ⟨Nat.le_refl _, Nat.le_refl _⟩ ?_
                refine g_blk hC _ bX5_putInLayers_68_72 (pc' := 72) (ls' := [some (.inr (some 3)), some (.inl x1_15), some (.inl (mxI x2_27 ((A_15 11 (A_15 9 x3_27.toNatClampNeg).toNatClampNeg) + 1))), some (.inl (x3_27 + 1))]) (st' := []) (I' := I_15) rfl rfl ?_
                refine g_goto hC dX5_putInLayers_72 (tgt := 27) (by decide) ?_
                exact g_weak (ls1 := [some (.inr (some 3)), some (.inl x1_15), some (.inl (mxI x2_27 ((A_15 11 (A_15 9 x3_27.toNatClampNeg).toNatClampNeg) + 1))), some (.inl (x3_27 + 1))]) rfl (And.intro rfl (And.intro rfl (And.intro rfl (And.intro rfl trivial)))) (ih27 (mxI x2_27 ((A_15 11 (A_15 9 x3_27.toNatClampNeg).toNatClampNeg) + 1)) (x3_27 + 1) hv.1 (Nat.lt_of_lt_of_le hv.2 (Nat.le_of_lt_succ hn27)))
        exact g_weak (ls1 := [some (.inr (some 3)), some (.inl x1_15), some (.inl 0), some (.inl 0)]) rfl (And.intro rfl (And.intro rfl (And.intro rfl (And.intro rfl trivial)))) (L27 _ 0 0 hi27 (Nat.lt_succ_self _))
  exact g_weak (ls1 := [some (.inr (some 3)), some (.inl 0), none, none]) rfl (And.intro rfl (And.intro rfl trivial)) (L15 _ 0 (up2 I 3 11 0) (filA A 11 10 ((-1))) hi15 (Nat.lt_succ_self _))
theorem bX5_rank_0_1 : okB cX5_rank RX5 0 [(5, 0, 0, 0, 0)] := And.intro ⟨_, dX5_rank_0, rfl⟩ trivial
theorem bX5_rank_4_5 : okB cX5_rank RX5 4 [(5, 0, 0, 0, 0)] := And.intro ⟨_, dX5_rank_4, rfl⟩ trivial
theorem bX5_rank_8_9 : okB cX5_rank RX5 8 [(5, 0, 0, 0, 0)] := And.intro ⟨_, dX5_rank_8, rfl⟩ trivial
theorem bX5_rank_12_13 : okB cX5_rank RX5 12 [(5, 0, 0, 0, 0)] := And.intro ⟨_, dX5_rank_12, rfl⟩ trivial
theorem bX5_rank_16_17 : okB cX5_rank RX5 16 [(5, 0, 0, 0, 0)] := And.intro ⟨_, dX5_rank_16, rfl⟩ trivial
theorem bX5_rank_20_21 : okB cX5_rank RX5 20 [(5, 0, 0, 0, 0)] := And.intro ⟨_, dX5_rank_20, rfl⟩ trivial
set_option maxHeartbeats 4000000 in
set_option maxRecDepth 100000 in
theorem k_X5_rank (l : Launch) (D : va_G) (ads : AD) (I A : HI) (po : Option AV → HI → HI → Prop) {qq_X5_gatherUsed : HI → HI → HI → HI → Prop} (hh_X5_gatherUsed : ∀ (I A : HI), Ct l yX5_gatherUsed cX5_gatherUsed 2 none 1 22 D ads shp [.inr (some 3)] I A (qV (qq_X5_gatherUsed I A))) {pp_X5_gatherSources : HI → HI → Prop} {qq_X5_gatherSources : HI → HI → HI → HI → Prop} (hh_X5_gatherSources : ∀ (I A : HI), pp_X5_gatherSources I A → Ct l yX5_gatherSources cX5_gatherSources 5 none 2 43 D ads shp [.inr (some 3)] I A (qV (qq_X5_gatherSources I A))) {pp_X5_weighSets : HI → HI → Prop} {qq_X5_weighSets : HI → HI → HI → HI → Prop} (hh_X5_weighSets : ∀ (I A : HI), pp_X5_weighSets I A → Ct l yX5_weighSets cX5_weighSets 5 none 1 24 D ads shp [.inr (some 3)] I A (qV (qq_X5_weighSets I A))) {pp_X5_lineUp : HI → HI → Prop} {qq_X5_lineUp : HI → HI → HI → HI → Prop} (hh_X5_lineUp : ∀ (I A : HI), pp_X5_lineUp I A → Ct l yX5_lineUp cX5_lineUp 4 none 2 47 D ads shp [.inr (some 3)] I A (qV (qq_X5_lineUp I A))) {qq_X5_partFlows : HI → HI → HI → HI → Prop} (hh_X5_partFlows : ∀ (I A : HI), Ct l yX5_partFlows cX5_partFlows 4 none 2 43 D ads shp [.inr (some 3)] I A (qV (qq_X5_partFlows I A))) {pp_X5_putInLayers : HI → HI → Prop} {qq_X5_putInLayers : HI → HI → HI → HI → Prop} (hh_X5_putInLayers : ∀ (I A : HI), pp_X5_putInLayers I A → Ct l yX5_putInLayers cX5_putInLayers 4 none 2 43 D ads shp [.inr (some 3)] I A (qV (qq_X5_putInLayers I A)))
    (hv : (∀ (I2 A2 : HI), qq_X5_gatherUsed I A I2 A2 → ((pp_X5_gatherSources I2 A2) ∧ (∀ (I4 A4 : HI), qq_X5_gatherSources I2 A2 I4 A4 → ((pp_X5_weighSets I4 A4) ∧ (∀ (I6 A6 : HI), qq_X5_weighSets I4 A4 I6 A6 → ((pp_X5_lineUp I6 A6) ∧ (∀ (I8 A8 : HI), qq_X5_lineUp I6 A6 I8 A8 → (∀ (I10 A10 : HI), qq_X5_partFlows I8 A8 I10 A10 → ((pp_X5_putInLayers I10 A10) ∧ (∀ (I12 A12 : HI), qq_X5_putInLayers I10 A10 I12 A12 → po none I12 A12))))))))))) : Ct l yX5_rank cX5_rank 1 none 3 70 D ads shp [.inr (some 3)] I A po := by
  refine Ct_of (by decide) (Nat.le_of_ble_eq_true rfl) ?_
  intro p e s m args below meth c hC hr
  replace hC : CX p s m args meth c cX5_rank 1 RX5 (AdS ads s.heap.size) := hC
  show Gm p l e s m args below meth c D ads 3 70 1 po I A 0 [some (.inr (some 3))] []
  refine g_blk hC _ bX5_rank_0_1 (pc' := 1) (ls' := [some (.inr (some 3))]) (st' := [.inr (some 3)]) (I' := I) rfl rfl ?_
  refine g_callV hC (hh_X5_gatherUsed I A ) dX5_rank_1 nm_X5_gatherUsed rfl rfl wl_X5_56 wi_X5_gatherUsed ws_X5_gatherUsed wn_X5 wc_X5_gatherUsed ⟨by decide, by decide⟩ (as := []) (rest := []) rfl (Nat.le_of_ble_eq_true rfl) ⟨Nat.le_refl _, Nat.le_refl _⟩ (k_qV ?_)
  intro I2 A2 hq2
  replace hv := hv I2 A2 hq2
  refine g_blk hC _ bX5_rank_4_5 (pc' := 5) (ls' := [some (.inr (some 3))]) (st' := [.inr (some 3)]) (I' := I2) rfl rfl ?_
  obtain ⟨hp3, hv⟩ := hv
  refine g_callV hC (hh_X5_gatherSources I2 A2  hp3) dX5_rank_5 nm_X5_gatherSources rfl rfl wl_X5_59 wi_X5_gatherSources ws_X5_gatherSources wn_X5 wc_X5_gatherSources ⟨by decide, by decide⟩ (as := []) (rest := []) rfl (Nat.le_of_ble_eq_true rfl) ⟨Nat.le_refl _, Nat.le_refl _⟩ (k_qV ?_)
  intro I4 A4 hq4
  replace hv := hv I4 A4 hq4
  refine g_blk hC _ bX5_rank_8_9 (pc' := 9) (ls' := [some (.inr (some 3))]) (st' := [.inr (some 3)]) (I' := I4) rfl rfl ?_
  obtain ⟨hp5, hv⟩ := hv
  refine g_callV hC (hh_X5_weighSets I4 A4  hp5) dX5_rank_9 nm_X5_weighSets rfl rfl wl_X5_62 wi_X5_weighSets ws_X5_weighSets wn_X5 wc_X5_weighSets ⟨by decide, by decide⟩ (as := []) (rest := []) rfl (Nat.le_of_ble_eq_true rfl) ⟨Nat.le_refl _, Nat.le_refl _⟩ (k_qV ?_)
  intro I6 A6 hq6
  replace hv := hv I6 A6 hq6
  refine g_blk hC _ bX5_rank_12_13 (pc' := 13) (ls' := [some (.inr (some 3))]) (st' := [.inr (some 3)]) (I' := I6) rfl rfl ?_
  obtain ⟨hp7, hv⟩ := hv
  refine g_callV hC (hh_X5_lineUp I6 A6  hp7) dX5_rank_13 nm_X5_lineUp rfl rfl wl_X5_65 wi_X5_lineUp ws_X5_lineUp wn_X5 wc_X5_lineUp ⟨by decide, by decide⟩ (as := []) (rest := []) rfl (Nat.le_of_ble_eq_true rfl) ⟨Nat.le_refl _, Nat.le_refl _⟩ (k_qV ?_)
  intro I8 A8 hq8
  replace hv := hv I8 A8 hq8
  refine g_blk hC _ bX5_rank_16_17 (pc' := 17) (ls' := [some (.inr (some 3))]) (st' := [.inr (some 3)]) (I' := I8) rfl rfl ?_
  refine g_callV hC (hh_X5_partFlows I8 A8 ) dX5_rank_17 nm_X5_partFlows rfl rfl wl_X5_68 wi_X5_partFlows ws_X5_partFlows wn_X5 wc_X5_partFlows ⟨by decide, by decide⟩ (as := []) (rest := []) rfl (Nat.le_of_ble_eq_true rfl) ⟨Nat.le_refl _, Nat.le_refl _⟩ (k_qV ?_)
  intro I10 A10 hq10
  replace hv := hv I10 A10 hq10
  refine g_blk hC _ bX5_rank_20_21 (pc' := 21) (ls' := [some (.inr (some 3))]) (st' := [.inr (some 3)]) (I' := I10) rfl rfl ?_
  obtain ⟨hp11, hv⟩ := hv
  refine g_callV hC (hh_X5_putInLayers I10 A10  hp11) dX5_rank_21 nm_X5_putInLayers rfl rfl wl_X5_71 wi_X5_putInLayers ws_X5_putInLayers wn_X5 wc_X5_putInLayers ⟨by decide, by decide⟩ (as := []) (rest := []) rfl (Nat.le_of_ble_eq_true rfl) ⟨Nat.le_refl _, Nat.le_refl _⟩ (k_qV ?_)
  intro I12 A12 hq12
  replace hv := hv I12 A12 hq12
  exact g_retv hC hr dX5_rank_24 hv
theorem bX7_addBeads_0_5 : okB cX7_addBeads RX7 0 [(5, 0, 0, 0, 0), (23, 20, 7, 0, 0), (3, 1, 0, 0, 0)] := And.intro ⟨_, dX7_addBeads_0, rfl⟩ (And.intro ⟨dX7_addBeads_1, fl_X7_20⟩ (And.intro ⟨_, dX7_addBeads_4, rfl⟩ trivial))
theorem bX7_addBeads_8_11 : okB cX7_addBeads RX7 8 [(0, 0, 0, 0, 1), (12, 0, 0, 0, 0), (7, 3, 0, 0, 0)] := And.intro ⟨_, dX7_addBeads_8, by decide⟩ (And.intro dX7_addBeads_9 (And.intro ⟨_, dX7_addBeads_10, rfl⟩ trivial))
theorem bX7_addBeads_11_17 : okB cX7_addBeads RX7 11 [(3, 3, 0, 0, 0), (5, 0, 0, 0, 0), (23, 20, 7, 0, 0), (3, 2, 0, 0, 0)] := And.intro ⟨_, dX7_addBeads_11, rfl⟩ (And.intro ⟨_, dX7_addBeads_12, rfl⟩ (And.intro ⟨dX7_addBeads_13, fl_X7_20⟩ (And.intro ⟨_, dX7_addBeads_16, rfl⟩ trivial)))
theorem bX7_addBeads_23_34 : okB cX7_addBeads RX7 23 [(5, 0, 0, 0, 0), (3, 3, 0, 0, 0), (1, 0, 0, 0, 100), (1, 0, 0, 0, 10), (3, 1, 0, 0, 0), (14, 0, 0, 0, 0), (12, 0, 0, 0, 0), (3, 2, 0, 0, 0), (12, 0, 0, 0, 0)] := And.intro ⟨_, dX7_addBeads_23, rfl⟩ (And.intro ⟨_, dX7_addBeads_24, rfl⟩ (And.intro ⟨_, dX7_addBeads_25, by decide⟩ (And.intro ⟨_, dX7_addBeads_27, by decide⟩ (And.intro ⟨_, dX7_addBeads_29, rfl⟩ (And.intro dX7_addBeads_30 (And.intro dX7_addBeads_31 (And.intro ⟨_, dX7_addBeads_32, rfl⟩ (And.intro dX7_addBeads_33 trivial))))))))
theorem bX7_addBeads_37_40 : okB cX7_addBeads RX7 37 [(11, 3, 0, 0, 1)] := And.intro ⟨_, dX7_addBeads_37, by decide⟩ trivial
set_option maxHeartbeats 4000000 in
set_option maxRecDepth 100000 in
theorem k_X7_addBeads (l : Launch) (D : va_G) (ads : AD) (I A : HI) (a1 : Int32) (a2 : Int32) (po : Option AV → HI → HI → Prop) (Iv11 : Int32 → HI → Prop) (mu11 : Int32 → HI → Nat)
    (hv : ((vp_in a1 10) ∧ (Iv11 ((A 11 a1.toNatClampNeg) + 1) A ∧ ∀ (x3_11 : Int32) (A_11 : HI), Iv11 x3_11 A_11 → ((vp_in a2 10) ∧ (((A_11 11 a2.toNatClampNeg) ≤ x3_11 → po none I A_11) ∧ (¬ (A_11 11 a2.toNatClampNeg) ≤ x3_11 → ((vp_in x3_11 10 ∧ 0 ≤ A_11 25 x3_11.toNatClampNeg) ∧ (Iv11 (x3_11 + 1) (addA A_11 x3_11 ((100 + (10 * a1)) + a2)) ∧ mu11 (x3_11 + 1) (addA A_11 x3_11 ((100 + (10 * a1)) + a2)) < mu11 x3_11 A_11)))))))) : Ct l yX7_addBeads cX7_addBeads 4 none 1 22 D ads shp [.inr (some 13), .inl a1, .inl a2] I A po := by
  refine Ct_of (by decide) (Nat.le_of_ble_eq_true rfl) ?_
  intro p e s m args below meth c hC hr
  replace hC : CX p s m args meth c cX7_addBeads 4 RX7 (AdS ads s.heap.size) := hC
  show Gm p l e s m args below meth c D ads 1 22 4 po I A 0 [some (.inr (some 13)), some (.inl a1), some (.inl a2), none] []
  refine g_blk hC _ bX7_addBeads_0_5 (pc' := 5) (ls' := [some (.inr (some 13)), some (.inl a1), some (.inl a2), none]) (st' := [.inl a1, .inr (some 3)]) (I' := I) rfl rfl ?_
  obtain ⟨hp1, hv⟩ := hv
  refine g_callV hC (c_X5_layerOf l D ads I A a1 hp1) dX7_addBeads_5 nm_X5_layerOf rfl rfl wl_X7_30 wi_X5_layerOf ws_X5_layerOf wn_X5 wc_X5_layerOf ⟨by decide, by decide⟩ (as := [.inl a1]) (rest := []) rfl (Nat.le_of_ble_eq_true rfl) ⟨Nat.le_refl _, Nat.le_refl _⟩ (k_qI ?_)
  refine g_blk hC _ bX7_addBeads_8_11 (pc' := 11) (ls' := [some (.inr (some 13)), some (.inl a1), some (.inl a2), some (.inl ((A 11 a1.toNatClampNeg) + 1))]) (st' := []) (I' := I) rfl rfl ?_
  obtain ⟨hi11, hb11⟩ := hv
  have L11 : ∀ (n : Nat) (x3_11 : Int32) (A_11 : HI), Iv11 x3_11 A_11 → mu11 x3_11 A_11 < n → Gm p l e s m args below meth c D ads 1 22 4 po I A_11 11 [some (.inr (some 13)), some (.inl a1), some (.inl a2), some (.inl x3_11)] [] := by
    intro n
    induction n with
    | zero => intro x3_11 A_11 _ hn; exact absurd hn (Nat.not_lt_zero _)
    | succ n ih11 =>
      intro x3_11 A_11 hv hn11
      replace hv := hb11 x3_11 A_11 hv
      skip
      refine g_blk hC _ bX7_addBeads_11_17 (pc' := 17) (ls' := [some (.inr (some 13)), some (.inl a1), some (.inl a2), some (.inl x3_11)]) (st' := [.inl a2, .inr (some 3), .inl x3_11]) (I' := I) rfl rfl ?_
      obtain ⟨hp2, hv⟩ := hv
      refine g_callV hC (c_X5_layerOf l D ads I A_11 a2 hp2) dX7_addBeads_17 nm_X5_layerOf rfl rfl wl_X7_30 wi_X5_layerOf ws_X5_layerOf wn_X5 wc_X5_layerOf ⟨by decide, by decide⟩ (as := [.inl a2]) (rest := [.inl x3_11]) rfl (Nat.le_of_ble_eq_true rfl) ⟨Nat.le_refl _, Nat.le_refl _⟩ (k_qI ?_)
      obtain ⟨hv1, hv2⟩ := hv
      refine g_cge hC dX7_addBeads_20 (tgt := 43) (by decide) (fun hc => ?_) (fun hc => ?_)
      · have hv := hv1 hc
        clear hv1 hv2 hc
        exact g_retv hC hr dX7_addBeads_43 hv
      · have hv := hv2 hc
        clear hv1 hv2 hc
        refine g_blk hC _ bX7_addBeads_23_34 (pc' := 34) (ls' := [some (.inr (some 13)), some (.inl a1), some (.inl a2), some (.inl x3_11)]) (st' := [.inl ((100 + (10 * a1)) + a2), .inl x3_11, .inr (some 13)]) (I' := I) rfl rfl ?_
        obtain ⟨hp3, hv⟩ := hv
        refine g_callV hC (c_X7_add l D ads I A_11 x3_11 ((100 + (10 * a1)) + a2) hp3) dX7_addBeads_34 nm_X7_add rfl rfl wl_X7_36 wi_X7_add ws_X7_add wn_X7 wc_X7_add ⟨by decide, by decide⟩ (as := [.inl x3_11, .inl ((100 + (10 * a1)) + a2)]) (rest := []) rfl (Nat.le_of_ble_eq_true rfl) ⟨Nat.le_refl _, Nat.le_refl _⟩ (k_qN ?_)
        refine g_blk hC _ bX7_addBeads_37_40 (pc' := 40) (ls' := [some (.inr (some 13)), some (.inl a1), some (.inl a2), some (.inl (x3_11 + 1))]) (st' := []) (I' := I) rfl rfl ?_
        refine g_goto hC dX7_addBeads_40 (tgt := 11) (by decide) ?_
        exact g_weak (ls1 := [some (.inr (some 13)), some (.inl a1), some (.inl a2), some (.inl (x3_11 + 1))]) rfl (And.intro rfl (And.intro rfl (And.intro rfl (And.intro rfl trivial)))) (ih11 (x3_11 + 1) (addA A_11 x3_11 ((100 + (10 * a1)) + a2)) hv.1 (Nat.lt_of_lt_of_le hv.2 (Nat.le_of_lt_succ hn11)))
  exact g_weak (ls1 := [some (.inr (some 13)), some (.inl a1), some (.inl a2), some (.inl ((A 11 a1.toNatClampNeg) + 1))]) rfl (And.intro rfl (And.intro rfl (And.intro rfl (And.intro rfl trivial)))) (L11 _ ((A 11 a1.toNatClampNeg) + 1) A hi11 (Nat.lt_succ_self _))
theorem bX7_fill_0_5 : okB cX7_fill RX7 0 [(5, 0, 0, 0, 0), (23, 16, 7, 2, 0), (0, 0, 0, 0, 0)] := And.intro ⟨_, dX7_fill_0, rfl⟩ (And.intro ⟨dX7_fill_1, fl_X7_16⟩ (And.intro ⟨_, dX7_fill_4, by decide⟩ trivial))
theorem bX7_fill_8_10 : okB cX7_fill RX7 8 [(0, 0, 0, 0, 0), (7, 1, 0, 0, 0)] := And.intro ⟨_, dX7_fill_8, by decide⟩ (And.intro ⟨_, dX7_fill_9, rfl⟩ trivial)
theorem bX7_fill_10_13 : okB cX7_fill RX7 10 [(3, 1, 0, 0, 0), (1, 0, 0, 0, 10)] := And.intro ⟨_, dX7_fill_10, rfl⟩ (And.intro ⟨_, dX7_fill_11, by decide⟩ trivial)
theorem bX7_fill_47_49 : okB cX7_fill RX7 47 [(0, 0, 0, 0, 0), (7, 1, 0, 0, 0)] := And.intro ⟨_, dX7_fill_47, by decide⟩ (And.intro ⟨_, dX7_fill_48, rfl⟩ trivial)
theorem bX7_fill_49_52 : okB cX7_fill RX7 49 [(3, 1, 0, 0, 0), (1, 0, 0, 0, 10)] := And.intro ⟨_, dX7_fill_49, rfl⟩ (And.intro ⟨_, dX7_fill_50, by decide⟩ trivial)
theorem bX7_fill_55_57 : okB cX7_fill RX7 55 [(0, 0, 0, 0, 0), (7, 2, 0, 0, 0)] := And.intro ⟨_, dX7_fill_55, by decide⟩ (And.intro ⟨_, dX7_fill_56, rfl⟩ trivial)
theorem bX7_fill_57_60 : okB cX7_fill RX7 57 [(3, 2, 0, 0, 0), (1, 0, 0, 0, 10)] := And.intro ⟨_, dX7_fill_57, rfl⟩ (And.intro ⟨_, dX7_fill_58, by decide⟩ trivial)
theorem bX7_fill_87_90 : okB cX7_fill RX7 87 [(11, 1, 0, 0, 1)] := And.intro ⟨_, dX7_fill_87, by decide⟩ trivial
theorem bX7_fill_63_69 : okB cX7_fill RX7 63 [(5, 0, 0, 0, 0), (23, 20, 7, 0, 0), (3, 1, 0, 0, 0), (3, 2, 0, 0, 0)] := And.intro ⟨_, dX7_fill_63, rfl⟩ (And.intro ⟨dX7_fill_64, fl_X7_20⟩ (And.intro ⟨_, dX7_fill_67, rfl⟩ (And.intro ⟨_, dX7_fill_68, rfl⟩ trivial)))
theorem bX7_fill_81_84 : okB cX7_fill RX7 81 [(11, 2, 0, 0, 1)] := And.intro ⟨_, dX7_fill_81, by decide⟩ trivial
theorem bX7_fill_75_78 : okB cX7_fill RX7 75 [(5, 0, 0, 0, 0), (3, 1, 0, 0, 0), (3, 2, 0, 0, 0)] := And.intro ⟨_, dX7_fill_75, rfl⟩ (And.intro ⟨_, dX7_fill_76, rfl⟩ (And.intro ⟨_, dX7_fill_77, rfl⟩ trivial))
theorem bX7_fill_16_21 : okB cX7_fill RX7 16 [(5, 0, 0, 0, 0), (23, 20, 7, 0, 0), (3, 1, 0, 0, 0)] := And.intro ⟨_, dX7_fill_16, rfl⟩ (And.intro ⟨dX7_fill_17, fl_X7_20⟩ (And.intro ⟨_, dX7_fill_20, rfl⟩ trivial))
theorem bX7_fill_24_25 : okB cX7_fill RX7 24 [(0, 0, 0, 0, (-1))] := And.intro ⟨_, dX7_fill_24, by decide⟩ trivial
theorem bX7_fill_41_44 : okB cX7_fill RX7 41 [(11, 1, 0, 0, 1)] := And.intro ⟨_, dX7_fill_41, by decide⟩ trivial
theorem bX7_fill_28_34 : okB cX7_fill RX7 28 [(5, 0, 0, 0, 0), (5, 0, 0, 0, 0), (23, 20, 7, 0, 0), (3, 1, 0, 0, 0)] := And.intro ⟨_, dX7_fill_28, rfl⟩ (And.intro ⟨_, dX7_fill_29, rfl⟩ (And.intro ⟨dX7_fill_30, fl_X7_20⟩ (And.intro ⟨_, dX7_fill_33, rfl⟩ trivial)))
theorem bX7_fill_37_38 : okB cX7_fill RX7 37 [(3, 1, 0, 0, 0)] := And.intro ⟨_, dX7_fill_37, rfl⟩ trivial
set_option maxHeartbeats 4000000 in
set_option maxRecDepth 100000 in
theorem k_X7_fill (l : Launch) (D : va_G) (ads : AD) (I A : HI) (po : Option AV → HI → HI → Prop) {pp_X7_addBeads : HI → HI → Int32 → Int32 → Prop} {qq_X7_addBeads : HI → HI → Int32 → Int32 → HI → HI → Prop} (hh_X7_addBeads : ∀ (I A : HI) (a1 : Int32) (a2 : Int32), pp_X7_addBeads I A a1 a2 → Ct l yX7_addBeads cX7_addBeads 4 none 1 22 D ads shp [.inr (some 13), .inl a1, .inl a2] I A (qV (qq_X7_addBeads I A a1 a2))) (Iv10 : Int32 → HI → Prop) (mu10 : Int32 → HI → Nat) (Iv49 : Int32 → HI → Int32 → HI → HI → Prop) (mu49 : Int32 → HI → Int32 → HI → HI → Nat) (Iv57 : Int32 → HI → Int32 → HI → HI → Int32 → HI → HI → Prop) (mu57 : Int32 → HI → Int32 → HI → HI → Int32 → HI → HI → Nat)
    (hv : (Iv10 0 (filA A 25 11 (0 : Int32)) ∧ ∀ (x1_10 : Int32) (A_10 : HI), Iv10 x1_10 A_10 → ((10 ≤ x1_10 → (Iv49 x1_10 A_10 0 I A_10 ∧ ∀ (x1_49 : Int32) (I_49 : HI) (A_49 : HI), Iv49 x1_10 A_10 x1_49 I_49 A_49 → ((10 ≤ x1_49 → po none I_49 A_49) ∧ (¬ 10 ≤ x1_49 → (Iv57 x1_10 A_10 x1_49 I_49 A_49 0 I_49 A_49 ∧ ∀ (x2_57 : Int32) (I_57 : HI) (A_57 : HI), Iv57 x1_10 A_10 x1_49 I_49 A_49 x2_57 I_57 A_57 → ((10 ≤ x2_57 → (Iv49 x1_10 A_10 (x1_49 + 1) I_57 A_57 ∧ mu49 x1_10 A_10 (x1_49 + 1) I_57 A_57 < mu49 x1_10 A_10 x1_49 I_49 A_49)) ∧ (¬ 10 ≤ x2_57 → (((strI A_57 x1_49 x2_57) ≤ 0 → (Iv57 x1_10 A_10 x1_49 I_49 A_49 (x2_57 + 1) I_57 A_57 ∧ mu57 x1_10 A_10 x1_49 I_49 A_49 (x2_57 + 1) I_57 A_57 < mu57 x1_10 A_10 x1_49 I_49 A_49 x2_57 I_57 A_57)) ∧ (¬ (strI A_57 x1_49 x2_57) ≤ 0 → ((pp_X7_addBeads I_57 A_57 x1_49 x2_57) ∧ (∀ (I4 A4 : HI), qq_X7_addBeads I_57 A_57 x1_49 x2_57 I4 A4 → (Iv57 x1_10 A_10 x1_49 I_49 A_49 (x2_57 + 1) I4 A4 ∧ mu57 x1_10 A_10 x1_49 I_49 A_49 (x2_57 + 1) I4 A4 < mu57 x1_10 A_10 x1_49 I_49 A_49 x2_57 I_57 A_57)))))))))))) ∧ (¬ 10 ≤ x1_10 → ((vp_in x1_10 10) ∧ (((A_10 11 x1_10.toNatClampNeg) = ((-1)) → (Iv10 (x1_10 + 1) A_10 ∧ mu10 (x1_10 + 1) A_10 < mu10 x1_10 A_10)) ∧ (¬ (A_10 11 x1_10.toNatClampNeg) = ((-1)) → ((vp_in x1_10 10) ∧ ((vp_in (A_10 11 x1_10.toNatClampNeg) 10 ∧ 0 ≤ A_10 25 (A_10 11 x1_10.toNatClampNeg).toNatClampNeg) ∧ (Iv10 (x1_10 + 1) (addA A_10 (A_10 11 x1_10.toNatClampNeg) x1_10) ∧ mu10 (x1_10 + 1) (addA A_10 (A_10 11 x1_10.toNatClampNeg) x1_10) < mu10 x1_10 A_10)))))))))) : Ct l yX7_fill cX7_fill 3 none 2 45 D ads shp [.inr (some 13)] I A po := by
  refine Ct_of (by decide) (Nat.le_of_ble_eq_true rfl) ?_
  intro p e s m args below meth c hC hr
  replace hC : CX p s m args meth c cX7_fill 3 RX7 (AdS ads s.heap.size) := hC
  show Gm p l e s m args below meth c D ads 2 45 3 po I A 0 [some (.inr (some 13)), none, none] []
  refine g_blk hC _ bX7_fill_0_5 (pc' := 5) (ls' := [some (.inr (some 13)), none, none]) (st' := [.inl 0, .inr (some 25)]) (I' := I) rfl rfl ?_
  refine g_callS hC (c_J7_fill_53178 l D ads I A 25 (0 : Int32) 11 (rfl) (by decide)) dX7_fill_5 nm_J7_fill_53178 wl_X7_24 wt_J7_fill_53178 wn_J7 wc_J7_fill_53178 ⟨by decide, by decide⟩ (as := [.inr (some 25), .inl 0]) (rest := []) rfl (Nat.le_of_ble_eq_true rfl) ⟨Nat.le_refl _, Nat.le_refl _⟩ (k_qN ?_)
  refine g_blk hC _ bX7_fill_8_10 (pc' := 10) (ls' := [some (.inr (some 13)), some (.inl 0), none]) (st' := []) (I' := I) rfl rfl ?_
  obtain ⟨hi10, hb10⟩ := hv
  have L10 : ∀ (n : Nat) (x1_10 : Int32) (A_10 : HI), Iv10 x1_10 A_10 → mu10 x1_10 A_10 < n → Gm p l e s m args below meth c D ads 2 45 3 po I A_10 10 [some (.inr (some 13)), some (.inl x1_10), none] [] := by
    intro n
    induction n with
    | zero => intro x1_10 A_10 _ hn; exact absurd hn (Nat.not_lt_zero _)
    | succ n ih10 =>
      intro x1_10 A_10 hv hn10
      replace hv := hb10 x1_10 A_10 hv
      skip
      refine g_blk hC _ bX7_fill_10_13 (pc' := 13) (ls' := [some (.inr (some 13)), some (.inl x1_10), none]) (st' := [.inl 10, .inl x1_10]) (I' := I) rfl rfl ?_
      obtain ⟨hv1, hv2⟩ := hv
      refine g_cge hC dX7_fill_13 (tgt := 47) (by decide) (fun hc => ?_) (fun hc => ?_)
      · have hv := hv1 hc
        clear hv1 hv2 hc
        refine g_blk hC _ bX7_fill_47_49 (pc' := 49) (ls' := [some (.inr (some 13)), some (.inl 0), none]) (st' := []) (I' := I) rfl rfl ?_
        obtain ⟨hi49, hb49⟩ := hv
        have L49 : ∀ (n : Nat) (x1_49 : Int32) (I_49 : HI) (A_49 : HI), Iv49 x1_10 A_10 x1_49 I_49 A_49 → mu49 x1_10 A_10 x1_49 I_49 A_49 < n → Gm p l e s m args below meth c D ads 2 45 3 po I_49 A_49 49 [some (.inr (some 13)), some (.inl x1_49), none] [] := by
          intro n
          induction n with
          | zero => intro x1_49 I_49 A_49 _ hn; exact absurd hn (Nat.not_lt_zero _)
          | succ n ih49 =>
            intro x1_49 I_49 A_49 hv hn49
            replace hv := hb49 x1_49 I_49 A_49 hv
            skip
            refine g_blk hC _ bX7_fill_49_52 (pc' := 52) (ls' := [some (.inr (some 13)), some (.inl x1_49), none]) (st' := [.inl 10, .inl x1_49]) (I' := I_49) rfl rfl ?_
            obtain ⟨hv1, hv2⟩ := hv
            refine g_cge hC dX7_fill_52 (tgt := 93) (by decide) (fun hc => ?_) (fun hc => ?_)
            · have hv := hv1 hc
              clear hv1 hv2 hc
              exact g_retv hC hr dX7_fill_93 hv
            · have hv := hv2 hc
              clear hv1 hv2 hc
              refine g_blk hC _ bX7_fill_55_57 (pc' := 57) (ls' := [some (.inr (some 13)), some (.inl x1_49), some (.inl 0)]) (st' := []) (I' := I_49) rfl rfl ?_
              obtain ⟨hi57, hb57⟩ := hv
              have L57 : ∀ (n : Nat) (x2_57 : Int32) (I_57 : HI) (A_57 : HI), Iv57 x1_10 A_10 x1_49 I_49 A_49 x2_57 I_57 A_57 → mu57 x1_10 A_10 x1_49 I_49 A_49 x2_57 I_57 A_57 < n → Gm p l e s m args below meth c D ads 2 45 3 po I_57 A_57 57 [some (.inr (some 13)), some (.inl x1_49), some (.inl x2_57)] [] := by
                intro n
                induction n with
                | zero => intro x2_57 I_57 A_57 _ hn; exact absurd hn (Nat.not_lt_zero _)
                | succ n ih57 =>
                  intro x2_57 I_57 A_57 hv hn57
                  replace hv := hb57 x2_57 I_57 A_57 hv
                  skip
                  refine g_blk hC _ bX7_fill_57_60 (pc' := 60) (ls' := [some (.inr (some 13)), some (.inl x1_49), some (.inl x2_57)]) (st' := [.inl 10, .inl x2_57]) (I' := I_57) rfl rfl ?_
                  obtain ⟨hv1, hv2⟩ := hv
                  refine g_cge hC dX7_fill_60 (tgt := 87) (by decide) (fun hc => ?_) (fun hc => ?_)
                  · have hv := hv1 hc
                    clear hv1 hv2 hc
                    refine g_blk hC _ bX7_fill_87_90 (pc' := 90) (ls' := [some (.inr (some 13)), some (.inl (x1_49 + 1)), some (.inl x2_57)]) (st' := []) (I' := I_57) rfl rfl ?_
                    refine g_goto hC dX7_fill_90 (tgt := 49) (by decide) ?_
                    exact g_weak (ls1 := [some (.inr (some 13)), some (.inl (x1_49 + 1)), none]) rfl (And.intro rfl (And.intro rfl trivial)) (ih49 (x1_49 + 1) I_57 A_57 hv.1 (Nat.lt_of_lt_of_le hv.2 (Nat.le_of_lt_succ hn49)))
                  · have hv := hv2 hc
                    clear hv1 hv2 hc
                    refine g_blk hC _ bX7_fill_63_69 (pc' := 69) (ls' := [some (.inr (some 13)), some (.inl x1_49), some (.inl x2_57)]) (st' := [.inl x2_57, .inl x1_49, .inr (some 3)]) (I' := I_57) rfl rfl ?_
                    refine g_callV hC (c_X5_straight l D ads I_57 A_57 x1_49 x2_57) dX7_fill_69 nm_X5_straight rfl rfl wl_X7_40 wi_X5_straight ws_X5_straight wn_X5 wc_X5_straight ⟨by decide, by decide⟩ (as := [.inl x1_49, .inl x2_57]) (rest := []) rfl (Nat.le_of_ble_eq_true rfl) ⟨Nat.le_refl _, Nat.le_refl _⟩ (k_qI ?_)
                    obtain ⟨hv1, hv2⟩ := hv
                    refine g_ifle hC dX7_fill_72 (tgt := 81) (by decide) (fun hc => ?_) (fun hc => ?_)
                    · have hv := hv1 hc
                      clear hv1 hv2 hc
                      refine g_blk hC _ bX7_fill_81_84 (pc' := 84) (ls' := [some (.inr (some 13)), some (.inl x1_49), some (.inl (x2_57 + 1))]) (st' := []) (I' := I_57) rfl rfl ?_
                      refine g_goto hC dX7_fill_84 (tgt := 57) (by decide) ?_
                      exact g_weak (ls1 := [some (.inr (some 13)), some (.inl x1_49), some (.inl (x2_57 + 1))]) rfl (And.intro rfl (And.intro rfl (And.intro rfl trivial))) (ih57 (x2_57 + 1) I_57 A_57 hv.1 (Nat.lt_of_lt_of_le hv.2 (Nat.le_of_lt_succ hn57)))
                    · have hv := hv2 hc
                      clear hv1 hv2 hc
                      refine g_blk hC _ bX7_fill_75_78 (pc' := 78) (ls' := [some (.inr (some 13)), some (.inl x1_49), some (.inl x2_57)]) (st' := [.inl x2_57, .inl x1_49, .inr (some 13)]) (I' := I_57) rfl rfl ?_
                      obtain ⟨hp3, hv⟩ := hv
                      refine g_callV hC (hh_X7_addBeads I_57 A_57 x1_49 x2_57 hp3) dX7_fill_78 nm_X7_addBeads rfl rfl wl_X7_44 wi_X7_addBeads ws_X7_addBeads wn_X7 wc_X7_addBeads ⟨by decide, by decide⟩ (as := [.inl x1_49, .inl x2_57]) (rest := []) rfl (Nat.le_of_ble_eq_true rfl) ⟨Nat.le_refl _, Nat.le_refl _⟩ (k_qV ?_)
                      intro I4 A4 hq4
                      replace hv := hv I4 A4 hq4
                      refine g_blk hC _ bX7_fill_81_84 (pc' := 84) (ls' := [some (.inr (some 13)), some (.inl x1_49), some (.inl (x2_57 + 1))]) (st' := []) (I' := I4) rfl rfl ?_
                      refine g_goto hC dX7_fill_84 (tgt := 57) (by decide) ?_
                      exact g_weak (ls1 := [some (.inr (some 13)), some (.inl x1_49), some (.inl (x2_57 + 1))]) rfl (And.intro rfl (And.intro rfl (And.intro rfl trivial))) (ih57 (x2_57 + 1) I4 A4 hv.1 (Nat.lt_of_lt_of_le hv.2 (Nat.le_of_lt_succ hn57)))
              exact g_weak (ls1 := [some (.inr (some 13)), some (.inl x1_49), some (.inl 0)]) rfl (And.intro rfl (And.intro rfl (And.intro rfl trivial))) (L57 _ 0 I_49 A_49 hi57 (Nat.lt_succ_self _))
        exact g_weak (ls1 := [some (.inr (some 13)), some (.inl 0), none]) rfl (And.intro rfl (And.intro rfl trivial)) (L49 _ 0 I A_10 hi49 (Nat.lt_succ_self _))
      · have hv := hv2 hc
        clear hv1 hv2 hc
        refine g_blk hC _ bX7_fill_16_21 (pc' := 21) (ls' := [some (.inr (some 13)), some (.inl x1_10), none]) (st' := [.inl x1_10, .inr (some 3)]) (I' := I) rfl rfl ?_
        obtain ⟨hp5, hv⟩ := hv
        refine g_callV hC (c_X5_layerOf l D ads I A_10 x1_10 hp5) dX7_fill_21 nm_X5_layerOf rfl rfl wl_X7_30 wi_X5_layerOf ws_X5_layerOf wn_X5 wc_X5_layerOf ⟨by decide, by decide⟩ (as := [.inl x1_10]) (rest := []) rfl (Nat.le_of_ble_eq_true rfl) ⟨Nat.le_refl _, Nat.le_refl _⟩ (k_qI ?_)
        refine g_blk hC _ bX7_fill_24_25 (pc' := 25) (ls' := [some (.inr (some 13)), some (.inl x1_10), none]) (st' := [.inl ((-1)), .inl (A_10 11 x1_10.toNatClampNeg)]) (I' := I) rfl rfl ?_
        obtain ⟨hv1, hv2⟩ := hv
        refine g_ceq hC dX7_fill_25 (tgt := 41) (by decide) (fun hc => ?_) (fun hc => ?_)
        · have hv := hv1 hc
          clear hv1 hv2 hc
          refine g_blk hC _ bX7_fill_41_44 (pc' := 44) (ls' := [some (.inr (some 13)), some (.inl (x1_10 + 1)), none]) (st' := []) (I' := I) rfl rfl ?_
          refine g_goto hC dX7_fill_44 (tgt := 10) (by decide) ?_
          exact g_weak (ls1 := [some (.inr (some 13)), some (.inl (x1_10 + 1)), none]) rfl (And.intro rfl (And.intro rfl trivial)) (ih10 (x1_10 + 1) A_10 hv.1 (Nat.lt_of_lt_of_le hv.2 (Nat.le_of_lt_succ hn10)))
        · have hv := hv2 hc
          clear hv1 hv2 hc
          refine g_blk hC _ bX7_fill_28_34 (pc' := 34) (ls' := [some (.inr (some 13)), some (.inl x1_10), none]) (st' := [.inl x1_10, .inr (some 3), .inr (some 13)]) (I' := I) rfl rfl ?_
          obtain ⟨hp6, hv⟩ := hv
          refine g_callV hC (c_X5_layerOf l D ads I A_10 x1_10 hp6) dX7_fill_34 nm_X5_layerOf rfl rfl wl_X7_30 wi_X5_layerOf ws_X5_layerOf wn_X5 wc_X5_layerOf ⟨by decide, by decide⟩ (as := [.inl x1_10]) (rest := [.inr (some 13)]) rfl (Nat.le_of_ble_eq_true rfl) ⟨Nat.le_refl _, Nat.le_refl _⟩ (k_qI ?_)
          refine g_blk hC _ bX7_fill_37_38 (pc' := 38) (ls' := [some (.inr (some 13)), some (.inl x1_10), none]) (st' := [.inl x1_10, .inl (A_10 11 x1_10.toNatClampNeg), .inr (some 13)]) (I' := I) rfl rfl ?_
          obtain ⟨hp7, hv⟩ := hv
          refine g_callV hC (c_X7_add l D ads I A_10 (A_10 11 x1_10.toNatClampNeg) x1_10 hp7) dX7_fill_38 nm_X7_add rfl rfl wl_X7_36 wi_X7_add ws_X7_add wn_X7 wc_X7_add ⟨by decide, by decide⟩ (as := [.inl (A_10 11 x1_10.toNatClampNeg), .inl x1_10]) (rest := []) rfl (Nat.le_of_ble_eq_true rfl) ⟨Nat.le_refl _, Nat.le_refl _⟩ (k_qN ?_)
          refine g_blk hC _ bX7_fill_41_44 (pc' := 44) (ls' := [some (.inr (some 13)), some (.inl (x1_10 + 1)), none]) (st' := []) (I' := I) rfl rfl ?_
          refine g_goto hC dX7_fill_44 (tgt := 10) (by decide) ?_
          exact g_weak (ls1 := [some (.inr (some 13)), some (.inl (x1_10 + 1)), none]) rfl (And.intro rfl (And.intro rfl trivial)) (ih10 (x1_10 + 1) (addA A_10 (A_10 11 x1_10.toNatClampNeg) x1_10) hv.1 (Nat.lt_of_lt_of_le hv.2 (Nat.le_of_lt_succ hn10)))
  exact g_weak (ls1 := [some (.inr (some 13)), some (.inl 0), none]) rfl (And.intro rfl (And.intro rfl trivial)) (L10 _ 0 (filA A 25 11 (0 : Int32)) hi10 (Nat.lt_succ_self _))
theorem bX3_gatherLinks_0_5 : okB cX3_gatherLinks RX3 0 [(5, 0, 0, 0, 0), (23, 9, 3, 3, 0), (0, 0, 0, 0, 0)] := And.intro ⟨_, dX3_gatherLinks_0, rfl⟩ (And.intro ⟨dX3_gatherLinks_1, fl_X3_9⟩ (And.intro ⟨_, dX3_gatherLinks_4, by decide⟩ trivial))
theorem bX3_gatherLinks_8_10 : okB cX3_gatherLinks RX3 8 [(0, 0, 0, 0, 0), (7, 2, 0, 0, 0)] := And.intro ⟨_, dX3_gatherLinks_8, by decide⟩ (And.intro ⟨_, dX3_gatherLinks_9, rfl⟩ trivial)
theorem bX3_gatherLinks_10_13 : okB cX3_gatherLinks RX3 10 [(3, 2, 0, 0, 0), (1, 0, 0, 0, 10)] := And.intro ⟨_, dX3_gatherLinks_10, rfl⟩ (And.intro ⟨_, dX3_gatherLinks_11, by decide⟩ trivial)
theorem bX3_gatherLinks_16_18 : okB cX3_gatherLinks RX3 16 [(0, 0, 0, 0, 0), (7, 3, 0, 0, 0)] := And.intro ⟨_, dX3_gatherLinks_16, by decide⟩ (And.intro ⟨_, dX3_gatherLinks_17, rfl⟩ trivial)
theorem bX3_gatherLinks_18_21 : okB cX3_gatherLinks RX3 18 [(3, 3, 0, 0, 0), (1, 0, 0, 0, 10)] := And.intro ⟨_, dX3_gatherLinks_18, rfl⟩ (And.intro ⟨_, dX3_gatherLinks_19, by decide⟩ trivial)
theorem bX3_gatherLinks_104_107 : okB cX3_gatherLinks RX3 104 [(11, 2, 0, 0, 1)] := And.intro ⟨_, dX3_gatherLinks_104, by decide⟩ trivial
theorem bX3_gatherLinks_24_31 : okB cX3_gatherLinks RX3 24 [(5, 0, 0, 0, 0), (23, 22, 3, 0, 0), (3, 2, 0, 0, 0), (3, 3, 0, 0, 0), (3, 1, 0, 0, 0)] := And.intro ⟨_, dX3_gatherLinks_24, rfl⟩ (And.intro ⟨dX3_gatherLinks_25, fl_X3_22⟩ (And.intro ⟨_, dX3_gatherLinks_28, rfl⟩ (And.intro ⟨_, dX3_gatherLinks_29, rfl⟩ (And.intro ⟨_, dX3_gatherLinks_30, rfl⟩ trivial))))
theorem bX3_gatherLinks_98_101 : okB cX3_gatherLinks RX3 98 [(11, 3, 0, 0, 1)] := And.intro ⟨_, dX3_gatherLinks_98, by decide⟩ trivial
theorem bX3_gatherLinks_37_49 : okB cX3_gatherLinks RX3 37 [(5, 0, 0, 0, 0), (23, 26, 3, 1, 0), (3, 1, 0, 0, 0), (5, 0, 0, 0, 0), (23, 22, 3, 0, 0), (3, 2, 0, 0, 0), (3, 3, 0, 0, 0), (3, 1, 0, 0, 0)] := And.intro ⟨_, dX3_gatherLinks_37, rfl⟩ (And.intro ⟨dX3_gatherLinks_38, fl_X3_26⟩ (And.intro ⟨_, dX3_gatherLinks_41, rfl⟩ (And.intro ⟨_, dX3_gatherLinks_42, rfl⟩ (And.intro ⟨dX3_gatherLinks_43, fl_X3_22⟩ (And.intro ⟨_, dX3_gatherLinks_46, rfl⟩ (And.intro ⟨_, dX3_gatherLinks_47, rfl⟩ (And.intro ⟨_, dX3_gatherLinks_48, rfl⟩ trivial)))))))
theorem bX3_gatherLinks_55_73 : okB cX3_gatherLinks RX3 55 [(8, 4, 0, 0, 0), (5, 0, 0, 0, 0), (23, 26, 3, 1, 0), (3, 1, 0, 0, 0), (0, 0, 0, 0, 1), (12, 0, 0, 0, 0), (5, 0, 0, 0, 0), (23, 22, 3, 0, 0), (3, 2, 0, 0, 0), (3, 3, 0, 0, 0), (3, 1, 0, 0, 0), (0, 0, 0, 0, 1), (12, 0, 0, 0, 0)] := And.intro dX3_gatherLinks_55 (And.intro ⟨_, dX3_gatherLinks_57, rfl⟩ (And.intro ⟨dX3_gatherLinks_58, fl_X3_26⟩ (And.intro ⟨_, dX3_gatherLinks_61, rfl⟩ (And.intro ⟨_, dX3_gatherLinks_62, by decide⟩ (And.intro dX3_gatherLinks_63 (And.intro ⟨_, dX3_gatherLinks_64, rfl⟩ (And.intro ⟨dX3_gatherLinks_65, fl_X3_22⟩ (And.intro ⟨_, dX3_gatherLinks_68, rfl⟩ (And.intro ⟨_, dX3_gatherLinks_69, rfl⟩ (And.intro ⟨_, dX3_gatherLinks_70, rfl⟩ (And.intro ⟨_, dX3_gatherLinks_71, by decide⟩ (And.intro dX3_gatherLinks_72 trivial))))))))))))
theorem bX3_gatherLinks_79_92 : okB cX3_gatherLinks RX3 79 [(8, 5, 0, 0, 0), (5, 0, 0, 0, 0), (4, 4, 0, 0, 0), (4, 5, 0, 0, 0), (5, 0, 0, 0, 0), (23, 22, 3, 0, 0), (3, 2, 0, 0, 0), (3, 3, 0, 0, 0)] := And.intro dX3_gatherLinks_79 (And.intro ⟨_, dX3_gatherLinks_81, rfl⟩ (And.intro dX3_gatherLinks_82 (And.intro dX3_gatherLinks_84 (And.intro ⟨_, dX3_gatherLinks_86, rfl⟩ (And.intro ⟨dX3_gatherLinks_87, fl_X3_22⟩ (And.intro ⟨_, dX3_gatherLinks_90, rfl⟩ (And.intro ⟨_, dX3_gatherLinks_91, rfl⟩ trivial)))))))
set_option maxHeartbeats 4000000 in
set_option maxRecDepth 100000 in
theorem k_X3_gatherLinks (l : Launch) (D : va_G) (ads : AD) (I A : HI) (a1 : Int32) (po : Option AV → HI → HI → Prop) (Iv10 : Int32 → HI → Prop) (mu10 : Int32 → HI → Nat) (Iv18 : Int32 → HI → Int32 → HI → Prop) (mu18 : Int32 → HI → Int32 → HI → Nat)
    (hv : (Iv10 0 (filA A 69 25 (0 : Int32)) ∧ ∀ (x2_10 : Int32) (A_10 : HI), Iv10 x2_10 A_10 → ((10 ≤ x2_10 → po none I A_10) ∧ (¬ 10 ≤ x2_10 → (Iv18 x2_10 A_10 0 A_10 ∧ ∀ (x3_18 : Int32) (A_18 : HI), Iv18 x2_10 A_10 x3_18 A_18 → ((10 ≤ x3_18 → (Iv10 (x2_10 + 1) A_18 ∧ mu10 (x2_10 + 1) A_18 < mu10 x2_10 A_10)) ∧ (¬ 10 ≤ x3_18 → ((vp_in x2_10 10 ∧ vp_in x3_18 10) ∧ (((lnkI A_18 x2_10 x3_18 a1) = 0 → (Iv18 x2_10 A_10 (x3_18 + 1) A_18 ∧ mu18 x2_10 A_10 (x3_18 + 1) A_18 < mu18 x2_10 A_10 x3_18 A_18)) ∧ (¬ (lnkI A_18 x2_10 x3_18 a1) = 0 → ((vp_in x2_10 10 ∧ vp_in x3_18 10) ∧ ((vp_in a1 10 ∧ A_18 25 a1.toNatClampNeg ≤ 26) ∧ ((vp_in x2_10 10 ∧ vp_in x3_18 10) ∧ ((vp_in (a1 + 1) 10 ∧ A_18 25 (a1 + 1).toNatClampNeg ≤ 26) ∧ (Iv18 x2_10 A_10 (x3_18 + 1) (pLk A_18 (ixO (A_18 (15 + a1.toNatClampNeg)) (A_18 25 a1.toNatClampNeg).toNatClampNeg (itmI (A_18 11) x2_10 x3_18 a1)) (ixO (A_18 (15 + (a1 + 1).toNatClampNeg)) (A_18 25 (a1 + 1).toNatClampNeg).toNatClampNeg (itmI (A_18 11) x2_10 x3_18 (a1 + 1))) (strI A_18 x2_10 x3_18)) ∧ mu18 x2_10 A_10 (x3_18 + 1) (pLk A_18 (ixO (A_18 (15 + a1.toNatClampNeg)) (A_18 25 a1.toNatClampNeg).toNatClampNeg (itmI (A_18 11) x2_10 x3_18 a1)) (ixO (A_18 (15 + (a1 + 1).toNatClampNeg)) (A_18 25 (a1 + 1).toNatClampNeg).toNatClampNeg (itmI (A_18 11) x2_10 x3_18 (a1 + 1))) (strI A_18 x2_10 x3_18)) < mu18 x2_10 A_10 x3_18 A_18))))))))))))))) : Ct l yX3_gatherLinks cX3_gatherLinks 6 none 2 44 D ads shp [.inr (some 68), .inl a1] I A po := by
  refine Ct_of (by decide) (Nat.le_of_ble_eq_true rfl) ?_
  intro p e s m args below meth c hC hr
  replace hC : CX p s m args meth c cX3_gatherLinks 6 RX3 (AdS ads s.heap.size) := hC
  show Gm p l e s m args below meth c D ads 2 44 6 po I A 0 [some (.inr (some 68)), some (.inl a1), none, none, none, none] []
  refine g_blk hC _ bX3_gatherLinks_0_5 (pc' := 5) (ls' := [some (.inr (some 68)), some (.inl a1), none, none, none, none]) (st' := [.inl 0, .inr (some 69)]) (I' := I) rfl rfl ?_
  refine g_callS hC (c_J7_fill_53178 l D ads I A 69 (0 : Int32) 25 (rfl) (by decide)) dX3_gatherLinks_5 nm_J7_fill_53178 wl_X3_34 wt_J7_fill_53178 wn_J7 wc_J7_fill_53178 ⟨by decide, by decide⟩ (as := [.inr (some 69), .inl 0]) (rest := []) rfl (Nat.le_of_ble_eq_true rfl) ⟨Nat.le_refl _, Nat.le_refl _⟩ (k_qN ?_)
  refine g_blk hC _ bX3_gatherLinks_8_10 (pc' := 10) (ls' := [some (.inr (some 68)), some (.inl a1), some (.inl 0), none, none, none]) (st' := []) (I' := I) rfl rfl ?_
  obtain ⟨hi10, hb10⟩ := hv
  have L10 : ∀ (n : Nat) (x2_10 : Int32) (A_10 : HI), Iv10 x2_10 A_10 → mu10 x2_10 A_10 < n → Gm p l e s m args below meth c D ads 2 44 6 po I A_10 10 [some (.inr (some 68)), some (.inl a1), some (.inl x2_10), none, none, none] [] := by
    intro n
    induction n with
    | zero => intro x2_10 A_10 _ hn; exact absurd hn (Nat.not_lt_zero _)
    | succ n ih10 =>
      intro x2_10 A_10 hv hn10
      replace hv := hb10 x2_10 A_10 hv
      skip
      refine g_blk hC _ bX3_gatherLinks_10_13 (pc' := 13) (ls' := [some (.inr (some 68)), some (.inl a1), some (.inl x2_10), none, none, none]) (st' := [.inl 10, .inl x2_10]) (I' := I) rfl rfl ?_
      obtain ⟨hv1, hv2⟩ := hv
      refine g_cge hC dX3_gatherLinks_13 (tgt := 110) (by decide) (fun hc => ?_) (fun hc => ?_)
      · have hv := hv1 hc
        clear hv1 hv2 hc
        exact g_retv hC hr dX3_gatherLinks_110 hv
      · have hv := hv2 hc
        clear hv1 hv2 hc
        refine g_blk hC _ bX3_gatherLinks_16_18 (pc' := 18) (ls' := [some (.inr (some 68)), some (.inl a1), some (.inl x2_10), some (.inl 0), none, none]) (st' := []) (I' := I) rfl rfl ?_
        obtain ⟨hi18, hb18⟩ := hv
        have L18 : ∀ (n : Nat) (x3_18 : Int32) (A_18 : HI), Iv18 x2_10 A_10 x3_18 A_18 → mu18 x2_10 A_10 x3_18 A_18 < n → Gm p l e s m args below meth c D ads 2 44 6 po I A_18 18 [some (.inr (some 68)), some (.inl a1), some (.inl x2_10), some (.inl x3_18), none, none] [] := by
          intro n
          induction n with
          | zero => intro x3_18 A_18 _ hn; exact absurd hn (Nat.not_lt_zero _)
          | succ n ih18 =>
            intro x3_18 A_18 hv hn18
            replace hv := hb18 x3_18 A_18 hv
            skip
            refine g_blk hC _ bX3_gatherLinks_18_21 (pc' := 21) (ls' := [some (.inr (some 68)), some (.inl a1), some (.inl x2_10), some (.inl x3_18), none, none]) (st' := [.inl 10, .inl x3_18]) (I' := I) rfl rfl ?_
            obtain ⟨hv1, hv2⟩ := hv
            refine g_cge hC dX3_gatherLinks_21 (tgt := 104) (by decide) (fun hc => ?_) (fun hc => ?_)
            · have hv := hv1 hc
              clear hv1 hv2 hc
              refine g_blk hC _ bX3_gatherLinks_104_107 (pc' := 107) (ls' := [some (.inr (some 68)), some (.inl a1), some (.inl (x2_10 + 1)), some (.inl x3_18), none, none]) (st' := []) (I' := I) rfl rfl ?_
              refine g_goto hC dX3_gatherLinks_107 (tgt := 10) (by decide) ?_
              exact g_weak (ls1 := [some (.inr (some 68)), some (.inl a1), some (.inl (x2_10 + 1)), none, none, none]) rfl (And.intro rfl (And.intro rfl (And.intro rfl trivial))) (ih10 (x2_10 + 1) A_18 hv.1 (Nat.lt_of_lt_of_le hv.2 (Nat.le_of_lt_succ hn10)))
            · have hv := hv2 hc
              clear hv1 hv2 hc
              refine g_blk hC _ bX3_gatherLinks_24_31 (pc' := 31) (ls' := [some (.inr (some 68)), some (.inl a1), some (.inl x2_10), some (.inl x3_18), none, none]) (st' := [.inl a1, .inl x3_18, .inl x2_10, .inr (some 3)]) (I' := I) rfl rfl ?_
              obtain ⟨hp2, hv⟩ := hv
              refine g_callV hC (c_X5_links l D ads I A_18 x2_10 x3_18 a1 hp2) dX3_gatherLinks_31 nm_X5_links rfl rfl wl_X3_40 wi_X5_links ws_X5_links wn_X5 wc_X5_links ⟨by decide, by decide⟩ (as := [.inl x2_10, .inl x3_18, .inl a1]) (rest := []) rfl (Nat.le_of_ble_eq_true rfl) ⟨Nat.le_refl _, Nat.le_refl _⟩ (k_qI ?_)
              obtain ⟨hv1, hv2⟩ := hv
              refine g_ifeq hC dX3_gatherLinks_34 (tgt := 98) (by decide) (fun hc => ?_) (fun hc => ?_)
              · have hv := hv1 hc
                clear hv1 hv2 hc
                refine g_blk hC _ bX3_gatherLinks_98_101 (pc' := 101) (ls' := [some (.inr (some 68)), some (.inl a1), some (.inl x2_10), some (.inl (x3_18 + 1)), none, none]) (st' := []) (I' := I) rfl rfl ?_
                refine g_goto hC dX3_gatherLinks_101 (tgt := 18) (by decide) ?_
                exact g_weak (ls1 := [some (.inr (some 68)), some (.inl a1), some (.inl x2_10), some (.inl (x3_18 + 1)), none, none]) rfl (And.intro rfl (And.intro rfl (And.intro rfl (And.intro rfl trivial)))) (ih18 (x3_18 + 1) A_18 hv.1 (Nat.lt_of_lt_of_le hv.2 (Nat.le_of_lt_succ hn18)))
              · have hv := hv2 hc
                clear hv1 hv2 hc
                refine g_blk hC _ bX3_gatherLinks_37_49 (pc' := 49) (ls' := [some (.inr (some 68)), some (.inl a1), some (.inl x2_10), some (.inl x3_18), none, none]) (st' := [.inl a1, .inl x3_18, .inl x2_10, .inr (some 3), .inl a1, .inr (some 13)]) (I' := I) rfl rfl ?_
                obtain ⟨hp3, hv⟩ := hv
                refine g_callV hC (c_X5_itemOf l D ads I A_18 x2_10 x3_18 a1 hp3) dX3_gatherLinks_49 nm_X5_itemOf rfl rfl wl_X3_45 wi_X5_itemOf ws_X5_itemOf wn_X5 wc_X5_itemOf ⟨by decide, by decide⟩ (as := [.inl x2_10, .inl x3_18, .inl a1]) (rest := [.inl a1, .inr (some 13)]) rfl (Nat.le_of_ble_eq_true rfl) ⟨Nat.le_refl _, Nat.le_refl _⟩ (k_qI ?_)
                obtain ⟨hp4, hv⟩ := hv
                refine g_callV hC (c_X7_indexOf l D ads I A_18 a1 (itmI (A_18 11) x2_10 x3_18 a1) hp4) dX3_gatherLinks_52 nm_X7_indexOf rfl rfl wl_X3_49 wi_X7_indexOf ws_X7_indexOf wn_X7 wc_X7_indexOf ⟨by decide, by decide⟩ (as := [.inl a1, .inl (itmI (A_18 11) x2_10 x3_18 a1)]) (rest := []) rfl (Nat.le_of_ble_eq_true rfl) ⟨Nat.le_refl _, Nat.le_refl _⟩ (k_qI ?_)
                refine g_blk hC _ bX3_gatherLinks_55_73 (pc' := 73) (ls' := [some (.inr (some 68)), some (.inl a1), some (.inl x2_10), some (.inl x3_18), some (.inl (ixO (A_18 (15 + a1.toNatClampNeg)) (A_18 25 a1.toNatClampNeg).toNatClampNeg (itmI (A_18 11) x2_10 x3_18 a1))), none]) (st' := [.inl (a1 + 1), .inl x3_18, .inl x2_10, .inr (some 3), .inl (a1 + 1), .inr (some 13)]) (I' := I) rfl rfl ?_
                obtain ⟨hp5, hv⟩ := hv
                refine g_callV hC (c_X5_itemOf l D ads I A_18 x2_10 x3_18 (a1 + 1) hp5) dX3_gatherLinks_73 nm_X5_itemOf rfl rfl wl_X3_45 wi_X5_itemOf ws_X5_itemOf wn_X5 wc_X5_itemOf ⟨by decide, by decide⟩ (as := [.inl x2_10, .inl x3_18, .inl (a1 + 1)]) (rest := [.inl (a1 + 1), .inr (some 13)]) rfl (Nat.le_of_ble_eq_true rfl) ⟨Nat.le_refl _, Nat.le_refl _⟩ (k_qI ?_)
                obtain ⟨hp6, hv⟩ := hv
                refine g_callV hC (c_X7_indexOf l D ads I A_18 (a1 + 1) (itmI (A_18 11) x2_10 x3_18 (a1 + 1)) hp6) dX3_gatherLinks_76 nm_X7_indexOf rfl rfl wl_X3_49 wi_X7_indexOf ws_X7_indexOf wn_X7 wc_X7_indexOf ⟨by decide, by decide⟩ (as := [.inl (a1 + 1), .inl (itmI (A_18 11) x2_10 x3_18 (a1 + 1))]) (rest := []) rfl (Nat.le_of_ble_eq_true rfl) ⟨Nat.le_refl _, Nat.le_refl _⟩ (k_qI ?_)
                refine g_blk hC _ bX3_gatherLinks_79_92 (pc' := 92) (ls' := [some (.inr (some 68)), some (.inl a1), some (.inl x2_10), some (.inl x3_18), some (.inl (ixO (A_18 (15 + a1.toNatClampNeg)) (A_18 25 a1.toNatClampNeg).toNatClampNeg (itmI (A_18 11) x2_10 x3_18 a1))), some (.inl (ixO (A_18 (15 + (a1 + 1).toNatClampNeg)) (A_18 25 (a1 + 1).toNatClampNeg).toNatClampNeg (itmI (A_18 11) x2_10 x3_18 (a1 + 1))))]) (st' := [.inl x3_18, .inl x2_10, .inr (some 3), .inl (ixO (A_18 (15 + (a1 + 1).toNatClampNeg)) (A_18 25 (a1 + 1).toNatClampNeg).toNatClampNeg (itmI (A_18 11) x2_10 x3_18 (a1 + 1))), .inl (ixO (A_18 (15 + a1.toNatClampNeg)) (A_18 25 a1.toNatClampNeg).toNatClampNeg (itmI (A_18 11) x2_10 x3_18 a1)), .inr (some 68)]) (I' := I) rfl rfl ?_
                refine g_callV hC (c_X5_straight l D ads I A_18 x2_10 x3_18) dX3_gatherLinks_92 nm_X5_straight rfl rfl wl_X3_55 wi_X5_straight ws_X5_straight wn_X5 wc_X5_straight ⟨by decide, by decide⟩ (as := [.inl x2_10, .inl x3_18]) (rest := [.inl (ixO (A_18 (15 + (a1 + 1).toNatClampNeg)) (A_18 25 (a1 + 1).toNatClampNeg).toNatClampNeg (itmI (A_18 11) x2_10 x3_18 (a1 + 1))), .inl (ixO (A_18 (15 + a1.toNatClampNeg)) (A_18 25 a1.toNatClampNeg).toNatClampNeg (itmI (A_18 11) x2_10 x3_18 a1)), .inr (some 68)]) rfl (Nat.le_of_ble_eq_true rfl) ⟨Nat.le_refl _, Nat.le_refl _⟩ (k_qI ?_)
                refine g_callV hC (c_X3_putLink l D ads I A_18 (ixO (A_18 (15 + a1.toNatClampNeg)) (A_18 25 a1.toNatClampNeg).toNatClampNeg (itmI (A_18 11) x2_10 x3_18 a1)) (ixO (A_18 (15 + (a1 + 1).toNatClampNeg)) (A_18 25 (a1 + 1).toNatClampNeg).toNatClampNeg (itmI (A_18 11) x2_10 x3_18 (a1 + 1))) (strI A_18 x2_10 x3_18)) dX3_gatherLinks_95 nm_X3_putLink rfl rfl wl_X3_58 wi_X3_putLink ws_X3_putLink wn_X3 wc_X3_putLink ⟨by decide, by decide⟩ (as := [.inl (ixO (A_18 (15 + a1.toNatClampNeg)) (A_18 25 a1.toNatClampNeg).toNatClampNeg (itmI (A_18 11) x2_10 x3_18 a1)), .inl (ixO (A_18 (15 + (a1 + 1).toNatClampNeg)) (A_18 25 (a1 + 1).toNatClampNeg).toNatClampNeg (itmI (A_18 11) x2_10 x3_18 (a1 + 1))), .inl (strI A_18 x2_10 x3_18)]) (rest := []) rfl (Nat.le_of_ble_eq_true rfl) ⟨Nat.le_refl _, Nat.le_refl _⟩ (k_qN ?_)
                refine g_blk hC _ bX3_gatherLinks_98_101 (pc' := 101) (ls' := [some (.inr (some 68)), some (.inl a1), some (.inl x2_10), some (.inl (x3_18 + 1)), some (.inl (ixO (A_18 (15 + a1.toNatClampNeg)) (A_18 25 a1.toNatClampNeg).toNatClampNeg (itmI (A_18 11) x2_10 x3_18 a1))), some (.inl (ixO (A_18 (15 + (a1 + 1).toNatClampNeg)) (A_18 25 (a1 + 1).toNatClampNeg).toNatClampNeg (itmI (A_18 11) x2_10 x3_18 (a1 + 1))))]) (st' := []) (I' := I) rfl rfl ?_
                refine g_goto hC dX3_gatherLinks_101 (tgt := 18) (by decide) ?_
                exact g_weak (ls1 := [some (.inr (some 68)), some (.inl a1), some (.inl x2_10), some (.inl (x3_18 + 1)), none, none]) rfl (And.intro rfl (And.intro rfl (And.intro rfl (And.intro rfl trivial)))) (ih18 (x3_18 + 1) (pLk A_18 (ixO (A_18 (15 + a1.toNatClampNeg)) (A_18 25 a1.toNatClampNeg).toNatClampNeg (itmI (A_18 11) x2_10 x3_18 a1)) (ixO (A_18 (15 + (a1 + 1).toNatClampNeg)) (A_18 25 (a1 + 1).toNatClampNeg).toNatClampNeg (itmI (A_18 11) x2_10 x3_18 (a1 + 1))) (strI A_18 x2_10 x3_18)) hv.1 (Nat.lt_of_lt_of_le hv.2 (Nat.le_of_lt_succ hn18)))
        exact g_weak (ls1 := [some (.inr (some 68)), some (.inl a1), some (.inl x2_10), some (.inl 0), none, none]) rfl (And.intro rfl (And.intro rfl (And.intro rfl (And.intro rfl trivial)))) (L18 _ 0 A_10 hi18 (Nat.lt_succ_self _))
  exact g_weak (ls1 := [some (.inr (some 68)), some (.inl a1), some (.inl 0), none, none, none]) rfl (And.intro rfl (And.intro rfl (And.intro rfl trivial))) (L10 _ 0 (filA A 69 25 (0 : Int32)) hi10 (Nat.lt_succ_self _))
theorem bX3_begin_0_5 : okB cX3_begin RX3 0 [(5, 0, 0, 0, 0), (23, 26, 3, 1, 0), (3, 1, 0, 0, 0)] := And.intro ⟨_, dX3_begin_0, rfl⟩ (And.intro ⟨dX3_begin_1, fl_X3_26⟩ (And.intro ⟨_, dX3_begin_4, rfl⟩ trivial))
theorem bX3_begin_8_16 : okB cX3_begin RX3 8 [(7, 3, 0, 0, 0), (5, 0, 0, 0, 0), (23, 26, 3, 1, 0), (3, 1, 0, 0, 0), (0, 0, 0, 0, 1), (12, 0, 0, 0, 0)] := And.intro ⟨_, dX3_begin_8, rfl⟩ (And.intro ⟨_, dX3_begin_9, rfl⟩ (And.intro ⟨dX3_begin_10, fl_X3_26⟩ (And.intro ⟨_, dX3_begin_13, rfl⟩ (And.intro ⟨_, dX3_begin_14, by decide⟩ (And.intro dX3_begin_15 trivial)))))
theorem bX3_begin_19_29 : okB cX3_begin RX3 19 [(8, 4, 0, 0, 0), (5, 0, 0, 0, 0), (0, 0, 0, 0, 0), (24, 18, 3, 5, 0), (0, 0, 0, 0, 0), (8, 5, 0, 0, 0)] := And.intro dX3_begin_19 (And.intro ⟨_, dX3_begin_21, rfl⟩ (And.intro ⟨_, dX3_begin_22, by decide⟩ (And.intro ⟨dX3_begin_23, fl_X3_18, rfl, rfl⟩ (And.intro ⟨_, dX3_begin_26, by decide⟩ (And.intro dX3_begin_27 trivial)))))
theorem bX3_begin_29_32 : okB cX3_begin RX3 29 [(4, 5, 0, 0, 0), (3, 3, 0, 0, 0)] := And.intro dX3_begin_29 (And.intro ⟨_, dX3_begin_31, rfl⟩ trivial)
theorem bX3_begin_35_41 : okB cX3_begin RX3 35 [(4, 5, 0, 0, 0), (0, 0, 0, 0, 1), (12, 0, 0, 0, 0), (8, 6, 0, 0, 0)] := And.intro dX3_begin_35 (And.intro ⟨_, dX3_begin_37, by decide⟩ (And.intro dX3_begin_38 (And.intro dX3_begin_39 trivial)))
theorem bX3_begin_41_44 : okB cX3_begin RX3 41 [(4, 6, 0, 0, 0), (3, 3, 0, 0, 0)] := And.intro dX3_begin_41 (And.intro ⟨_, dX3_begin_43, rfl⟩ trivial)
theorem bX3_begin_221_224 : okB cX3_begin RX3 221 [(11, 5, 0, 0, 1)] := And.intro ⟨_, dX3_begin_221, by decide⟩ trivial
theorem bX3_begin_47_54 : okB cX3_begin RX3 47 [(5, 0, 0, 0, 0), (23, 26, 3, 1, 0), (3, 1, 0, 0, 0), (4, 5, 0, 0, 0)] := And.intro ⟨_, dX3_begin_47, rfl⟩ (And.intro ⟨dX3_begin_48, fl_X3_26⟩ (And.intro ⟨_, dX3_begin_51, rfl⟩ (And.intro dX3_begin_52 trivial)))
theorem bX3_begin_57_66 : okB cX3_begin RX3 57 [(8, 7, 0, 0, 0), (5, 0, 0, 0, 0), (23, 26, 3, 1, 0), (3, 1, 0, 0, 0), (4, 6, 0, 0, 0)] := And.intro dX3_begin_57 (And.intro ⟨_, dX3_begin_59, rfl⟩ (And.intro ⟨dX3_begin_60, fl_X3_26⟩ (And.intro ⟨_, dX3_begin_63, rfl⟩ (And.intro dX3_begin_64 trivial))))
theorem bX3_begin_69_80 : okB cX3_begin RX3 69 [(8, 8, 0, 0, 0), (3, 2, 0, 0, 0), (5, 0, 0, 0, 0), (23, 30, 3, 2, 0), (4, 7, 0, 0, 0), (4, 8, 0, 0, 0)] := And.intro dX3_begin_69 (And.intro ⟨_, dX3_begin_71, rfl⟩ (And.intro ⟨_, dX3_begin_72, rfl⟩ (And.intro ⟨dX3_begin_73, fl_X3_30⟩ (And.intro dX3_begin_76 (And.intro dX3_begin_78 trivial)))))
theorem bX3_begin_83_95 : okB cX3_begin RX3 83 [(14, 0, 0, 0, 0), (8, 9, 0, 0, 0), (3, 2, 0, 0, 0), (5, 0, 0, 0, 0), (23, 30, 3, 2, 0), (4, 8, 0, 0, 0), (4, 7, 0, 0, 0)] := And.intro dX3_begin_83 (And.intro dX3_begin_84 (And.intro ⟨_, dX3_begin_86, rfl⟩ (And.intro ⟨_, dX3_begin_87, rfl⟩ (And.intro ⟨dX3_begin_88, fl_X3_30⟩ (And.intro dX3_begin_91 (And.intro dX3_begin_93 trivial))))))
theorem bX3_begin_98_104 : okB cX3_begin RX3 98 [(14, 0, 0, 0, 0), (8, 10, 0, 0, 0), (0, 0, 0, 0, 0), (8, 11, 0, 0, 0)] := And.intro dX3_begin_98 (And.intro dX3_begin_99 (And.intro ⟨_, dX3_begin_101, by decide⟩ (And.intro dX3_begin_102 trivial)))
theorem bX3_begin_104_108 : okB cX3_begin RX3 104 [(4, 11, 0, 0, 0), (4, 4, 0, 0, 0)] := And.intro dX3_begin_104 (And.intro dX3_begin_106 trivial)
theorem bX3_begin_170_189 : okB cX3_begin RX3 170 [(5, 0, 0, 0, 0), (20, 0, 0, 0, 0), (23, 18, 3, 5, 0), (4, 9, 0, 0, 0), (12, 0, 0, 0, 0), (24, 18, 3, 5, 0), (5, 0, 0, 0, 0), (23, 15, 3, 4, 0), (4, 5, 0, 0, 0), (4, 6, 0, 0, 0)] := And.intro ⟨_, dX3_begin_170, rfl⟩ (And.intro dX3_begin_171 (And.intro ⟨dX3_begin_172, fl_X3_18⟩ (And.intro dX3_begin_175 (And.intro dX3_begin_177 (And.intro ⟨dX3_begin_178, fl_X3_18, rfl, rfl⟩ (And.intro ⟨_, dX3_begin_181, rfl⟩ (And.intro ⟨dX3_begin_182, fl_X3_15⟩ (And.intro dX3_begin_185 (And.intro dX3_begin_187 trivial)))))))))
theorem bX3_begin_192_197 : okB cX3_begin RX3 192 [(4, 10, 0, 0, 0), (4, 9, 0, 0, 0), (13, 0, 0, 0, 0)] := And.intro dX3_begin_192 (And.intro dX3_begin_194 (And.intro dX3_begin_196 trivial))
theorem bX3_begin_198_206 : okB cX3_begin RX3 198 [(5, 0, 0, 0, 0), (23, 15, 3, 4, 0), (4, 6, 0, 0, 0), (4, 5, 0, 0, 0)] := And.intro ⟨_, dX3_begin_198, rfl⟩ (And.intro ⟨dX3_begin_199, fl_X3_15⟩ (And.intro dX3_begin_202 (And.intro dX3_begin_204 trivial)))
theorem bX3_begin_209_214 : okB cX3_begin RX3 209 [(4, 9, 0, 0, 0), (4, 10, 0, 0, 0), (13, 0, 0, 0, 0)] := And.intro dX3_begin_209 (And.intro dX3_begin_211 (And.intro dX3_begin_213 trivial))
theorem bX3_begin_215_218 : okB cX3_begin RX3 215 [(11, 6, 0, 0, 1)] := And.intro ⟨_, dX3_begin_215, by decide⟩ trivial
theorem bX3_begin_111_117 : okB cX3_begin RX3 111 [(4, 11, 0, 0, 0), (0, 0, 0, 0, 1), (12, 0, 0, 0, 0), (8, 12, 0, 0, 0)] := And.intro dX3_begin_111 (And.intro ⟨_, dX3_begin_113, by decide⟩ (And.intro dX3_begin_114 (And.intro dX3_begin_115 trivial)))
theorem bX3_begin_117_121 : okB cX3_begin RX3 117 [(4, 12, 0, 0, 0), (4, 4, 0, 0, 0)] := And.intro dX3_begin_117 (And.intro dX3_begin_119 trivial)
theorem bX3_begin_164_167 : okB cX3_begin RX3 164 [(11, 11, 0, 0, 1)] := And.intro ⟨_, dX3_begin_164, by decide⟩ trivial
theorem bX3_begin_124_135 : okB cX3_begin RX3 124 [(4, 9, 0, 0, 0), (5, 0, 0, 0, 0), (4, 5, 0, 0, 0), (4, 6, 0, 0, 0), (4, 11, 0, 0, 0), (4, 12, 0, 0, 0)] := And.intro dX3_begin_124 (And.intro ⟨_, dX3_begin_126, rfl⟩ (And.intro dX3_begin_127 (And.intro dX3_begin_129 (And.intro dX3_begin_131 (And.intro dX3_begin_133 trivial)))))
theorem bX3_begin_138_152 : okB cX3_begin RX3 138 [(12, 0, 0, 0, 0), (8, 9, 0, 0, 0), (4, 10, 0, 0, 0), (5, 0, 0, 0, 0), (4, 6, 0, 0, 0), (4, 5, 0, 0, 0), (4, 11, 0, 0, 0), (4, 12, 0, 0, 0)] := And.intro dX3_begin_138 (And.intro dX3_begin_139 (And.intro dX3_begin_141 (And.intro ⟨_, dX3_begin_143, rfl⟩ (And.intro dX3_begin_144 (And.intro dX3_begin_146 (And.intro dX3_begin_148 (And.intro dX3_begin_150 trivial)))))))
theorem bX3_begin_155_161 : okB cX3_begin RX3 155 [(12, 0, 0, 0, 0), (8, 10, 0, 0, 0), (11, 12, 0, 0, 1)] := And.intro dX3_begin_155 (And.intro dX3_begin_156 (And.intro ⟨_, dX3_begin_158, by decide⟩ trivial))
set_option maxHeartbeats 4000000 in
set_option maxRecDepth 100000 in
theorem k_X3_begin (l : Launch) (D : va_G) (ads : AD) (I A : HI) (a1 : Int32) (a2 : Int32) (po : Option AV → HI → HI → Prop) (Iv29 : Int32 → HI → HI → Prop) (mu29 : Int32 → HI → HI → Nat) (Iv41 : Int32 → HI → HI → Int32 → HI → HI → Prop) (mu41 : Int32 → HI → HI → Int32 → HI → HI → Nat) (Iv104 : Int32 → HI → HI → Int32 → HI → HI → Int32 → Int32 → Int32 → Prop) (mu104 : Int32 → HI → HI → Int32 → HI → HI → Int32 → Int32 → Int32 → Nat) (Iv117 : Int32 → HI → HI → Int32 → HI → HI → Int32 → Int32 → Int32 → Int32 → Int32 → Int32 → Prop) (mu117 : Int32 → HI → HI → Int32 → HI → HI → Int32 → Int32 → Int32 → Int32 → Int32 → Int32 → Nat)
    (hv : ((vp_in a1 11) ∧ ((vp_in (a1 + 1) 11) ∧ (Iv29 0 (up2 I 68 5 0) A ∧ ∀ (x5_29 : Int32) (I_29 : HI) (A_29 : HI), Iv29 x5_29 I_29 A_29 → (((A 25 a1.toNatClampNeg) ≤ x5_29 → po none I_29 A_29) ∧ (¬ (A 25 a1.toNatClampNeg) ≤ x5_29 → (Iv41 x5_29 I_29 A_29 (x5_29 + 1) I_29 A_29 ∧ ∀ (x6_41 : Int32) (I_41 : HI) (A_41 : HI), Iv41 x5_29 I_29 A_29 x6_41 I_41 A_41 → (((A 25 a1.toNatClampNeg) ≤ x6_41 → (Iv29 (x5_29 + 1) I_41 A_41 ∧ mu29 (x5_29 + 1) I_41 A_41 < mu29 x5_29 I_29 A_29)) ∧ (¬ (A 25 a1.toNatClampNeg) ≤ x6_41 → ((vp_in a1 10 ∧ vp_in x5_29 26) ∧ ((vp_in a1 10 ∧ vp_in x6_41 26) ∧ (Iv104 x5_29 I_29 A_29 x6_41 I_41 A_41 (a2 * (mvI (A_41 27) (A_41 28) (A_41 (15 + a1.toNatClampNeg) x5_29.toNatClampNeg) (A_41 (15 + a1.toNatClampNeg) x6_41.toNatClampNeg))) (a2 * (mvI (A_41 27) (A_41 28) (A_41 (15 + a1.toNatClampNeg) x6_41.toNatClampNeg) (A_41 (15 + a1.toNatClampNeg) x5_29.toNatClampNeg))) 0 ∧ ∀ (x9_104 : Int32) (x10_104 : Int32) (x11_104 : Int32), Iv104 x5_29 I_29 A_29 x6_41 I_41 A_41 x9_104 x10_104 x11_104 → (((A 25 (a1 + 1).toNatClampNeg) ≤ x11_104 → (vp_in (x5_29 * 5 + x6_41) 25 ∧ (vp_in (x6_41 * 5 + x5_29) 25 ∧ (Iv41 x5_29 I_29 A_29 (x6_41 + 1) (up2 I_41 68 5 ((I_41 68 5) + x9_104)) (up2 (up2 A_41 70 (x5_29 * 5 + x6_41).toNatClampNeg (x10_104 - x9_104)) 70 (x6_41 * 5 + x5_29).toNatClampNeg (x9_104 - x10_104)) ∧ mu41 x5_29 I_29 A_29 (x6_41 + 1) (up2 I_41 68 5 ((I_41 68 5) + x9_104)) (up2 (up2 A_41 70 (x5_29 * 5 + x6_41).toNatClampNeg (x10_104 - x9_104)) 70 (x6_41 * 5 + x5_29).toNatClampNeg (x9_104 - x10_104)) < mu41 x5_29 I_29 A_29 x6_41 I_41 A_41)))) ∧ (¬ (A 25 (a1 + 1).toNatClampNeg) ≤ x11_104 → (Iv117 x5_29 I_29 A_29 x6_41 I_41 A_41 x9_104 x10_104 x11_104 x9_104 x10_104 (x11_104 + 1) ∧ ∀ (x9_117 : Int32) (x10_117 : Int32) (x12_117 : Int32), Iv117 x5_29 I_29 A_29 x6_41 I_41 A_41 x9_104 x10_104 x11_104 x9_117 x10_117 x12_117 → (((A 25 (a1 + 1).toNatClampNeg) ≤ x12_117 → (Iv104 x5_29 I_29 A_29 x6_41 I_41 A_41 x9_117 x10_117 (x11_104 + 1) ∧ mu104 x5_29 I_29 A_29 x6_41 I_41 A_41 x9_117 x10_117 (x11_104 + 1) < mu104 x5_29 I_29 A_29 x6_41 I_41 A_41 x9_104 x10_104 x11_104)) ∧ (¬ (A 25 (a1 + 1).toNatClampNeg) ≤ x12_117 → ((vp_in (x5_29 * 5 + x12_117) 25 ∧ vp_in (x6_41 * 5 + x11_104) 25) ∧ ((vp_in (x6_41 * 5 + x12_117) 25 ∧ vp_in (x5_29 * 5 + x11_104) 25) ∧ (Iv117 x5_29 I_29 A_29 x6_41 I_41 A_41 x9_104 x10_104 x11_104 (x9_117 + (A_41 69 (x5_29 * 5 + x12_117).toNatClampNeg * A_41 69 (x6_41 * 5 + x11_104).toNatClampNeg)) (x10_117 + (A_41 69 (x6_41 * 5 + x12_117).toNatClampNeg * A_41 69 (x5_29 * 5 + x11_104).toNatClampNeg)) (x12_117 + 1) ∧ mu117 x5_29 I_29 A_29 x6_41 I_41 A_41 x9_104 x10_104 x11_104 (x9_117 + (A_41 69 (x5_29 * 5 + x12_117).toNatClampNeg * A_41 69 (x6_41 * 5 + x11_104).toNatClampNeg)) (x10_117 + (A_41 69 (x6_41 * 5 + x12_117).toNatClampNeg * A_41 69 (x5_29 * 5 + x11_104).toNatClampNeg)) (x12_117 + 1) < mu117 x5_29 I_29 A_29 x6_41 I_41 A_41 x9_104 x10_104 x11_104 x9_117 x10_117 x12_117)))))))))))))))))))) : Ct l yX3_begin cX3_begin 13 none 2 45 D ads shp [.inr (some 68), .inl a1, .inl a2] I A po := by
  refine Ct_of (by decide) (Nat.le_of_ble_eq_true rfl) ?_
  intro p e s m args below meth c hC hr
  replace hC : CX p s m args meth c cX3_begin 13 RX3 (AdS ads s.heap.size) := hC
  show Gm p l e s m args below meth c D ads 2 45 13 po I A 0 [some (.inr (some 68)), some (.inl a1), some (.inl a2), none, none, none, none, none, none, none, none, none, none] []
  refine g_blk hC _ bX3_begin_0_5 (pc' := 5) (ls' := [some (.inr (some 68)), some (.inl a1), some (.inl a2), none, none, none, none, none, none, none, none, none, none]) (st' := [.inl a1, .inr (some 13)]) (I' := I) rfl rfl ?_
  obtain ⟨hp1, hv⟩ := hv
  refine g_callV hC (c_X7_countIn l D ads I A a1 hp1) dX3_begin_5 nm_X7_countIn rfl rfl wl_X3_62 wi_X7_countIn ws_X7_countIn wn_X7 wc_X7_countIn ⟨by decide, by decide⟩ (as := [.inl a1]) (rest := []) rfl (Nat.le_of_ble_eq_true rfl) ⟨Nat.le_refl _, Nat.le_refl _⟩ (k_qI ?_)
  refine g_blk hC _ bX3_begin_8_16 (pc' := 16) (ls' := [some (.inr (some 68)), some (.inl a1), some (.inl a2), some (.inl (A 25 a1.toNatClampNeg)), none, none, none, none, none, none, none, none, none]) (st' := [.inl (a1 + 1), .inr (some 13)]) (I' := I) rfl rfl ?_
  obtain ⟨hp2, hv⟩ := hv
  refine g_callV hC (c_X7_countIn l D ads I A (a1 + 1) hp2) dX3_begin_16 nm_X7_countIn rfl rfl wl_X3_62 wi_X7_countIn ws_X7_countIn wn_X7 wc_X7_countIn ⟨by decide, by decide⟩ (as := [.inl (a1 + 1)]) (rest := []) rfl (Nat.le_of_ble_eq_true rfl) ⟨Nat.le_refl _, Nat.le_refl _⟩ (k_qI ?_)
  refine g_blk hC _ bX3_begin_19_29 (pc' := 29) (ls' := [some (.inr (some 68)), some (.inl a1), some (.inl a2), some (.inl (A 25 a1.toNatClampNeg)), some (.inl (A 25 (a1 + 1).toNatClampNeg)), some (.inl 0), none, none, none, none, none, none, none]) (st' := []) (I' := up2 I 68 5 0) rfl rfl ?_
  obtain ⟨hi29, hb29⟩ := hv
  have L29 : ∀ (n : Nat) (x5_29 : Int32) (I_29 : HI) (A_29 : HI), Iv29 x5_29 I_29 A_29 → mu29 x5_29 I_29 A_29 < n → Gm p l e s m args below meth c D ads 2 45 13 po I_29 A_29 29 [some (.inr (some 68)), some (.inl a1), some (.inl a2), some (.inl (A 25 a1.toNatClampNeg)), some (.inl (A 25 (a1 + 1).toNatClampNeg)), some (.inl x5_29), none, none, none, none, none, none, none] [] := by
    intro n
    induction n with
    | zero => intro x5_29 I_29 A_29 _ hn; exact absurd hn (Nat.not_lt_zero _)
    | succ n ih29 =>
      intro x5_29 I_29 A_29 hv hn29
      replace hv := hb29 x5_29 I_29 A_29 hv
      skip
      refine g_blk hC _ bX3_begin_29_32 (pc' := 32) (ls' := [some (.inr (some 68)), some (.inl a1), some (.inl a2), some (.inl (A 25 a1.toNatClampNeg)), some (.inl (A 25 (a1 + 1).toNatClampNeg)), some (.inl x5_29), none, none, none, none, none, none, none]) (st' := [.inl (A 25 a1.toNatClampNeg), .inl x5_29]) (I' := I_29) rfl rfl ?_
      obtain ⟨hv1, hv2⟩ := hv
      refine g_cge hC dX3_begin_32 (tgt := 227) (by decide) (fun hc => ?_) (fun hc => ?_)
      · have hv := hv1 hc
        clear hv1 hv2 hc
        exact g_retv hC hr dX3_begin_227 hv
      · have hv := hv2 hc
        clear hv1 hv2 hc
        refine g_blk hC _ bX3_begin_35_41 (pc' := 41) (ls' := [some (.inr (some 68)), some (.inl a1), some (.inl a2), some (.inl (A 25 a1.toNatClampNeg)), some (.inl (A 25 (a1 + 1).toNatClampNeg)), some (.inl x5_29), some (.inl (x5_29 + 1)), none, none, none, none, none, none]) (st' := []) (I' := I_29) rfl rfl ?_
        obtain ⟨hi41, hb41⟩ := hv
        have L41 : ∀ (n : Nat) (x6_41 : Int32) (I_41 : HI) (A_41 : HI), Iv41 x5_29 I_29 A_29 x6_41 I_41 A_41 → mu41 x5_29 I_29 A_29 x6_41 I_41 A_41 < n → Gm p l e s m args below meth c D ads 2 45 13 po I_41 A_41 41 [some (.inr (some 68)), some (.inl a1), some (.inl a2), some (.inl (A 25 a1.toNatClampNeg)), some (.inl (A 25 (a1 + 1).toNatClampNeg)), some (.inl x5_29), some (.inl x6_41), none, none, none, none, none, none] [] := by
          intro n
          induction n with
          | zero => intro x6_41 I_41 A_41 _ hn; exact absurd hn (Nat.not_lt_zero _)
          | succ n ih41 =>
            intro x6_41 I_41 A_41 hv hn41
            replace hv := hb41 x6_41 I_41 A_41 hv
            skip
            refine g_blk hC _ bX3_begin_41_44 (pc' := 44) (ls' := [some (.inr (some 68)), some (.inl a1), some (.inl a2), some (.inl (A 25 a1.toNatClampNeg)), some (.inl (A 25 (a1 + 1).toNatClampNeg)), some (.inl x5_29), some (.inl x6_41), none, none, none, none, none, none]) (st' := [.inl (A 25 a1.toNatClampNeg), .inl x6_41]) (I' := I_41) rfl rfl ?_
            obtain ⟨hv1, hv2⟩ := hv
            refine g_cge hC dX3_begin_44 (tgt := 221) (by decide) (fun hc => ?_) (fun hc => ?_)
            · have hv := hv1 hc
              clear hv1 hv2 hc
              refine g_blk hC _ bX3_begin_221_224 (pc' := 224) (ls' := [some (.inr (some 68)), some (.inl a1), some (.inl a2), some (.inl (A 25 a1.toNatClampNeg)), some (.inl (A 25 (a1 + 1).toNatClampNeg)), some (.inl (x5_29 + 1)), some (.inl x6_41), none, none, none, none, none, none]) (st' := []) (I' := I_41) rfl rfl ?_
              refine g_goto hC dX3_begin_224 (tgt := 29) (by decide) ?_
              exact g_weak (ls1 := [some (.inr (some 68)), some (.inl a1), some (.inl a2), some (.inl (A 25 a1.toNatClampNeg)), some (.inl (A 25 (a1 + 1).toNatClampNeg)), some (.inl (x5_29 + 1)), none, none, none, none, none, none, none]) rfl (And.intro rfl (And.intro rfl (And.intro rfl (And.intro rfl (And.intro rfl (And.intro rfl trivial)))))) (ih29 (x5_29 + 1) I_41 A_41 hv.1 (Nat.lt_of_lt_of_le hv.2 (Nat.le_of_lt_succ hn29)))
            · have hv := hv2 hc
              clear hv1 hv2 hc
              refine g_blk hC _ bX3_begin_47_54 (pc' := 54) (ls' := [some (.inr (some 68)), some (.inl a1), some (.inl a2), some (.inl (A 25 a1.toNatClampNeg)), some (.inl (A 25 (a1 + 1).toNatClampNeg)), some (.inl x5_29), some (.inl x6_41), none, none, none, none, none, none]) (st' := [.inl x5_29, .inl a1, .inr (some 13)]) (I' := I_41) rfl rfl ?_
              obtain ⟨hp3, hv⟩ := hv
              refine g_callV hC (c_X7_numberAt l D ads I_41 A_41 a1 x5_29 hp3) dX3_begin_54 nm_X7_numberAt rfl rfl wl_X3_66 wi_X7_numberAt ws_X7_numberAt wn_X7 wc_X7_numberAt ⟨by decide, by decide⟩ (as := [.inl a1, .inl x5_29]) (rest := []) rfl (Nat.le_of_ble_eq_true rfl) ⟨Nat.le_refl _, Nat.le_refl _⟩ (k_qI ?_)
              refine g_blk hC _ bX3_begin_57_66 (pc' := 66) (ls' := [some (.inr (some 68)), some (.inl a1), some (.inl a2), some (.inl (A 25 a1.toNatClampNeg)), some (.inl (A 25 (a1 + 1).toNatClampNeg)), some (.inl x5_29), some (.inl x6_41), some (.inl (A_41 (15 + a1.toNatClampNeg) x5_29.toNatClampNeg)), none, none, none, none, none]) (st' := [.inl x6_41, .inl a1, .inr (some 13)]) (I' := I_41) rfl rfl ?_
              obtain ⟨hp4, hv⟩ := hv
              refine g_callV hC (c_X7_numberAt l D ads I_41 A_41 a1 x6_41 hp4) dX3_begin_66 nm_X7_numberAt rfl rfl wl_X3_66 wi_X7_numberAt ws_X7_numberAt wn_X7 wc_X7_numberAt ⟨by decide, by decide⟩ (as := [.inl a1, .inl x6_41]) (rest := []) rfl (Nat.le_of_ble_eq_true rfl) ⟨Nat.le_refl _, Nat.le_refl _⟩ (k_qI ?_)
              refine g_blk hC _ bX3_begin_69_80 (pc' := 80) (ls' := [some (.inr (some 68)), some (.inl a1), some (.inl a2), some (.inl (A 25 a1.toNatClampNeg)), some (.inl (A 25 (a1 + 1).toNatClampNeg)), some (.inl x5_29), some (.inl x6_41), some (.inl (A_41 (15 + a1.toNatClampNeg) x5_29.toNatClampNeg)), some (.inl (A_41 (15 + a1.toNatClampNeg) x6_41.toNatClampNeg)), none, none, none, none]) (st' := [.inl (A_41 (15 + a1.toNatClampNeg) x6_41.toNatClampNeg), .inl (A_41 (15 + a1.toNatClampNeg) x5_29.toNatClampNeg), .inr (some 26), .inl a2]) (I' := I_41) rfl rfl ?_
              refine g_callV hC (c_X4_moves l D ads I_41 A_41 (A_41 (15 + a1.toNatClampNeg) x5_29.toNatClampNeg) (A_41 (15 + a1.toNatClampNeg) x6_41.toNatClampNeg)) dX3_begin_80 nm_X4_moves rfl rfl wl_X3_69 wi_X4_moves ws_X4_moves wn_X4 wc_X4_moves ⟨by decide, by decide⟩ (as := [.inl (A_41 (15 + a1.toNatClampNeg) x5_29.toNatClampNeg), .inl (A_41 (15 + a1.toNatClampNeg) x6_41.toNatClampNeg)]) (rest := [.inl a2]) rfl (Nat.le_of_ble_eq_true rfl) ⟨Nat.le_refl _, Nat.le_refl _⟩ (k_qI ?_)
              refine g_blk hC _ bX3_begin_83_95 (pc' := 95) (ls' := [some (.inr (some 68)), some (.inl a1), some (.inl a2), some (.inl (A 25 a1.toNatClampNeg)), some (.inl (A 25 (a1 + 1).toNatClampNeg)), some (.inl x5_29), some (.inl x6_41), some (.inl (A_41 (15 + a1.toNatClampNeg) x5_29.toNatClampNeg)), some (.inl (A_41 (15 + a1.toNatClampNeg) x6_41.toNatClampNeg)), some (.inl (a2 * (mvI (A_41 27) (A_41 28) (A_41 (15 + a1.toNatClampNeg) x5_29.toNatClampNeg) (A_41 (15 + a1.toNatClampNeg) x6_41.toNatClampNeg)))), none, none, none]) (st' := [.inl (A_41 (15 + a1.toNatClampNeg) x5_29.toNatClampNeg), .inl (A_41 (15 + a1.toNatClampNeg) x6_41.toNatClampNeg), .inr (some 26), .inl a2]) (I' := I_41) rfl rfl ?_
              refine g_callV hC (c_X4_moves l D ads I_41 A_41 (A_41 (15 + a1.toNatClampNeg) x6_41.toNatClampNeg) (A_41 (15 + a1.toNatClampNeg) x5_29.toNatClampNeg)) dX3_begin_95 nm_X4_moves rfl rfl wl_X3_69 wi_X4_moves ws_X4_moves wn_X4 wc_X4_moves ⟨by decide, by decide⟩ (as := [.inl (A_41 (15 + a1.toNatClampNeg) x6_41.toNatClampNeg), .inl (A_41 (15 + a1.toNatClampNeg) x5_29.toNatClampNeg)]) (rest := [.inl a2]) rfl (Nat.le_of_ble_eq_true rfl) ⟨Nat.le_refl _, Nat.le_refl _⟩ (k_qI ?_)
              refine g_blk hC _ bX3_begin_98_104 (pc' := 104) (ls' := [some (.inr (some 68)), some (.inl a1), some (.inl a2), some (.inl (A 25 a1.toNatClampNeg)), some (.inl (A 25 (a1 + 1).toNatClampNeg)), some (.inl x5_29), some (.inl x6_41), some (.inl (A_41 (15 + a1.toNatClampNeg) x5_29.toNatClampNeg)), some (.inl (A_41 (15 + a1.toNatClampNeg) x6_41.toNatClampNeg)), some (.inl (a2 * (mvI (A_41 27) (A_41 28) (A_41 (15 + a1.toNatClampNeg) x5_29.toNatClampNeg) (A_41 (15 + a1.toNatClampNeg) x6_41.toNatClampNeg)))), some (.inl (a2 * (mvI (A_41 27) (A_41 28) (A_41 (15 + a1.toNatClampNeg) x6_41.toNatClampNeg) (A_41 (15 + a1.toNatClampNeg) x5_29.toNatClampNeg)))), some (.inl 0), none]) (st' := []) (I' := I_41) rfl rfl ?_
              obtain ⟨hi104, hb104⟩ := hv
              have L104 : ∀ (n : Nat) (x9_104 : Int32) (x10_104 : Int32) (x11_104 : Int32), Iv104 x5_29 I_29 A_29 x6_41 I_41 A_41 x9_104 x10_104 x11_104 → mu104 x5_29 I_29 A_29 x6_41 I_41 A_41 x9_104 x10_104 x11_104 < n → Gm p l e s m args below meth c D ads 2 45 13 po I_41 A_41 104 [some (.inr (some 68)), some (.inl a1), some (.inl a2), some (.inl (A 25 a1.toNatClampNeg)), some (.inl (A 25 (a1 + 1).toNatClampNeg)), some (.inl x5_29), some (.inl x6_41), none, none, some (.inl x9_104), some (.inl x10_104), some (.inl x11_104), none] [] := by
                intro n
                induction n with
                | zero => intro x9_104 x10_104 x11_104 _ hn; exact absurd hn (Nat.not_lt_zero _)
                | succ n ih104 =>
                  intro x9_104 x10_104 x11_104 hv hn104
                  replace hv := hb104 x9_104 x10_104 x11_104 hv
                  skip
                  refine g_blk hC _ bX3_begin_104_108 (pc' := 108) (ls' := [some (.inr (some 68)), some (.inl a1), some (.inl a2), some (.inl (A 25 a1.toNatClampNeg)), some (.inl (A 25 (a1 + 1).toNatClampNeg)), some (.inl x5_29), some (.inl x6_41), none, none, some (.inl x9_104), some (.inl x10_104), some (.inl x11_104), none]) (st' := [.inl (A 25 (a1 + 1).toNatClampNeg), .inl x11_104]) (I' := I_41) rfl rfl ?_
                  obtain ⟨hv1, hv2⟩ := hv
                  refine g_cge hC dX3_begin_108 (tgt := 170) (by decide) (fun hc => ?_) (fun hc => ?_)
                  · have hv := hv1 hc
                    clear hv1 hv2 hc
                    refine g_blk hC _ bX3_begin_170_189 (pc' := 189) (ls' := [some (.inr (some 68)), some (.inl a1), some (.inl a2), some (.inl (A 25 a1.toNatClampNeg)), some (.inl (A 25 (a1 + 1).toNatClampNeg)), some (.inl x5_29), some (.inl x6_41), none, none, some (.inl x9_104), some (.inl x10_104), some (.inl x11_104), none]) (st' := [.inl x6_41, .inl x5_29, .inr (some 70)]) (I' := up2 I_41 68 5 ((I_41 68 5) + x9_104)) rfl rfl ?_
                    refine g_callN (host := RX8) hC (c_X8_pair l D ads (up2 I_41 68 5 ((I_41 68 5) + x9_104)) A_41 x5_29 x6_41) dX3_begin_189 nm_X8_pair (List.mem_of_getElem? (i := 4) rfl) wt_X8_pair wn_X8 wc_X8_pair ⟨by decide, by decide⟩ (as := [.inl x5_29, .inl x6_41]) (rest := [.inr (some 70)]) rfl (Nat.le_of_ble_eq_true rfl) ⟨Nat.le_refl _, Nat.le_refl _⟩ (k_qI ?_)
                    refine g_blk hC _ bX3_begin_192_197 (pc' := 197) (ls' := [some (.inr (some 68)), some (.inl a1), some (.inl a2), some (.inl (A 25 a1.toNatClampNeg)), some (.inl (A 25 (a1 + 1).toNatClampNeg)), some (.inl x5_29), some (.inl x6_41), none, none, some (.inl x9_104), some (.inl x10_104), some (.inl x11_104), none]) (st' := [.inl (x10_104 - x9_104), .inl (x5_29 * 5 + x6_41), .inr (some 70)]) (I' := up2 I_41 68 5 ((I_41 68 5) + x9_104)) rfl rfl ?_
                    obtain ⟨hi, hv⟩ := hv
                    refine g_iast hC dX3_begin_197 (rfl) hi ?_
                    clear hi
                    refine g_blk hC _ bX3_begin_198_206 (pc' := 206) (ls' := [some (.inr (some 68)), some (.inl a1), some (.inl a2), some (.inl (A 25 a1.toNatClampNeg)), some (.inl (A 25 (a1 + 1).toNatClampNeg)), some (.inl x5_29), some (.inl x6_41), none, none, some (.inl x9_104), some (.inl x10_104), some (.inl x11_104), none]) (st' := [.inl x5_29, .inl x6_41, .inr (some 70)]) (I' := up2 I_41 68 5 ((I_41 68 5) + x9_104)) rfl rfl ?_
                    refine g_callN (host := RX8) hC (c_X8_pair l D ads (up2 I_41 68 5 ((I_41 68 5) + x9_104)) (up2 A_41 70 (x5_29 * 5 + x6_41).toNatClampNeg (x10_104 - x9_104)) x6_41 x5_29) dX3_begin_206 nm_X8_pair (List.mem_of_getElem? (i := 4) rfl) wt_X8_pair wn_X8 wc_X8_pair ⟨by decide, by decide⟩ (as := [.inl x6_41, .inl x5_29]) (rest := [.inr (some 70)]) rfl (Nat.le_of_ble_eq_true rfl) ⟨Nat.le_refl _, Nat.le_refl _⟩ (k_qI ?_)
                    refine g_blk hC _ bX3_begin_209_214 (pc' := 214) (ls' := [some (.inr (some 68)), some (.inl a1), some (.inl a2), some (.inl (A 25 a1.toNatClampNeg)), some (.inl (A 25 (a1 + 1).toNatClampNeg)), some (.inl x5_29), some (.inl x6_41), none, none, some (.inl x9_104), some (.inl x10_104), some (.inl x11_104), none]) (st' := [.inl (x9_104 - x10_104), .inl (x6_41 * 5 + x5_29), .inr (some 70)]) (I' := up2 I_41 68 5 ((I_41 68 5) + x9_104)) rfl rfl ?_
                    obtain ⟨hi, hv⟩ := hv
                    refine g_iast hC dX3_begin_214 (rfl) hi ?_
                    clear hi
                    refine g_blk hC _ bX3_begin_215_218 (pc' := 218) (ls' := [some (.inr (some 68)), some (.inl a1), some (.inl a2), some (.inl (A 25 a1.toNatClampNeg)), some (.inl (A 25 (a1 + 1).toNatClampNeg)), some (.inl x5_29), some (.inl (x6_41 + 1)), none, none, some (.inl x9_104), some (.inl x10_104), some (.inl x11_104), none]) (st' := []) (I' := up2 I_41 68 5 ((I_41 68 5) + x9_104)) rfl rfl ?_
                    refine g_goto hC dX3_begin_218 (tgt := 41) (by decide) ?_
                    exact g_weak (ls1 := [some (.inr (some 68)), some (.inl a1), some (.inl a2), some (.inl (A 25 a1.toNatClampNeg)), some (.inl (A 25 (a1 + 1).toNatClampNeg)), some (.inl x5_29), some (.inl (x6_41 + 1)), none, none, none, none, none, none]) rfl (And.intro rfl (And.intro rfl (And.intro rfl (And.intro rfl (And.intro rfl (And.intro rfl (And.intro rfl trivial))))))) (ih41 (x6_41 + 1) (up2 I_41 68 5 ((I_41 68 5) + x9_104)) (up2 (up2 A_41 70 (x5_29 * 5 + x6_41).toNatClampNeg (x10_104 - x9_104)) 70 (x6_41 * 5 + x5_29).toNatClampNeg (x9_104 - x10_104)) hv.1 (Nat.lt_of_lt_of_le hv.2 (Nat.le_of_lt_succ hn41)))
                  · have hv := hv2 hc
                    clear hv1 hv2 hc
                    refine g_blk hC _ bX3_begin_111_117 (pc' := 117) (ls' := [some (.inr (some 68)), some (.inl a1), some (.inl a2), some (.inl (A 25 a1.toNatClampNeg)), some (.inl (A 25 (a1 + 1).toNatClampNeg)), some (.inl x5_29), some (.inl x6_41), none, none, some (.inl x9_104), some (.inl x10_104), some (.inl x11_104), some (.inl (x11_104 + 1))]) (st' := []) (I' := I_41) rfl rfl ?_
                    obtain ⟨hi117, hb117⟩ := hv
                    have L117 : ∀ (n : Nat) (x9_117 : Int32) (x10_117 : Int32) (x12_117 : Int32), Iv117 x5_29 I_29 A_29 x6_41 I_41 A_41 x9_104 x10_104 x11_104 x9_117 x10_117 x12_117 → mu117 x5_29 I_29 A_29 x6_41 I_41 A_41 x9_104 x10_104 x11_104 x9_117 x10_117 x12_117 < n → Gm p l e s m args below meth c D ads 2 45 13 po I_41 A_41 117 [some (.inr (some 68)), some (.inl a1), some (.inl a2), some (.inl (A 25 a1.toNatClampNeg)), some (.inl (A 25 (a1 + 1).toNatClampNeg)), some (.inl x5_29), some (.inl x6_41), none, none, some (.inl x9_117), some (.inl x10_117), some (.inl x11_104), some (.inl x12_117)] [] := by
                      intro n
                      induction n with
                      | zero => intro x9_117 x10_117 x12_117 _ hn; exact absurd hn (Nat.not_lt_zero _)
                      | succ n ih117 =>
                        intro x9_117 x10_117 x12_117 hv hn117
                        replace hv := hb117 x9_117 x10_117 x12_117 hv
                        skip
                        refine g_blk hC _ bX3_begin_117_121 (pc' := 121) (ls' := [some (.inr (some 68)), some (.inl a1), some (.inl a2), some (.inl (A 25 a1.toNatClampNeg)), some (.inl (A 25 (a1 + 1).toNatClampNeg)), some (.inl x5_29), some (.inl x6_41), none, none, some (.inl x9_117), some (.inl x10_117), some (.inl x11_104), some (.inl x12_117)]) (st' := [.inl (A 25 (a1 + 1).toNatClampNeg), .inl x12_117]) (I' := I_41) rfl rfl ?_
                        obtain ⟨hv1, hv2⟩ := hv
                        refine g_cge hC dX3_begin_121 (tgt := 164) (by decide) (fun hc => ?_) (fun hc => ?_)
                        · have hv := hv1 hc
                          clear hv1 hv2 hc
                          refine g_blk hC _ bX3_begin_164_167 (pc' := 167) (ls' := [some (.inr (some 68)), some (.inl a1), some (.inl a2), some (.inl (A 25 a1.toNatClampNeg)), some (.inl (A 25 (a1 + 1).toNatClampNeg)), some (.inl x5_29), some (.inl x6_41), none, none, some (.inl x9_117), some (.inl x10_117), some (.inl (x11_104 + 1)), some (.inl x12_117)]) (st' := []) (I' := I_41) rfl rfl ?_
                          refine g_goto hC dX3_begin_167 (tgt := 104) (by decide) ?_
                          exact g_weak (ls1 := [some (.inr (some 68)), some (.inl a1), some (.inl a2), some (.inl (A 25 a1.toNatClampNeg)), some (.inl (A 25 (a1 + 1).toNatClampNeg)), some (.inl x5_29), some (.inl x6_41), none, none, some (.inl x9_117), some (.inl x10_117), some (.inl (x11_104 + 1)), none]) rfl (And.intro rfl (And.intro rfl (And.intro rfl (And.intro rfl (And.intro rfl (And.intro rfl (And.intro rfl (And.intro rfl (And.intro rfl (And.intro rfl trivial)))))))))) (ih104 x9_117 x10_117 (x11_104 + 1) hv.1 (Nat.lt_of_lt_of_le hv.2 (Nat.le_of_lt_succ hn104)))
                        · have hv := hv2 hc
                          clear hv1 hv2 hc
                          refine g_blk hC _ bX3_begin_124_135 (pc' := 135) (ls' := [some (.inr (some 68)), some (.inl a1), some (.inl a2), some (.inl (A 25 a1.toNatClampNeg)), some (.inl (A 25 (a1 + 1).toNatClampNeg)), some (.inl x5_29), some (.inl x6_41), none, none, some (.inl x9_117), some (.inl x10_117), some (.inl x11_104), some (.inl x12_117)]) (st' := [.inl x12_117, .inl x11_104, .inl x6_41, .inl x5_29, .inr (some 68), .inl x9_117]) (I' := I_41) rfl rfl ?_
                          obtain ⟨hp9, hv⟩ := hv
                          refine g_callV hC (c_X3_crossing l D ads I_41 A_41 x5_29 x6_41 x11_104 x12_117 hp9) dX3_begin_135 nm_X3_crossing rfl rfl wl_X3_74 wi_X3_crossing ws_X3_crossing wn_X3 wc_X3_crossing ⟨by decide, by decide⟩ (as := [.inl x5_29, .inl x6_41, .inl x11_104, .inl x12_117]) (rest := [.inl x9_117]) rfl (Nat.le_of_ble_eq_true rfl) ⟨Nat.le_refl _, Nat.le_refl _⟩ (k_qI ?_)
                          refine g_blk hC _ bX3_begin_138_152 (pc' := 152) (ls' := [some (.inr (some 68)), some (.inl a1), some (.inl a2), some (.inl (A 25 a1.toNatClampNeg)), some (.inl (A 25 (a1 + 1).toNatClampNeg)), some (.inl x5_29), some (.inl x6_41), none, none, some (.inl (x9_117 + (A_41 69 (x5_29 * 5 + x12_117).toNatClampNeg * A_41 69 (x6_41 * 5 + x11_104).toNatClampNeg))), some (.inl x10_117), some (.inl x11_104), some (.inl x12_117)]) (st' := [.inl x12_117, .inl x11_104, .inl x5_29, .inl x6_41, .inr (some 68), .inl x10_117]) (I' := I_41) rfl rfl ?_
                          obtain ⟨hp10, hv⟩ := hv
                          refine g_callV hC (c_X3_crossing l D ads I_41 A_41 x6_41 x5_29 x11_104 x12_117 hp10) dX3_begin_152 nm_X3_crossing rfl rfl wl_X3_74 wi_X3_crossing ws_X3_crossing wn_X3 wc_X3_crossing ⟨by decide, by decide⟩ (as := [.inl x6_41, .inl x5_29, .inl x11_104, .inl x12_117]) (rest := [.inl x10_117]) rfl (Nat.le_of_ble_eq_true rfl) ⟨Nat.le_refl _, Nat.le_refl _⟩ (k_qI ?_)
                          refine g_blk hC _ bX3_begin_155_161 (pc' := 161) (ls' := [some (.inr (some 68)), some (.inl a1), some (.inl a2), some (.inl (A 25 a1.toNatClampNeg)), some (.inl (A 25 (a1 + 1).toNatClampNeg)), some (.inl x5_29), some (.inl x6_41), none, none, some (.inl (x9_117 + (A_41 69 (x5_29 * 5 + x12_117).toNatClampNeg * A_41 69 (x6_41 * 5 + x11_104).toNatClampNeg))), some (.inl (x10_117 + (A_41 69 (x6_41 * 5 + x12_117).toNatClampNeg * A_41 69 (x5_29 * 5 + x11_104).toNatClampNeg))), some (.inl x11_104), some (.inl (x12_117 + 1))]) (st' := []) (I' := I_41) rfl rfl ?_
                          refine g_goto hC dX3_begin_161 (tgt := 117) (by decide) ?_
                          exact g_weak (ls1 := [some (.inr (some 68)), some (.inl a1), some (.inl a2), some (.inl (A 25 a1.toNatClampNeg)), some (.inl (A 25 (a1 + 1).toNatClampNeg)), some (.inl x5_29), some (.inl x6_41), none, none, some (.inl (x9_117 + (A_41 69 (x5_29 * 5 + x12_117).toNatClampNeg * A_41 69 (x6_41 * 5 + x11_104).toNatClampNeg))), some (.inl (x10_117 + (A_41 69 (x6_41 * 5 + x12_117).toNatClampNeg * A_41 69 (x5_29 * 5 + x11_104).toNatClampNeg))), some (.inl x11_104), some (.inl (x12_117 + 1))]) rfl (And.intro rfl (And.intro rfl (And.intro rfl (And.intro rfl (And.intro rfl (And.intro rfl (And.intro rfl (And.intro rfl (And.intro rfl (And.intro rfl (And.intro rfl trivial))))))))))) (ih117 (x9_117 + (A_41 69 (x5_29 * 5 + x12_117).toNatClampNeg * A_41 69 (x6_41 * 5 + x11_104).toNatClampNeg)) (x10_117 + (A_41 69 (x6_41 * 5 + x12_117).toNatClampNeg * A_41 69 (x5_29 * 5 + x11_104).toNatClampNeg)) (x12_117 + 1) hv.1 (Nat.lt_of_lt_of_le hv.2 (Nat.le_of_lt_succ hn117)))
                    exact g_weak (ls1 := [some (.inr (some 68)), some (.inl a1), some (.inl a2), some (.inl (A 25 a1.toNatClampNeg)), some (.inl (A 25 (a1 + 1).toNatClampNeg)), some (.inl x5_29), some (.inl x6_41), none, none, some (.inl x9_104), some (.inl x10_104), some (.inl x11_104), some (.inl (x11_104 + 1))]) rfl (And.intro rfl (And.intro rfl (And.intro rfl (And.intro rfl (And.intro rfl (And.intro rfl (And.intro rfl (And.intro rfl (And.intro rfl (And.intro rfl (And.intro rfl trivial))))))))))) (L117 _ x9_104 x10_104 (x11_104 + 1) hi117 (Nat.lt_succ_self _))
              exact g_weak (ls1 := [some (.inr (some 68)), some (.inl a1), some (.inl a2), some (.inl (A 25 a1.toNatClampNeg)), some (.inl (A 25 (a1 + 1).toNatClampNeg)), some (.inl x5_29), some (.inl x6_41), none, none, some (.inl (a2 * (mvI (A_41 27) (A_41 28) (A_41 (15 + a1.toNatClampNeg) x5_29.toNatClampNeg) (A_41 (15 + a1.toNatClampNeg) x6_41.toNatClampNeg)))), some (.inl (a2 * (mvI (A_41 27) (A_41 28) (A_41 (15 + a1.toNatClampNeg) x6_41.toNatClampNeg) (A_41 (15 + a1.toNatClampNeg) x5_29.toNatClampNeg)))), some (.inl 0), none]) rfl (And.intro rfl (And.intro rfl (And.intro rfl (And.intro rfl (And.intro rfl (And.intro rfl (And.intro rfl (And.intro rfl (And.intro rfl (And.intro rfl trivial)))))))))) (L104 _ (a2 * (mvI (A_41 27) (A_41 28) (A_41 (15 + a1.toNatClampNeg) x5_29.toNatClampNeg) (A_41 (15 + a1.toNatClampNeg) x6_41.toNatClampNeg))) (a2 * (mvI (A_41 27) (A_41 28) (A_41 (15 + a1.toNatClampNeg) x6_41.toNatClampNeg) (A_41 (15 + a1.toNatClampNeg) x5_29.toNatClampNeg))) 0 hi104 (Nat.lt_succ_self _))
        exact g_weak (ls1 := [some (.inr (some 68)), some (.inl a1), some (.inl a2), some (.inl (A 25 a1.toNatClampNeg)), some (.inl (A 25 (a1 + 1).toNatClampNeg)), some (.inl x5_29), some (.inl (x5_29 + 1)), none, none, none, none, none, none]) rfl (And.intro rfl (And.intro rfl (And.intro rfl (And.intro rfl (And.intro rfl (And.intro rfl (And.intro rfl trivial))))))) (L41 _ (x5_29 + 1) I_29 A_29 hi41 (Nat.lt_succ_self _))
  exact g_weak (ls1 := [some (.inr (some 68)), some (.inl a1), some (.inl a2), some (.inl (A 25 a1.toNatClampNeg)), some (.inl (A 25 (a1 + 1).toNatClampNeg)), some (.inl 0), none, none, none, none, none, none, none]) rfl (And.intro rfl (And.intro rfl (And.intro rfl (And.intro rfl (And.intro rfl (And.intro rfl trivial)))))) (L29 _ 0 (up2 I 68 5 0) A hi29 (Nat.lt_succ_self _))
theorem bX3_exchangeNext_0_2 : okB cX3_exchangeNext RX3 0 [(3, 2, 0, 0, 0), (0, 0, 0, 0, 5)] := And.intro ⟨_, dX3_exchangeNext_0, rfl⟩ (And.intro ⟨_, dX3_exchangeNext_1, by decide⟩ trivial)
theorem bX3_exchangeNext_3_6 : okB cX3_exchangeNext RX3 3 [(7, 3, 0, 0, 0), (3, 2, 0, 0, 0), (0, 0, 0, 0, 5)] := And.intro ⟨_, dX3_exchangeNext_3, rfl⟩ (And.intro ⟨_, dX3_exchangeNext_4, rfl⟩ (And.intro ⟨_, dX3_exchangeNext_5, by decide⟩ trivial))
theorem bX3_exchangeNext_7_14 : okB cX3_exchangeNext RX3 7 [(8, 4, 0, 0, 0), (5, 0, 0, 0, 0), (23, 26, 3, 1, 0), (3, 1, 0, 0, 0)] := And.intro dX3_exchangeNext_7 (And.intro ⟨_, dX3_exchangeNext_9, rfl⟩ (And.intro ⟨dX3_exchangeNext_10, fl_X3_26⟩ (And.intro ⟨_, dX3_exchangeNext_13, rfl⟩ trivial)))
theorem bX3_exchangeNext_17_22 : okB cX3_exchangeNext RX3 17 [(8, 5, 0, 0, 0), (0, 0, 0, 0, 0), (8, 6, 0, 0, 0)] := And.intro dX3_exchangeNext_17 (And.intro ⟨_, dX3_exchangeNext_19, by decide⟩ (And.intro dX3_exchangeNext_20 trivial))
theorem bX3_exchangeNext_22_26 : okB cX3_exchangeNext RX3 22 [(4, 6, 0, 0, 0), (4, 5, 0, 0, 0)] := And.intro dX3_exchangeNext_22 (And.intro dX3_exchangeNext_24 trivial)
theorem bX3_exchangeNext_29_35 : okB cX3_exchangeNext RX3 29 [(4, 6, 0, 0, 0), (0, 0, 0, 0, 1), (12, 0, 0, 0, 0), (8, 7, 0, 0, 0)] := And.intro dX3_exchangeNext_29 (And.intro ⟨_, dX3_exchangeNext_31, by decide⟩ (And.intro dX3_exchangeNext_32 (And.intro dX3_exchangeNext_33 trivial)))
theorem bX3_exchangeNext_35_39 : okB cX3_exchangeNext RX3 35 [(4, 7, 0, 0, 0), (4, 5, 0, 0, 0)] := And.intro dX3_exchangeNext_35 (And.intro dX3_exchangeNext_37 trivial)
theorem bX3_exchangeNext_122_125 : okB cX3_exchangeNext RX3 122 [(11, 6, 0, 0, 1)] := And.intro ⟨_, dX3_exchangeNext_122, by decide⟩ trivial
theorem bX3_exchangeNext_42_50 : okB cX3_exchangeNext RX3 42 [(5, 0, 0, 0, 0), (4, 6, 0, 0, 0), (4, 7, 0, 0, 0), (4, 4, 0, 0, 0), (3, 3, 0, 0, 0)] := And.intro ⟨_, dX3_exchangeNext_42, rfl⟩ (And.intro dX3_exchangeNext_43 (And.intro dX3_exchangeNext_45 (And.intro dX3_exchangeNext_47 (And.intro ⟨_, dX3_exchangeNext_49, rfl⟩ trivial))))
theorem bX3_exchangeNext_53_61 : okB cX3_exchangeNext RX3 53 [(5, 0, 0, 0, 0), (4, 6, 0, 0, 0), (4, 7, 0, 0, 0), (3, 3, 0, 0, 0), (4, 4, 0, 0, 0)] := And.intro ⟨_, dX3_exchangeNext_53, rfl⟩ (And.intro dX3_exchangeNext_54 (And.intro dX3_exchangeNext_56 (And.intro ⟨_, dX3_exchangeNext_58, rfl⟩ (And.intro dX3_exchangeNext_59 trivial))))
theorem bX3_exchangeNext_64_86 : okB cX3_exchangeNext RX3 64 [(13, 0, 0, 0, 0), (8, 8, 0, 0, 0), (5, 0, 0, 0, 0), (20, 0, 0, 0, 0), (23, 18, 3, 5, 0), (4, 8, 0, 0, 0), (12, 0, 0, 0, 0), (24, 18, 3, 5, 0), (5, 0, 0, 0, 0), (23, 15, 3, 4, 0), (4, 6, 0, 0, 0), (4, 7, 0, 0, 0)] := And.intro dX3_exchangeNext_64 (And.intro dX3_exchangeNext_65 (And.intro ⟨_, dX3_exchangeNext_67, rfl⟩ (And.intro dX3_exchangeNext_68 (And.intro ⟨dX3_exchangeNext_69, fl_X3_18⟩ (And.intro dX3_exchangeNext_72 (And.intro dX3_exchangeNext_74 (And.intro ⟨dX3_exchangeNext_75, fl_X3_18, rfl, rfl⟩ (And.intro ⟨_, dX3_exchangeNext_78, rfl⟩ (And.intro ⟨dX3_exchangeNext_79, fl_X3_15⟩ (And.intro dX3_exchangeNext_82 (And.intro dX3_exchangeNext_84 trivial)))))))))))
theorem bX3_exchangeNext_89_90 : okB cX3_exchangeNext RX3 89 [(22, 0, 0, 0, 0)] := And.intro dX3_exchangeNext_89 trivial
theorem bX3_exchangeNext_91_96 : okB cX3_exchangeNext RX3 91 [(0, 0, 0, 0, 2), (4, 8, 0, 0, 0), (14, 0, 0, 0, 0), (13, 0, 0, 0, 0)] := And.intro ⟨_, dX3_exchangeNext_91, by decide⟩ (And.intro dX3_exchangeNext_92 (And.intro dX3_exchangeNext_94 (And.intro dX3_exchangeNext_95 trivial)))
theorem bX3_exchangeNext_97_105 : okB cX3_exchangeNext RX3 97 [(5, 0, 0, 0, 0), (23, 15, 3, 4, 0), (4, 7, 0, 0, 0), (4, 6, 0, 0, 0)] := And.intro ⟨_, dX3_exchangeNext_97, rfl⟩ (And.intro ⟨dX3_exchangeNext_98, fl_X3_15⟩ (And.intro dX3_exchangeNext_101 (And.intro dX3_exchangeNext_103 trivial)))
theorem bX3_exchangeNext_108_109 : okB cX3_exchangeNext RX3 108 [(22, 0, 0, 0, 0)] := And.intro dX3_exchangeNext_108 trivial
theorem bX3_exchangeNext_110_115 : okB cX3_exchangeNext RX3 110 [(0, 0, 0, 0, 2), (4, 8, 0, 0, 0), (14, 0, 0, 0, 0), (12, 0, 0, 0, 0)] := And.intro ⟨_, dX3_exchangeNext_110, by decide⟩ (And.intro dX3_exchangeNext_111 (And.intro dX3_exchangeNext_113 (And.intro dX3_exchangeNext_114 trivial)))
theorem bX3_exchangeNext_116_119 : okB cX3_exchangeNext RX3 116 [(11, 7, 0, 0, 1)] := And.intro ⟨_, dX3_exchangeNext_116, by decide⟩ trivial
set_option maxHeartbeats 4000000 in
set_option maxRecDepth 100000 in
theorem k_X3_exchangeNext (l : Launch) (D : va_G) (ads : AD) (I A : HI) (a1 : Int32) (a2 : Int32) (po : Option AV → HI → HI → Prop) (Iv22 : Int32 → HI → HI → Prop) (mu22 : Int32 → HI → HI → Nat) (Iv35 : Int32 → HI → HI → Int32 → HI → HI → Prop) (mu35 : Int32 → HI → HI → Int32 → HI → HI → Nat)
    (hv : ((vp_in a1 11) ∧ (Iv22 0 I A ∧ ∀ (x6_22 : Int32) (I_22 : HI) (A_22 : HI), Iv22 x6_22 I_22 A_22 → (((A 25 a1.toNatClampNeg) ≤ x6_22 → po none I_22 A_22) ∧ (¬ (A 25 a1.toNatClampNeg) ≤ x6_22 → (Iv35 x6_22 I_22 A_22 (x6_22 + 1) I_22 A_22 ∧ ∀ (x7_35 : Int32) (I_35 : HI) (A_35 : HI), Iv35 x6_22 I_22 A_22 x7_35 I_35 A_35 → (((A 25 a1.toNatClampNeg) ≤ x7_35 → (Iv22 (x6_22 + 1) I_35 A_35 ∧ mu22 (x6_22 + 1) I_35 A_35 < mu22 x6_22 I_22 A_22)) ∧ (¬ (A 25 a1.toNatClampNeg) ≤ x7_35 → ((vp_in (x6_22 * 5 + (a2 / 5)) 25 ∧ vp_in (x7_35 * 5 + (a2 - a2 / 5 * 5)) 25) ∧ ((vp_in (x6_22 * 5 + (a2 - a2 / 5 * 5)) 25 ∧ vp_in (x7_35 * 5 + (a2 / 5)) 25) ∧ (vp_in (x6_22 * 5 + x7_35) 25 ∧ (vp_in (x6_22 * 5 + x7_35) 25 ∧ (vp_in (x7_35 * 5 + x6_22) 25 ∧ (vp_in (x7_35 * 5 + x6_22) 25 ∧ (Iv35 x6_22 I_22 A_22 (x7_35 + 1) (up2 I_35 68 5 ((I_35 68 5) + ((A_35 69 (x6_22 * 5 + (a2 / 5)).toNatClampNeg * A_35 69 (x7_35 * 5 + (a2 - a2 / 5 * 5)).toNatClampNeg) - (A_35 69 (x6_22 * 5 + (a2 - a2 / 5 * 5)).toNatClampNeg * A_35 69 (x7_35 * 5 + (a2 / 5)).toNatClampNeg)))) (up2 (up2 A_35 70 (x6_22 * 5 + x7_35).toNatClampNeg ((A_35 70 (x6_22 * 5 + x7_35).toNatClampNeg) - (2 * ((A_35 69 (x6_22 * 5 + (a2 / 5)).toNatClampNeg * A_35 69 (x7_35 * 5 + (a2 - a2 / 5 * 5)).toNatClampNeg) - (A_35 69 (x6_22 * 5 + (a2 - a2 / 5 * 5)).toNatClampNeg * A_35 69 (x7_35 * 5 + (a2 / 5)).toNatClampNeg))))) 70 (x7_35 * 5 + x6_22).toNatClampNeg (((up2 A_35 70 (x6_22 * 5 + x7_35).toNatClampNeg ((A_35 70 (x6_22 * 5 + x7_35).toNatClampNeg) - (2 * ((A_35 69 (x6_22 * 5 + (a2 / 5)).toNatClampNeg * A_35 69 (x7_35 * 5 + (a2 - a2 / 5 * 5)).toNatClampNeg) - (A_35 69 (x6_22 * 5 + (a2 - a2 / 5 * 5)).toNatClampNeg * A_35 69 (x7_35 * 5 + (a2 / 5)).toNatClampNeg))))) 70 (x7_35 * 5 + x6_22).toNatClampNeg) + (2 * ((A_35 69 (x6_22 * 5 + (a2 / 5)).toNatClampNeg * A_35 69 (x7_35 * 5 + (a2 - a2 / 5 * 5)).toNatClampNeg) - (A_35 69 (x6_22 * 5 + (a2 - a2 / 5 * 5)).toNatClampNeg * A_35 69 (x7_35 * 5 + (a2 / 5)).toNatClampNeg))))) ∧ mu35 x6_22 I_22 A_22 (x7_35 + 1) (up2 I_35 68 5 ((I_35 68 5) + ((A_35 69 (x6_22 * 5 + (a2 / 5)).toNatClampNeg * A_35 69 (x7_35 * 5 + (a2 - a2 / 5 * 5)).toNatClampNeg) - (A_35 69 (x6_22 * 5 + (a2 - a2 / 5 * 5)).toNatClampNeg * A_35 69 (x7_35 * 5 + (a2 / 5)).toNatClampNeg)))) (up2 (up2 A_35 70 (x6_22 * 5 + x7_35).toNatClampNeg ((A_35 70 (x6_22 * 5 + x7_35).toNatClampNeg) - (2 * ((A_35 69 (x6_22 * 5 + (a2 / 5)).toNatClampNeg * A_35 69 (x7_35 * 5 + (a2 - a2 / 5 * 5)).toNatClampNeg) - (A_35 69 (x6_22 * 5 + (a2 - a2 / 5 * 5)).toNatClampNeg * A_35 69 (x7_35 * 5 + (a2 / 5)).toNatClampNeg))))) 70 (x7_35 * 5 + x6_22).toNatClampNeg (((up2 A_35 70 (x6_22 * 5 + x7_35).toNatClampNeg ((A_35 70 (x6_22 * 5 + x7_35).toNatClampNeg) - (2 * ((A_35 69 (x6_22 * 5 + (a2 / 5)).toNatClampNeg * A_35 69 (x7_35 * 5 + (a2 - a2 / 5 * 5)).toNatClampNeg) - (A_35 69 (x6_22 * 5 + (a2 - a2 / 5 * 5)).toNatClampNeg * A_35 69 (x7_35 * 5 + (a2 / 5)).toNatClampNeg))))) 70 (x7_35 * 5 + x6_22).toNatClampNeg) + (2 * ((A_35 69 (x6_22 * 5 + (a2 / 5)).toNatClampNeg * A_35 69 (x7_35 * 5 + (a2 - a2 / 5 * 5)).toNatClampNeg) - (A_35 69 (x6_22 * 5 + (a2 - a2 / 5 * 5)).toNatClampNeg * A_35 69 (x7_35 * 5 + (a2 / 5)).toNatClampNeg))))) < mu35 x6_22 I_22 A_22 x7_35 I_35 A_35))))))))))))))) : Ct l yX3_exchangeNext cX3_exchangeNext 9 none 2 45 D ads shp [.inr (some 68), .inl a1, .inl a2] I A po := by
  refine Ct_of (by decide) (Nat.le_of_ble_eq_true rfl) ?_
  intro p e s m args below meth c hC hr
  replace hC : CX p s m args meth c cX3_exchangeNext 9 RX3 (AdS ads s.heap.size) := hC
  show Gm p l e s m args below meth c D ads 2 45 9 po I A 0 [some (.inr (some 68)), some (.inl a1), some (.inl a2), none, none, none, none, none, none] []
  refine g_blk hC _ bX3_exchangeNext_0_2 (pc' := 2) (ls' := [some (.inr (some 68)), some (.inl a1), some (.inl a2), none, none, none, none, none, none]) (st' := [.inl 5, .inl a2]) (I' := I) rfl rfl ?_
  refine g_idiv hC dX3_exchangeNext_2 (by decide) ?_
  refine g_blk hC _ bX3_exchangeNext_3_6 (pc' := 6) (ls' := [some (.inr (some 68)), some (.inl a1), some (.inl a2), some (.inl (a2 / 5)), none, none, none, none, none]) (st' := [.inl 5, .inl a2]) (I' := I) rfl rfl ?_
  refine g_irem hC dX3_exchangeNext_6 (by decide) ?_
  refine g_blk hC _ bX3_exchangeNext_7_14 (pc' := 14) (ls' := [some (.inr (some 68)), some (.inl a1), some (.inl a2), some (.inl (a2 / 5)), some (.inl (a2 - a2 / 5 * 5)), none, none, none, none]) (st' := [.inl a1, .inr (some 13)]) (I' := I) rfl rfl ?_
  obtain ⟨hp1, hv⟩ := hv
  refine g_callV hC (c_X7_countIn l D ads I A a1 hp1) dX3_exchangeNext_14 nm_X7_countIn rfl rfl wl_X3_62 wi_X7_countIn ws_X7_countIn wn_X7 wc_X7_countIn ⟨by decide, by decide⟩ (as := [.inl a1]) (rest := []) rfl (Nat.le_of_ble_eq_true rfl) ⟨Nat.le_refl _, Nat.le_refl _⟩ (k_qI ?_)
  refine g_blk hC _ bX3_exchangeNext_17_22 (pc' := 22) (ls' := [some (.inr (some 68)), some (.inl a1), some (.inl a2), some (.inl (a2 / 5)), some (.inl (a2 - a2 / 5 * 5)), some (.inl (A 25 a1.toNatClampNeg)), some (.inl 0), none, none]) (st' := []) (I' := I) rfl rfl ?_
  obtain ⟨hi22, hb22⟩ := hv
  have L22 : ∀ (n : Nat) (x6_22 : Int32) (I_22 : HI) (A_22 : HI), Iv22 x6_22 I_22 A_22 → mu22 x6_22 I_22 A_22 < n → Gm p l e s m args below meth c D ads 2 45 9 po I_22 A_22 22 [some (.inr (some 68)), none, none, some (.inl (a2 / 5)), some (.inl (a2 - a2 / 5 * 5)), some (.inl (A 25 a1.toNatClampNeg)), some (.inl x6_22), none, none] [] := by
    intro n
    induction n with
    | zero => intro x6_22 I_22 A_22 _ hn; exact absurd hn (Nat.not_lt_zero _)
    | succ n ih22 =>
      intro x6_22 I_22 A_22 hv hn22
      replace hv := hb22 x6_22 I_22 A_22 hv
      skip
      refine g_blk hC _ bX3_exchangeNext_22_26 (pc' := 26) (ls' := [some (.inr (some 68)), none, none, some (.inl (a2 / 5)), some (.inl (a2 - a2 / 5 * 5)), some (.inl (A 25 a1.toNatClampNeg)), some (.inl x6_22), none, none]) (st' := [.inl (A 25 a1.toNatClampNeg), .inl x6_22]) (I' := I_22) rfl rfl ?_
      obtain ⟨hv1, hv2⟩ := hv
      refine g_cge hC dX3_exchangeNext_26 (tgt := 128) (by decide) (fun hc => ?_) (fun hc => ?_)
      · have hv := hv1 hc
        clear hv1 hv2 hc
        exact g_retv hC hr dX3_exchangeNext_128 hv
      · have hv := hv2 hc
        clear hv1 hv2 hc
        refine g_blk hC _ bX3_exchangeNext_29_35 (pc' := 35) (ls' := [some (.inr (some 68)), none, none, some (.inl (a2 / 5)), some (.inl (a2 - a2 / 5 * 5)), some (.inl (A 25 a1.toNatClampNeg)), some (.inl x6_22), some (.inl (x6_22 + 1)), none]) (st' := []) (I' := I_22) rfl rfl ?_
        obtain ⟨hi35, hb35⟩ := hv
        have L35 : ∀ (n : Nat) (x7_35 : Int32) (I_35 : HI) (A_35 : HI), Iv35 x6_22 I_22 A_22 x7_35 I_35 A_35 → mu35 x6_22 I_22 A_22 x7_35 I_35 A_35 < n → Gm p l e s m args below meth c D ads 2 45 9 po I_35 A_35 35 [some (.inr (some 68)), none, none, some (.inl (a2 / 5)), some (.inl (a2 - a2 / 5 * 5)), some (.inl (A 25 a1.toNatClampNeg)), some (.inl x6_22), some (.inl x7_35), none] [] := by
          intro n
          induction n with
          | zero => intro x7_35 I_35 A_35 _ hn; exact absurd hn (Nat.not_lt_zero _)
          | succ n ih35 =>
            intro x7_35 I_35 A_35 hv hn35
            replace hv := hb35 x7_35 I_35 A_35 hv
            skip
            refine g_blk hC _ bX3_exchangeNext_35_39 (pc' := 39) (ls' := [some (.inr (some 68)), none, none, some (.inl (a2 / 5)), some (.inl (a2 - a2 / 5 * 5)), some (.inl (A 25 a1.toNatClampNeg)), some (.inl x6_22), some (.inl x7_35), none]) (st' := [.inl (A 25 a1.toNatClampNeg), .inl x7_35]) (I' := I_35) rfl rfl ?_
            obtain ⟨hv1, hv2⟩ := hv
            refine g_cge hC dX3_exchangeNext_39 (tgt := 122) (by decide) (fun hc => ?_) (fun hc => ?_)
            · have hv := hv1 hc
              clear hv1 hv2 hc
              refine g_blk hC _ bX3_exchangeNext_122_125 (pc' := 125) (ls' := [some (.inr (some 68)), none, none, some (.inl (a2 / 5)), some (.inl (a2 - a2 / 5 * 5)), some (.inl (A 25 a1.toNatClampNeg)), some (.inl (x6_22 + 1)), some (.inl x7_35), none]) (st' := []) (I' := I_35) rfl rfl ?_
              refine g_goto hC dX3_exchangeNext_125 (tgt := 22) (by decide) ?_
              exact g_weak (ls1 := [some (.inr (some 68)), none, none, some (.inl (a2 / 5)), some (.inl (a2 - a2 / 5 * 5)), some (.inl (A 25 a1.toNatClampNeg)), some (.inl (x6_22 + 1)), none, none]) rfl (And.intro rfl (And.intro rfl (And.intro rfl (And.intro rfl (And.intro rfl trivial))))) (ih22 (x6_22 + 1) I_35 A_35 hv.1 (Nat.lt_of_lt_of_le hv.2 (Nat.le_of_lt_succ hn22)))
            · have hv := hv2 hc
              clear hv1 hv2 hc
              refine g_blk hC _ bX3_exchangeNext_42_50 (pc' := 50) (ls' := [some (.inr (some 68)), none, none, some (.inl (a2 / 5)), some (.inl (a2 - a2 / 5 * 5)), some (.inl (A 25 a1.toNatClampNeg)), some (.inl x6_22), some (.inl x7_35), none]) (st' := [.inl (a2 / 5), .inl (a2 - a2 / 5 * 5), .inl x7_35, .inl x6_22, .inr (some 68)]) (I' := I_35) rfl rfl ?_
              obtain ⟨hp2, hv⟩ := hv
              refine g_callV hC (c_X3_crossing l D ads I_35 A_35 x6_22 x7_35 (a2 - a2 / 5 * 5) (a2 / 5) hp2) dX3_exchangeNext_50 nm_X3_crossing rfl rfl wl_X3_74 wi_X3_crossing ws_X3_crossing wn_X3 wc_X3_crossing ⟨by decide, by decide⟩ (as := [.inl x6_22, .inl x7_35, .inl (a2 - a2 / 5 * 5), .inl (a2 / 5)]) (rest := []) rfl (Nat.le_of_ble_eq_true rfl) ⟨Nat.le_refl _, Nat.le_refl _⟩ (k_qI ?_)
              refine g_blk hC _ bX3_exchangeNext_53_61 (pc' := 61) (ls' := [some (.inr (some 68)), none, none, some (.inl (a2 / 5)), some (.inl (a2 - a2 / 5 * 5)), some (.inl (A 25 a1.toNatClampNeg)), some (.inl x6_22), some (.inl x7_35), none]) (st' := [.inl (a2 - a2 / 5 * 5), .inl (a2 / 5), .inl x7_35, .inl x6_22, .inr (some 68), .inl (A_35 69 (x6_22 * 5 + (a2 / 5)).toNatClampNeg * A_35 69 (x7_35 * 5 + (a2 - a2 / 5 * 5)).toNatClampNeg)]) (I' := I_35) rfl rfl ?_
              obtain ⟨hp3, hv⟩ := hv
              refine g_callV hC (c_X3_crossing l D ads I_35 A_35 x6_22 x7_35 (a2 / 5) (a2 - a2 / 5 * 5) hp3) dX3_exchangeNext_61 nm_X3_crossing rfl rfl wl_X3_74 wi_X3_crossing ws_X3_crossing wn_X3 wc_X3_crossing ⟨by decide, by decide⟩ (as := [.inl x6_22, .inl x7_35, .inl (a2 / 5), .inl (a2 - a2 / 5 * 5)]) (rest := [.inl (A_35 69 (x6_22 * 5 + (a2 / 5)).toNatClampNeg * A_35 69 (x7_35 * 5 + (a2 - a2 / 5 * 5)).toNatClampNeg)]) rfl (Nat.le_of_ble_eq_true rfl) ⟨Nat.le_refl _, Nat.le_refl _⟩ (k_qI ?_)
              refine g_blk hC _ bX3_exchangeNext_64_86 (pc' := 86) (ls' := [some (.inr (some 68)), none, none, some (.inl (a2 / 5)), some (.inl (a2 - a2 / 5 * 5)), some (.inl (A 25 a1.toNatClampNeg)), some (.inl x6_22), some (.inl x7_35), some (.inl ((A_35 69 (x6_22 * 5 + (a2 / 5)).toNatClampNeg * A_35 69 (x7_35 * 5 + (a2 - a2 / 5 * 5)).toNatClampNeg) - (A_35 69 (x6_22 * 5 + (a2 - a2 / 5 * 5)).toNatClampNeg * A_35 69 (x7_35 * 5 + (a2 / 5)).toNatClampNeg)))]) (st' := [.inl x7_35, .inl x6_22, .inr (some 70)]) (I' := up2 I_35 68 5 ((I_35 68 5) + ((A_35 69 (x6_22 * 5 + (a2 / 5)).toNatClampNeg * A_35 69 (x7_35 * 5 + (a2 - a2 / 5 * 5)).toNatClampNeg) - (A_35 69 (x6_22 * 5 + (a2 - a2 / 5 * 5)).toNatClampNeg * A_35 69 (x7_35 * 5 + (a2 / 5)).toNatClampNeg)))) rfl rfl ?_
              refine g_callN (host := RX8) hC (c_X8_pair l D ads (up2 I_35 68 5 ((I_35 68 5) + ((A_35 69 (x6_22 * 5 + (a2 / 5)).toNatClampNeg * A_35 69 (x7_35 * 5 + (a2 - a2 / 5 * 5)).toNatClampNeg) - (A_35 69 (x6_22 * 5 + (a2 - a2 / 5 * 5)).toNatClampNeg * A_35 69 (x7_35 * 5 + (a2 / 5)).toNatClampNeg)))) A_35 x6_22 x7_35) dX3_exchangeNext_86 nm_X8_pair (List.mem_of_getElem? (i := 4) rfl) wt_X8_pair wn_X8 wc_X8_pair ⟨by decide, by decide⟩ (as := [.inl x6_22, .inl x7_35]) (rest := [.inr (some 70)]) rfl (Nat.le_of_ble_eq_true rfl) ⟨Nat.le_refl _, Nat.le_refl _⟩ (k_qI ?_)
              refine g_blk hC _ bX3_exchangeNext_89_90 (pc' := 90) (ls' := [some (.inr (some 68)), none, none, some (.inl (a2 / 5)), some (.inl (a2 - a2 / 5 * 5)), some (.inl (A 25 a1.toNatClampNeg)), some (.inl x6_22), some (.inl x7_35), some (.inl ((A_35 69 (x6_22 * 5 + (a2 / 5)).toNatClampNeg * A_35 69 (x7_35 * 5 + (a2 - a2 / 5 * 5)).toNatClampNeg) - (A_35 69 (x6_22 * 5 + (a2 - a2 / 5 * 5)).toNatClampNeg * A_35 69 (x7_35 * 5 + (a2 / 5)).toNatClampNeg)))]) (st' := [.inl (x6_22 * 5 + x7_35), .inr (some 70), .inl (x6_22 * 5 + x7_35), .inr (some 70)]) (I' := up2 I_35 68 5 ((I_35 68 5) + ((A_35 69 (x6_22 * 5 + (a2 / 5)).toNatClampNeg * A_35 69 (x7_35 * 5 + (a2 - a2 / 5 * 5)).toNatClampNeg) - (A_35 69 (x6_22 * 5 + (a2 - a2 / 5 * 5)).toNatClampNeg * A_35 69 (x7_35 * 5 + (a2 / 5)).toNatClampNeg)))) rfl rfl ?_
              obtain ⟨hi, hv⟩ := hv
              refine g_iald hC dX3_exchangeNext_90 (rfl) hi ?_
              clear hi
              refine g_blk hC _ bX3_exchangeNext_91_96 (pc' := 96) (ls' := [some (.inr (some 68)), none, none, some (.inl (a2 / 5)), some (.inl (a2 - a2 / 5 * 5)), some (.inl (A 25 a1.toNatClampNeg)), some (.inl x6_22), some (.inl x7_35), some (.inl ((A_35 69 (x6_22 * 5 + (a2 / 5)).toNatClampNeg * A_35 69 (x7_35 * 5 + (a2 - a2 / 5 * 5)).toNatClampNeg) - (A_35 69 (x6_22 * 5 + (a2 - a2 / 5 * 5)).toNatClampNeg * A_35 69 (x7_35 * 5 + (a2 / 5)).toNatClampNeg)))]) (st' := [.inl ((A_35 70 (x6_22 * 5 + x7_35).toNatClampNeg) - (2 * ((A_35 69 (x6_22 * 5 + (a2 / 5)).toNatClampNeg * A_35 69 (x7_35 * 5 + (a2 - a2 / 5 * 5)).toNatClampNeg) - (A_35 69 (x6_22 * 5 + (a2 - a2 / 5 * 5)).toNatClampNeg * A_35 69 (x7_35 * 5 + (a2 / 5)).toNatClampNeg)))), .inl (x6_22 * 5 + x7_35), .inr (some 70)]) (I' := up2 I_35 68 5 ((I_35 68 5) + ((A_35 69 (x6_22 * 5 + (a2 / 5)).toNatClampNeg * A_35 69 (x7_35 * 5 + (a2 - a2 / 5 * 5)).toNatClampNeg) - (A_35 69 (x6_22 * 5 + (a2 - a2 / 5 * 5)).toNatClampNeg * A_35 69 (x7_35 * 5 + (a2 / 5)).toNatClampNeg)))) rfl rfl ?_
              obtain ⟨hi, hv⟩ := hv
              refine g_iast hC dX3_exchangeNext_96 (rfl) hi ?_
              clear hi
              refine g_blk hC _ bX3_exchangeNext_97_105 (pc' := 105) (ls' := [some (.inr (some 68)), none, none, some (.inl (a2 / 5)), some (.inl (a2 - a2 / 5 * 5)), some (.inl (A 25 a1.toNatClampNeg)), some (.inl x6_22), some (.inl x7_35), some (.inl ((A_35 69 (x6_22 * 5 + (a2 / 5)).toNatClampNeg * A_35 69 (x7_35 * 5 + (a2 - a2 / 5 * 5)).toNatClampNeg) - (A_35 69 (x6_22 * 5 + (a2 - a2 / 5 * 5)).toNatClampNeg * A_35 69 (x7_35 * 5 + (a2 / 5)).toNatClampNeg)))]) (st' := [.inl x6_22, .inl x7_35, .inr (some 70)]) (I' := up2 I_35 68 5 ((I_35 68 5) + ((A_35 69 (x6_22 * 5 + (a2 / 5)).toNatClampNeg * A_35 69 (x7_35 * 5 + (a2 - a2 / 5 * 5)).toNatClampNeg) - (A_35 69 (x6_22 * 5 + (a2 - a2 / 5 * 5)).toNatClampNeg * A_35 69 (x7_35 * 5 + (a2 / 5)).toNatClampNeg)))) rfl rfl ?_
              refine g_callN (host := RX8) hC (c_X8_pair l D ads (up2 I_35 68 5 ((I_35 68 5) + ((A_35 69 (x6_22 * 5 + (a2 / 5)).toNatClampNeg * A_35 69 (x7_35 * 5 + (a2 - a2 / 5 * 5)).toNatClampNeg) - (A_35 69 (x6_22 * 5 + (a2 - a2 / 5 * 5)).toNatClampNeg * A_35 69 (x7_35 * 5 + (a2 / 5)).toNatClampNeg)))) (up2 A_35 70 (x6_22 * 5 + x7_35).toNatClampNeg ((A_35 70 (x6_22 * 5 + x7_35).toNatClampNeg) - (2 * ((A_35 69 (x6_22 * 5 + (a2 / 5)).toNatClampNeg * A_35 69 (x7_35 * 5 + (a2 - a2 / 5 * 5)).toNatClampNeg) - (A_35 69 (x6_22 * 5 + (a2 - a2 / 5 * 5)).toNatClampNeg * A_35 69 (x7_35 * 5 + (a2 / 5)).toNatClampNeg))))) x7_35 x6_22) dX3_exchangeNext_105 nm_X8_pair (List.mem_of_getElem? (i := 4) rfl) wt_X8_pair wn_X8 wc_X8_pair ⟨by decide, by decide⟩ (as := [.inl x7_35, .inl x6_22]) (rest := [.inr (some 70)]) rfl (Nat.le_of_ble_eq_true rfl) ⟨Nat.le_refl _, Nat.le_refl _⟩ (k_qI ?_)
              refine g_blk hC _ bX3_exchangeNext_108_109 (pc' := 109) (ls' := [some (.inr (some 68)), none, none, some (.inl (a2 / 5)), some (.inl (a2 - a2 / 5 * 5)), some (.inl (A 25 a1.toNatClampNeg)), some (.inl x6_22), some (.inl x7_35), some (.inl ((A_35 69 (x6_22 * 5 + (a2 / 5)).toNatClampNeg * A_35 69 (x7_35 * 5 + (a2 - a2 / 5 * 5)).toNatClampNeg) - (A_35 69 (x6_22 * 5 + (a2 - a2 / 5 * 5)).toNatClampNeg * A_35 69 (x7_35 * 5 + (a2 / 5)).toNatClampNeg)))]) (st' := [.inl (x7_35 * 5 + x6_22), .inr (some 70), .inl (x7_35 * 5 + x6_22), .inr (some 70)]) (I' := up2 I_35 68 5 ((I_35 68 5) + ((A_35 69 (x6_22 * 5 + (a2 / 5)).toNatClampNeg * A_35 69 (x7_35 * 5 + (a2 - a2 / 5 * 5)).toNatClampNeg) - (A_35 69 (x6_22 * 5 + (a2 - a2 / 5 * 5)).toNatClampNeg * A_35 69 (x7_35 * 5 + (a2 / 5)).toNatClampNeg)))) rfl rfl ?_
              obtain ⟨hi, hv⟩ := hv
              refine g_iald hC dX3_exchangeNext_109 (rfl) hi ?_
              clear hi
              refine g_blk hC _ bX3_exchangeNext_110_115 (pc' := 115) (ls' := [some (.inr (some 68)), none, none, some (.inl (a2 / 5)), some (.inl (a2 - a2 / 5 * 5)), some (.inl (A 25 a1.toNatClampNeg)), some (.inl x6_22), some (.inl x7_35), some (.inl ((A_35 69 (x6_22 * 5 + (a2 / 5)).toNatClampNeg * A_35 69 (x7_35 * 5 + (a2 - a2 / 5 * 5)).toNatClampNeg) - (A_35 69 (x6_22 * 5 + (a2 - a2 / 5 * 5)).toNatClampNeg * A_35 69 (x7_35 * 5 + (a2 / 5)).toNatClampNeg)))]) (st' := [.inl (((up2 A_35 70 (x6_22 * 5 + x7_35).toNatClampNeg ((A_35 70 (x6_22 * 5 + x7_35).toNatClampNeg) - (2 * ((A_35 69 (x6_22 * 5 + (a2 / 5)).toNatClampNeg * A_35 69 (x7_35 * 5 + (a2 - a2 / 5 * 5)).toNatClampNeg) - (A_35 69 (x6_22 * 5 + (a2 - a2 / 5 * 5)).toNatClampNeg * A_35 69 (x7_35 * 5 + (a2 / 5)).toNatClampNeg))))) 70 (x7_35 * 5 + x6_22).toNatClampNeg) + (2 * ((A_35 69 (x6_22 * 5 + (a2 / 5)).toNatClampNeg * A_35 69 (x7_35 * 5 + (a2 - a2 / 5 * 5)).toNatClampNeg) - (A_35 69 (x6_22 * 5 + (a2 - a2 / 5 * 5)).toNatClampNeg * A_35 69 (x7_35 * 5 + (a2 / 5)).toNatClampNeg)))), .inl (x7_35 * 5 + x6_22), .inr (some 70)]) (I' := up2 I_35 68 5 ((I_35 68 5) + ((A_35 69 (x6_22 * 5 + (a2 / 5)).toNatClampNeg * A_35 69 (x7_35 * 5 + (a2 - a2 / 5 * 5)).toNatClampNeg) - (A_35 69 (x6_22 * 5 + (a2 - a2 / 5 * 5)).toNatClampNeg * A_35 69 (x7_35 * 5 + (a2 / 5)).toNatClampNeg)))) rfl rfl ?_
              obtain ⟨hi, hv⟩ := hv
              refine g_iast hC dX3_exchangeNext_115 (rfl) hi ?_
              clear hi
              refine g_blk hC _ bX3_exchangeNext_116_119 (pc' := 119) (ls' := [some (.inr (some 68)), none, none, some (.inl (a2 / 5)), some (.inl (a2 - a2 / 5 * 5)), some (.inl (A 25 a1.toNatClampNeg)), some (.inl x6_22), some (.inl (x7_35 + 1)), some (.inl ((A_35 69 (x6_22 * 5 + (a2 / 5)).toNatClampNeg * A_35 69 (x7_35 * 5 + (a2 - a2 / 5 * 5)).toNatClampNeg) - (A_35 69 (x6_22 * 5 + (a2 - a2 / 5 * 5)).toNatClampNeg * A_35 69 (x7_35 * 5 + (a2 / 5)).toNatClampNeg)))]) (st' := []) (I' := up2 I_35 68 5 ((I_35 68 5) + ((A_35 69 (x6_22 * 5 + (a2 / 5)).toNatClampNeg * A_35 69 (x7_35 * 5 + (a2 - a2 / 5 * 5)).toNatClampNeg) - (A_35 69 (x6_22 * 5 + (a2 - a2 / 5 * 5)).toNatClampNeg * A_35 69 (x7_35 * 5 + (a2 / 5)).toNatClampNeg)))) rfl rfl ?_
              refine g_goto hC dX3_exchangeNext_119 (tgt := 35) (by decide) ?_
              exact g_weak (ls1 := [some (.inr (some 68)), none, none, some (.inl (a2 / 5)), some (.inl (a2 - a2 / 5 * 5)), some (.inl (A 25 a1.toNatClampNeg)), some (.inl x6_22), some (.inl (x7_35 + 1)), none]) rfl (And.intro rfl (And.intro rfl (And.intro rfl (And.intro rfl (And.intro rfl (And.intro rfl trivial)))))) (ih35 (x7_35 + 1) (up2 I_35 68 5 ((I_35 68 5) + ((A_35 69 (x6_22 * 5 + (a2 / 5)).toNatClampNeg * A_35 69 (x7_35 * 5 + (a2 - a2 / 5 * 5)).toNatClampNeg) - (A_35 69 (x6_22 * 5 + (a2 - a2 / 5 * 5)).toNatClampNeg * A_35 69 (x7_35 * 5 + (a2 / 5)).toNatClampNeg)))) (up2 (up2 A_35 70 (x6_22 * 5 + x7_35).toNatClampNeg ((A_35 70 (x6_22 * 5 + x7_35).toNatClampNeg) - (2 * ((A_35 69 (x6_22 * 5 + (a2 / 5)).toNatClampNeg * A_35 69 (x7_35 * 5 + (a2 - a2 / 5 * 5)).toNatClampNeg) - (A_35 69 (x6_22 * 5 + (a2 - a2 / 5 * 5)).toNatClampNeg * A_35 69 (x7_35 * 5 + (a2 / 5)).toNatClampNeg))))) 70 (x7_35 * 5 + x6_22).toNatClampNeg (((up2 A_35 70 (x6_22 * 5 + x7_35).toNatClampNeg ((A_35 70 (x6_22 * 5 + x7_35).toNatClampNeg) - (2 * ((A_35 69 (x6_22 * 5 + (a2 / 5)).toNatClampNeg * A_35 69 (x7_35 * 5 + (a2 - a2 / 5 * 5)).toNatClampNeg) - (A_35 69 (x6_22 * 5 + (a2 - a2 / 5 * 5)).toNatClampNeg * A_35 69 (x7_35 * 5 + (a2 / 5)).toNatClampNeg))))) 70 (x7_35 * 5 + x6_22).toNatClampNeg) + (2 * ((A_35 69 (x6_22 * 5 + (a2 / 5)).toNatClampNeg * A_35 69 (x7_35 * 5 + (a2 - a2 / 5 * 5)).toNatClampNeg) - (A_35 69 (x6_22 * 5 + (a2 - a2 / 5 * 5)).toNatClampNeg * A_35 69 (x7_35 * 5 + (a2 / 5)).toNatClampNeg))))) hv.1 (Nat.lt_of_lt_of_le hv.2 (Nat.le_of_lt_succ hn35)))
        exact g_weak (ls1 := [some (.inr (some 68)), none, none, some (.inl (a2 / 5)), some (.inl (a2 - a2 / 5 * 5)), some (.inl (A 25 a1.toNatClampNeg)), some (.inl x6_22), some (.inl (x6_22 + 1)), none]) rfl (And.intro rfl (And.intro rfl (And.intro rfl (And.intro rfl (And.intro rfl (And.intro rfl trivial)))))) (L35 _ (x6_22 + 1) I_22 A_22 hi35 (Nat.lt_succ_self _))
  exact g_weak (ls1 := [some (.inr (some 68)), none, none, some (.inl (a2 / 5)), some (.inl (a2 - a2 / 5 * 5)), some (.inl (A 25 a1.toNatClampNeg)), some (.inl 0), none, none]) rfl (And.intro rfl (And.intro rfl (And.intro rfl (And.intro rfl (And.intro rfl trivial))))) (L22 _ 0 I A hi22 (Nat.lt_succ_self _))
