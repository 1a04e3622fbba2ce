/-! Kept -/
def notA (A : HI) (x l q : Int32) : HI := if zP x = 0 then A else up2 (up2 A 27 x.toNatClampNeg l) 28 x.toNatClampNeg q
def mvI (kl ks : Nat → Int32) (u v : Int32) : Int32 := if zPP u v = 0 then 0 else if kl u.toNatClampNeg = -1 then 0 else if kl u.toNatClampNeg = kl v.toNatClampNeg ∧ ks v.toNatClampNeg < ks u.toNatClampNeg then 1 else 0
theorem bX4_hold_0_5 : okB cX4_hold RX4 0 [(5, 0, 0, 0, 0), (0, 0, 0, 0, 1), (25, 18, 4, 2, 0)] := And.intro ⟨_, dX4_hold_0, rfl⟩ (And.intro ⟨_, dX4_hold_1, by decide⟩ (And.intro ⟨dX4_hold_2, fl_X4_18, rfl, rfl⟩ trivial))
set_option maxHeartbeats 4000000 in
set_option maxRecDepth 100000 in
theorem k_X4_hold (l : Launch) (D : va_G) (ads : AD) (I A : HI) (po : Option AV → HI → HI → Prop)
    (hv : po none (up2 I 26 2 1) A) : Ct l yX4_hold cX4_hold 1 none 0 0 D ads shp [.inr (some 26)] I A po := by
  refine Ct_of (by decide) (Nat.le_of_ble_eq_true rfl) ?_
  intro p e s m args below meth c hC hr
  replace hC : CX p s m args meth c cX4_hold 1 RX4 (AdS ads s.heap.size) := hC
  show Gm p l e s m args below meth c D ads 0 0 1 po I A 0 [some (.inr (some 26))] []
  refine g_blk hC _ bX4_hold_0_5 (pc' := 5) (ls' := [some (.inr (some 26))]) (st' := []) (I' := up2 I 26 2 1) rfl rfl ?_
  exact g_retv hC hr dX4_hold_5 hv
set_option maxHeartbeats 4000000 in
set_option maxRecDepth 100000 in
theorem c_X4_hold (l : Launch) (D : va_G) (ads : AD) (I A : HI) : Ct l yX4_hold cX4_hold 1 none 0 0 D ads shp [.inr (some 26)] I A (qN (up2 I 26 2 1) A) := by
  sorry
theorem bX4_empty_0_5 : okB cX4_empty RX4 0 [(5, 0, 0, 0, 0), (23, 9, 4, 0, 0), (0, 0, 0, 0, (-1))] := And.intro ⟨_, dX4_empty_0, rfl⟩ (And.intro ⟨dX4_empty_1, fl_X4_9⟩ (And.intro ⟨_, dX4_empty_4, by decide⟩ trivial))
theorem bX4_empty_8_13 : okB cX4_empty RX4 8 [(5, 0, 0, 0, 0), (0, 0, 0, 0, 0), (25, 18, 4, 2, 0)] := And.intro ⟨_, dX4_empty_8, rfl⟩ (And.intro ⟨_, dX4_empty_9, by decide⟩ (And.intro ⟨dX4_empty_10, fl_X4_18, rfl, rfl⟩ trivial))
set_option maxHeartbeats 4000000 in
set_option maxRecDepth 100000 in
theorem k_X4_empty (l : Launch) (D : va_G) (ads : AD) (I A : HI) (po : Option AV → HI → HI → Prop)
    (hv : po none (up2 I 26 2 0) (filA A 27 10 ((-1)))) : Ct l yX4_empty cX4_empty 1 none 1 23 D ads shp [.inr (some 26)] I A po := by
  refine Ct_of (by decide) (Nat.le_of_ble_eq_true rfl) ?_
  intro p e s m args below meth c hC hr
  replace hC : CX p s m args meth c cX4_empty 1 RX4 (AdS ads s.heap.size) := hC
  show Gm p l e s m args below meth c D ads 1 23 1 po I A 0 [some (.inr (some 26))] []
  refine g_blk hC _ bX4_empty_0_5 (pc' := 5) (ls' := [some (.inr (some 26))]) (st' := [.inl ((-1)), .inr (some 27)]) (I' := I) rfl rfl ?_
  refine g_callS hC (c_J7_fill_53178 l D ads I A 27 ((-1)) 10 (rfl) (by decide)) dX4_empty_5 nm_J7_fill_53178 wl_X4_22 wt_J7_fill_53178 wn_J7 wc_J7_fill_53178 ⟨by decide, by decide⟩ (as := [.inr (some 27), .inl ((-1))]) (rest := []) rfl (Nat.le_of_ble_eq_true rfl) ⟨Nat.le_refl _, Nat.le_refl _⟩ (k_qN ?_)
  refine g_blk hC _ bX4_empty_8_13 (pc' := 13) (ls' := [some (.inr (some 26))]) (st' := []) (I' := up2 I 26 2 0) rfl rfl ?_
  exact g_retv hC hr dX4_empty_13 hv
set_option maxHeartbeats 4000000 in
set_option maxRecDepth 100000 in
theorem c_X4_empty (l : Launch) (D : va_G) (ads : AD) (I A : HI) : Ct l yX4_empty cX4_empty 1 none 1 23 D ads shp [.inr (some 26)] I A (qN (up2 I 26 2 0) (filA A 27 10 (-1))) := by
  sorry
theorem bX4_note_0_1 : okB cX4_note RX4 0 [(3, 1, 0, 0, 0)] := And.intro ⟨_, dX4_note_0, rfl⟩ trivial
theorem bX4_note_7_13 : okB cX4_note RX4 7 [(5, 0, 0, 0, 0), (23, 9, 4, 0, 0), (3, 1, 0, 0, 0), (3, 2, 0, 0, 0)] := And.intro ⟨_, dX4_note_7, rfl⟩ (And.intro ⟨dX4_note_8, fl_X4_9⟩ (And.intro ⟨_, dX4_note_11, rfl⟩ (And.intro ⟨_, dX4_note_12, rfl⟩ trivial)))
theorem bX4_note_14_20 : okB cX4_note RX4 14 [(5, 0, 0, 0, 0), (23, 15, 4, 1, 0), (3, 1, 0, 0, 0), (3, 3, 0, 0, 0)] := And.intro ⟨_, dX4_note_14, rfl⟩ (And.intro ⟨dX4_note_15, fl_X4_15⟩ (And.intro ⟨_, dX4_note_18, rfl⟩ (And.intro ⟨_, dX4_note_19, rfl⟩ trivial)))
set_option maxHeartbeats 4000000 in
set_option maxRecDepth 100000 in
theorem k_X4_note (l : Launch) (D : va_G) (ads : AD) (I A : HI) (a1 : Int32) (a2 : Int32) (a3 : Int32) (po : Option AV → HI → HI → Prop)
    (hv : (((zP a1) = 0 → po none I A) ∧ (¬ (zP a1) = 0 → (vp_in a1 10 ∧ (vp_in a1 10 ∧ po none I (up2 (up2 A 27 a1.toNatClampNeg a2) 28 a1.toNatClampNeg a3)))))) : Ct l yX4_note cX4_note 4 none 1 20 D ads shp [.inr (some 26), .inl a1, .inl a2, .inl a3] I A po := by
  refine Ct_of (by decide) (Nat.le_of_ble_eq_true rfl) ?_
  intro p e s m args below meth c hC hr
  replace hC : CX p s m args meth c cX4_note 4 RX4 (AdS ads s.heap.size) := hC
  show Gm p l e s m args below meth c D ads 1 20 4 po I A 0 [some (.inr (some 26)), some (.inl a1), some (.inl a2), some (.inl a3)] []
  refine g_blk hC _ bX4_note_0_1 (pc' := 1) (ls' := [some (.inr (some 26)), some (.inl a1), some (.inl a2), some (.inl a3)]) (st' := [.inl a1]) (I' := I) rfl rfl ?_
  refine g_callN (host := RX8) hC (c_X8_isPlace l D ads I A a1) dX4_note_1 nm_X8_isPlace (List.mem_of_getElem? (i := 7) rfl) wt_X8_isPlace wn_X8 wc_X8_isPlace ⟨by decide, by decide⟩ (as := [.inl a1]) (rest := []) rfl (Nat.le_of_ble_eq_true rfl) ⟨Nat.le_refl _, Nat.le_refl _⟩ (k_qI ?_)
  obtain ⟨hv1, hv2⟩ := hv
  refine g_ifeq hC dX4_note_4 (tgt := 21) (by decide) (fun hc => ?_) (fun hc => ?_)
  · have hv := hv1 hc
    clear hv1 hv2 hc
    exact g_retv hC hr dX4_note_21 hv
  · have hv := hv2 hc
    clear hv1 hv2 hc
    refine g_blk hC _ bX4_note_7_13 (pc' := 13) (ls' := [some (.inr (some 26)), some (.inl a1), some (.inl a2), some (.inl a3)]) (st' := [.inl a2, .inl a1, .inr (some 27)]) (I' := I) rfl rfl ?_
    obtain ⟨hi, hv⟩ := hv
    refine g_iast hC dX4_note_13 (rfl) hi ?_
    clear hi
    refine g_blk hC _ bX4_note_14_20 (pc' := 20) (ls' := [some (.inr (some 26)), some (.inl a1), some (.inl a2), some (.inl a3)]) (st' := [.inl a3, .inl a1, .inr (some 28)]) (I' := I) rfl rfl ?_
    obtain ⟨hi, hv⟩ := hv
    refine g_iast hC dX4_note_20 (rfl) hi ?_
    clear hi
    exact g_retv hC hr dX4_note_21 hv
set_option maxHeartbeats 4000000 in
set_option maxRecDepth 100000 in
theorem c_X4_note (l : Launch) (D : va_G) (ads : AD) (I A : HI) (a1 : Int32) (a2 : Int32) (a3 : Int32) : Ct l yX4_note cX4_note 4 none 1 20 D ads shp [.inr (some 26), .inl a1, .inl a2, .inl a3] I A (qN I (notA A a1 a2 a3)) := by
  sorry
theorem bX4_moves_0_2 : okB cX4_moves RX4 0 [(3, 1, 0, 0, 0), (3, 2, 0, 0, 0)] := And.intro ⟨_, dX4_moves_0, rfl⟩ (And.intro ⟨_, dX4_moves_1, rfl⟩ trivial)
theorem bX4_moves_18_19 : okB cX4_moves RX4 18 [(0, 0, 0, 0, 0)] := And.intro ⟨_, dX4_moves_18, by decide⟩ trivial
theorem bX4_moves_8_13 : okB cX4_moves RX4 8 [(5, 0, 0, 0, 0), (23, 9, 4, 0, 0), (3, 1, 0, 0, 0)] := And.intro ⟨_, dX4_moves_8, rfl⟩ (And.intro ⟨dX4_moves_9, fl_X4_9⟩ (And.intro ⟨_, dX4_moves_12, rfl⟩ trivial))
theorem bX4_moves_14_15 : okB cX4_moves RX4 14 [(0, 0, 0, 0, (-1))] := And.intro ⟨_, dX4_moves_14, by decide⟩ trivial
theorem bX4_moves_20_25 : okB cX4_moves RX4 20 [(5, 0, 0, 0, 0), (23, 9, 4, 0, 0), (3, 1, 0, 0, 0)] := And.intro ⟨_, dX4_moves_20, rfl⟩ (And.intro ⟨dX4_moves_21, fl_X4_9⟩ (And.intro ⟨_, dX4_moves_24, rfl⟩ trivial))
theorem bX4_moves_26_31 : okB cX4_moves RX4 26 [(5, 0, 0, 0, 0), (23, 9, 4, 0, 0), (3, 2, 0, 0, 0)] := And.intro ⟨_, dX4_moves_26, rfl⟩ (And.intro ⟨dX4_moves_27, fl_X4_9⟩ (And.intro ⟨_, dX4_moves_30, rfl⟩ trivial))
theorem bX4_moves_54_55 : okB cX4_moves RX4 54 [(0, 0, 0, 0, 0)] := And.intro ⟨_, dX4_moves_54, by decide⟩ trivial
theorem bX4_moves_35_40 : okB cX4_moves RX4 35 [(5, 0, 0, 0, 0), (23, 15, 4, 1, 0), (3, 1, 0, 0, 0)] := And.intro ⟨_, dX4_moves_35, rfl⟩ (And.intro ⟨dX4_moves_36, fl_X4_15⟩ (And.intro ⟨_, dX4_moves_39, rfl⟩ trivial))
theorem bX4_moves_41_46 : okB cX4_moves RX4 41 [(5, 0, 0, 0, 0), (23, 15, 4, 1, 0), (3, 2, 0, 0, 0)] := And.intro ⟨_, dX4_moves_41, rfl⟩ (And.intro ⟨dX4_moves_42, fl_X4_15⟩ (And.intro ⟨_, dX4_moves_45, rfl⟩ trivial))
theorem bX4_moves_50_51 : okB cX4_moves RX4 50 [(0, 0, 0, 0, 1)] := And.intro ⟨_, dX4_moves_50, by decide⟩ trivial
set_option maxHeartbeats 4000000 in
set_option maxRecDepth 100000 in
theorem k_X4_moves (l : Launch) (D : va_G) (ads : AD) (I A : HI) (a1 : Int32) (a2 : Int32) (po : Option AV → HI → HI → Prop)
    (hv : (((zPP a1 a2) = 0 → po (some (.inl 0)) I A) ∧ (¬ (zPP a1 a2) = 0 → (vp_in a1 10 ∧ ((¬ (A 27 a1.toNatClampNeg) = ((-1)) → (vp_in a1 10 ∧ (vp_in a2 10 ∧ ((¬ (A 27 a1.toNatClampNeg) = (A 27 a2.toNatClampNeg) → po (some (.inl 0)) I A) ∧ ((A 27 a1.toNatClampNeg) = (A 27 a2.toNatClampNeg) → (vp_in a1 10 ∧ (vp_in a2 10 ∧ (((A 28 a1.toNatClampNeg) ≤ (A 28 a2.toNatClampNeg) → po (some (.inl 0)) I A) ∧ (¬ (A 28 a1.toNatClampNeg) ≤ (A 28 a2.toNatClampNeg) → po (some (.inl 1)) I A))))))))) ∧ ((A 27 a1.toNatClampNeg) = ((-1)) → po (some (.inl 0)) I A)))))) : Ct l yX4_moves cX4_moves 3 (some .int) 1 21 D ads shp [.inr (some 26), .inl a1, .inl a2] I A po := by
  refine Ct_of (by decide) (Nat.le_of_ble_eq_true rfl) ?_
  intro p e s m args below meth c hC hr
  replace hC : CX p s m args meth c cX4_moves 3 RX4 (AdS ads s.heap.size) := hC
  show Gm p l e s m args below meth c D ads 1 21 3 po I A 0 [some (.inr (some 26)), some (.inl a1), some (.inl a2)] []
  refine g_blk hC _ bX4_moves_0_2 (pc' := 2) (ls' := [some (.inr (some 26)), some (.inl a1), some (.inl a2)]) (st' := [.inl a2, .inl a1]) (I' := I) rfl rfl ?_
  refine g_callN (host := RX8) hC (c_X8_arePlaces l D ads I A a1 a2) dX4_moves_2 nm_X8_arePlaces (List.mem_of_getElem? (i := 5) rfl) wt_X8_arePlaces wn_X8 wc_X8_arePlaces ⟨by decide, by decide⟩ (as := [.inl a1, .inl a2]) (rest := []) rfl (Nat.le_of_ble_eq_true rfl) ⟨Nat.le_refl _, Nat.le_refl _⟩ (k_qI ?_)
  obtain ⟨hv1, hv2⟩ := hv
  refine g_ifeq hC dX4_moves_5 (tgt := 18) (by decide) (fun hc => ?_) (fun hc => ?_)
  · have hv := hv1 hc
    clear hv1 hv2 hc
    refine g_blk hC _ bX4_moves_18_19 (pc' := 19) (ls' := [some (.inr (some 26)), some (.inl a1), some (.inl a2)]) (st' := [.inl 0]) (I' := I) rfl rfl ?_
    exact g_reti hC hr rfl dX4_moves_19 hv
  · have hv := hv2 hc
    clear hv1 hv2 hc
    refine g_blk hC _ bX4_moves_8_13 (pc' := 13) (ls' := [some (.inr (some 26)), some (.inl a1), some (.inl a2)]) (st' := [.inl a1, .inr (some 27)]) (I' := I) rfl rfl ?_
    obtain ⟨hi, hv⟩ := hv
    refine g_iald hC dX4_moves_13 (rfl) hi ?_
    clear hi
    refine g_blk hC _ bX4_moves_14_15 (pc' := 15) (ls' := [some (.inr (some 26)), some (.inl a1), some (.inl a2)]) (st' := [.inl ((-1)), .inl (A 27 a1.toNatClampNeg)]) (I' := I) rfl rfl ?_
    obtain ⟨hv1, hv2⟩ := hv
    refine g_cne hC dX4_moves_15 (tgt := 20) (by decide) (fun hc => ?_) (fun hc => ?_)
    · have hv := hv1 hc
      clear hv1 hv2 hc
      refine g_blk hC _ bX4_moves_20_25 (pc' := 25) (ls' := [some (.inr (some 26)), some (.inl a1), some (.inl a2)]) (st' := [.inl a1, .inr (some 27)]) (I' := I) rfl rfl ?_
      obtain ⟨hi, hv⟩ := hv
      refine g_iald hC dX4_moves_25 (rfl) hi ?_
      clear hi
      refine g_blk hC _ bX4_moves_26_31 (pc' := 31) (ls' := [some (.inr (some 26)), some (.inl a1), some (.inl a2)]) (st' := [.inl a2, .inr (some 27), .inl (A 27 a1.toNatClampNeg)]) (I' := I) rfl rfl ?_
      obtain ⟨hi, hv⟩ := hv
      refine g_iald hC dX4_moves_31 (rfl) hi ?_
      clear hi
      obtain ⟨hv1, hv2⟩ := hv
      refine g_cne hC dX4_moves_32 (tgt := 54) (by decide) (fun hc => ?_) (fun hc => ?_)
      · have hv := hv1 hc
        clear hv1 hv2 hc
        refine g_blk hC _ bX4_moves_54_55 (pc' := 55) (ls' := [some (.inr (some 26)), some (.inl a1), some (.inl a2)]) (st' := [.inl 0]) (I' := I) rfl rfl ?_
        exact g_reti hC hr rfl dX4_moves_55 hv
      · have hv := hv2 hc
        clear hv1 hv2 hc
        refine g_blk hC _ bX4_moves_35_40 (pc' := 40) (ls' := [some (.inr (some 26)), some (.inl a1), some (.inl a2)]) (st' := [.inl a1, .inr (some 28)]) (I' := I) rfl rfl ?_
        obtain ⟨hi, hv⟩ := hv
        refine g_iald hC dX4_moves_40 (rfl) hi ?_
        clear hi
        refine g_blk hC _ bX4_moves_41_46 (pc' := 46) (ls' := [some (.inr (some 26)), some (.inl a1), some (.inl a2)]) (st' := [.inl a2, .inr (some 28), .inl (A 28 a1.toNatClampNeg)]) (I' := I) rfl rfl ?_
        obtain ⟨hi, hv⟩ := hv
        refine g_iald hC dX4_moves_46 (rfl) hi ?_
        clear hi
        obtain ⟨hv1, hv2⟩ := hv
        refine g_cle hC dX4_moves_47 (tgt := 54) (by decide) (fun hc => ?_) (fun hc => ?_)
        · have hv := hv1 hc
          clear hv1 hv2 hc
          refine g_blk hC _ bX4_moves_54_55 (pc' := 55) (ls' := [some (.inr (some 26)), some (.inl a1), some (.inl a2)]) (st' := [.inl 0]) (I' := I) rfl rfl ?_
          exact g_reti hC hr rfl dX4_moves_55 hv
        · have hv := hv2 hc
          clear hv1 hv2 hc
          refine g_blk hC _ bX4_moves_50_51 (pc' := 51) (ls' := [some (.inr (some 26)), some (.inl a1), some (.inl a2)]) (st' := [.inl 1]) (I' := I) rfl rfl ?_
          refine g_goto hC dX4_moves_51 (tgt := 55) (by decide) ?_
          exact g_reti hC hr rfl dX4_moves_55 hv
    · have hv := hv2 hc
      clear hv1 hv2 hc
      refine g_blk hC _ bX4_moves_18_19 (pc' := 19) (ls' := [some (.inr (some 26)), some (.inl a1), some (.inl a2)]) (st' := [.inl 0]) (I' := I) rfl rfl ?_
      exact g_reti hC hr rfl dX4_moves_19 hv
set_option maxHeartbeats 4000000 in
set_option maxRecDepth 100000 in
theorem c_X4_moves (l : Launch) (D : va_G) (ads : AD) (I A : HI) (a1 : Int32) (a2 : Int32) : Ct l yX4_moves cX4_moves 3 (some .int) 1 21 D ads shp [.inr (some 26), .inl a1, .inl a2] I A (qI (mvI (A 27) (A 28) a1 a2) I A) := by
  sorry
theorem bX4_holds_0_4 : okB cX4_holds RX4 0 [(5, 0, 0, 0, 0), (23, 18, 4, 2, 0)] := And.intro ⟨_, dX4_holds_0, rfl⟩ (And.intro ⟨dX4_holds_1, fl_X4_18⟩ trivial)
set_option maxHeartbeats 4000000 in
set_option maxRecDepth 100000 in
theorem k_X4_holds (l : Launch) (D : va_G) (ads : AD) (I A : HI) (po : Option AV → HI → HI → Prop)
    (hv : (((I 26 2) = 0 ∨ (I 26 2) = 1) ∧ po (some (.inl (I 26 2))) I A)) : Ct l yX4_holds cX4_holds 1 (some .boolean) 0 0 D ads shp [.inr (some 26)] I A po := by
  refine Ct_of (by decide) (Nat.le_of_ble_eq_true rfl) ?_
  intro p e s m args below meth c hC hr
  replace hC : CX p s m args meth c cX4_holds 1 RX4 (AdS ads s.heap.size) := hC
  show Gm p l e s m args below meth c D ads 0 0 1 po I A 0 [some (.inr (some 26))] []
  refine g_blk hC _ bX4_holds_0_4 (pc' := 4) (ls' := [some (.inr (some 26))]) (st' := [.inl (I 26 2)]) (I' := I) rfl rfl ?_
  exact g_reti hC hr (nar_z hv.1).1 dX4_holds_4 hv.2
set_option maxHeartbeats 4000000 in
set_option maxRecDepth 100000 in
theorem c_X4_holds (l : Launch) (D : va_G) (ads : AD) (I A : HI) : Ct l yX4_holds cX4_holds 1 (some .boolean) 0 0 D ads shp [.inr (some 26)] I A (qI (I 26 2) I A) := by
  sorry
