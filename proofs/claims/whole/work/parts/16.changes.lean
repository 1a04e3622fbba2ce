/-! Changes: orders of n things -/
def chN (n : Nat) : Nat := [1, 1, 2, 6, 24, 120].getD n 0
def chT (n : Nat) : Nat := [0, 1, 4, 18, 96, 600].getD n 0
theorem ex_sh {j : Nat} (h : j < 6) : shp[73 + 4 * j]? = some (.inl (chN j)) := by
  match j, h with
  | 0, _ => rfl
  | 1, _ => rfl
  | 2, _ => rfl
  | 3, _ => rfl
  | 4, _ => rfl
  | 5, _ => rfl
theorem bX0_number_0_4 : okB cX0_number RX0 0 [(5, 0, 0, 0, 0), (23, 15, 0, 1, 0)] := And.intro ⟨_, dX0_number_0, rfl⟩ (And.intro ⟨dX0_number_1, fl_X0_15⟩ trivial)
set_option maxHeartbeats 4000000 in
set_option maxRecDepth 100000 in
theorem k_X0_number_0 (l : Launch) (D : va_G) (ads : AD) (I A : HI) (po : Option AV → HI → HI → Prop)
    (hv : po (some (.inl (I 71 1))) I A) : Ct l yX0_number cX0_number 1 (some .int) 0 0 D ads shp [.inr (some 71)] I A po := by
  refine Ct_of (by decide) (Nat.le_of_ble_eq_true rfl) ?_
  intro p e s m args below meth c hC hr
  replace hC : CX p s m args meth c cX0_number 1 RX0 (AdS ads s.heap.size) := hC
  show Gm p l e s m args below meth c D ads 0 0 1 po I A 0 [some (.inr (some 71))] []
  refine g_blk hC _ bX0_number_0_4 (pc' := 4) (ls' := [some (.inr (some 71))]) (st' := [.inl (I 71 1)]) (I' := I) rfl rfl ?_
  exact g_reti hC hr rfl dX0_number_4 hv
set_option maxHeartbeats 4000000 in
set_option maxRecDepth 100000 in
theorem k_X0_number_1 (l : Launch) (D : va_G) (ads : AD) (I A : HI) (po : Option AV → HI → HI → Prop)
    (hv : po (some (.inl (I 75 1))) I A) : Ct l yX0_number cX0_number 1 (some .int) 0 0 D ads shp [.inr (some 75)] I A po := by
  refine Ct_of (by decide) (Nat.le_of_ble_eq_true rfl) ?_
  intro p e s m args below meth c hC hr
  replace hC : CX p s m args meth c cX0_number 1 RX0 (AdS ads s.heap.size) := hC
  show Gm p l e s m args below meth c D ads 0 0 1 po I A 0 [some (.inr (some 75))] []
  refine g_blk hC _ bX0_number_0_4 (pc' := 4) (ls' := [some (.inr (some 75))]) (st' := [.inl (I 75 1)]) (I' := I) rfl rfl ?_
  exact g_reti hC hr rfl dX0_number_4 hv
set_option maxHeartbeats 4000000 in
set_option maxRecDepth 100000 in
theorem k_X0_number_2 (l : Launch) (D : va_G) (ads : AD) (I A : HI) (po : Option AV → HI → HI → Prop)
    (hv : po (some (.inl (I 79 1))) I A) : Ct l yX0_number cX0_number 1 (some .int) 0 0 D ads shp [.inr (some 79)] I A po := by
  refine Ct_of (by decide) (Nat.le_of_ble_eq_true rfl) ?_
  intro p e s m args below meth c hC hr
  replace hC : CX p s m args meth c cX0_number 1 RX0 (AdS ads s.heap.size) := hC
  show Gm p l e s m args below meth c D ads 0 0 1 po I A 0 [some (.inr (some 79))] []
  refine g_blk hC _ bX0_number_0_4 (pc' := 4) (ls' := [some (.inr (some 79))]) (st' := [.inl (I 79 1)]) (I' := I) rfl rfl ?_
  exact g_reti hC hr rfl dX0_number_4 hv
set_option maxHeartbeats 4000000 in
set_option maxRecDepth 100000 in
theorem k_X0_number_3 (l : Launch) (D : va_G) (ads : AD) (I A : HI) (po : Option AV → HI → HI → Prop)
    (hv : po (some (.inl (I 83 1))) I A) : Ct l yX0_number cX0_number 1 (some .int) 0 0 D ads shp [.inr (some 83)] I A po := by
  refine Ct_of (by decide) (Nat.le_of_ble_eq_true rfl) ?_
  intro p e s m args below meth c hC hr
  replace hC : CX p s m args meth c cX0_number 1 RX0 (AdS ads s.heap.size) := hC
  show Gm p l e s m args below meth c D ads 0 0 1 po I A 0 [some (.inr (some 83))] []
  refine g_blk hC _ bX0_number_0_4 (pc' := 4) (ls' := [some (.inr (some 83))]) (st' := [.inl (I 83 1)]) (I' := I) rfl rfl ?_
  exact g_reti hC hr rfl dX0_number_4 hv
set_option maxHeartbeats 4000000 in
set_option maxRecDepth 100000 in
theorem k_X0_number_4 (l : Launch) (D : va_G) (ads : AD) (I A : HI) (po : Option AV → HI → HI → Prop)
    (hv : po (some (.inl (I 87 1))) I A) : Ct l yX0_number cX0_number 1 (some .int) 0 0 D ads shp [.inr (some 87)] I A po := by
  refine Ct_of (by decide) (Nat.le_of_ble_eq_true rfl) ?_
  intro p e s m args below meth c hC hr
  replace hC : CX p s m args meth c cX0_number 1 RX0 (AdS ads s.heap.size) := hC
  show Gm p l e s m args below meth c D ads 0 0 1 po I A 0 [some (.inr (some 87))] []
  refine g_blk hC _ bX0_number_0_4 (pc' := 4) (ls' := [some (.inr (some 87))]) (st' := [.inl (I 87 1)]) (I' := I) rfl rfl ?_
  exact g_reti hC hr rfl dX0_number_4 hv
set_option maxHeartbeats 4000000 in
set_option maxRecDepth 100000 in
theorem k_X0_number_5 (l : Launch) (D : va_G) (ads : AD) (I A : HI) (po : Option AV → HI → HI → Prop)
    (hv : po (some (.inl (I 91 1))) I A) : Ct l yX0_number cX0_number 1 (some .int) 0 0 D ads shp [.inr (some 91)] I A po := by
  refine Ct_of (by decide) (Nat.le_of_ble_eq_true rfl) ?_
  intro p e s m args below meth c hC hr
  replace hC : CX p s m args meth c cX0_number 1 RX0 (AdS ads s.heap.size) := hC
  show Gm p l e s m args below meth c D ads 0 0 1 po I A 0 [some (.inr (some 91))] []
  refine g_blk hC _ bX0_number_0_4 (pc' := 4) (ls' := [some (.inr (some 91))]) (st' := [.inl (I 91 1)]) (I' := I) rfl rfl ?_
  exact g_reti hC hr rfl dX0_number_4 hv
set_option maxHeartbeats 4000000 in
set_option maxRecDepth 100000 in
theorem c_X0_number (l : Launch) (D : va_G) (ads : AD) (I A : HI) (n : Nat) (hn : n < 6) : Ct l yX0_number cX0_number 1 (some .int) 0 0 D ads shp [.inr (some (71 + 4 * n))] I A (qI (I (71 + 4 * n) 1) I A) := by
  sorry
theorem bX0_thingAt_0_12 : okB cX0_thingAt RX0 0 [(5, 0, 0, 0, 0), (23, 18, 0, 2, 0), (3, 1, 0, 0, 0), (5, 0, 0, 0, 0), (23, 9, 0, 0, 0), (14, 0, 0, 0, 0), (3, 2, 0, 0, 0), (12, 0, 0, 0, 0)] := And.intro ⟨_, dX0_thingAt_0, rfl⟩ (And.intro ⟨dX0_thingAt_1, fl_X0_18⟩ (And.intro ⟨_, dX0_thingAt_4, rfl⟩ (And.intro ⟨_, dX0_thingAt_5, rfl⟩ (And.intro ⟨dX0_thingAt_6, fl_X0_9⟩ (And.intro dX0_thingAt_9 (And.intro ⟨_, dX0_thingAt_10, rfl⟩ (And.intro dX0_thingAt_11 trivial)))))))
set_option maxHeartbeats 4000000 in
set_option maxRecDepth 100000 in
theorem k_X0_thingAt_0 (l : Launch) (D : va_G) (ads : AD) (I A : HI) (a1 : Int32) (a2 : Int32) (po : Option AV → HI → HI → Prop)
    (hv : (vp_in ((a1 * (I 71 0)) + a2) 0 ∧ po (some (.inl (A 72 ((a1 * (I 71 0)) + a2).toNatClampNeg))) I A)) : Ct l yX0_thingAt cX0_thingAt 3 (some .int) 0 0 D ads shp [.inr (some 71), .inl a1, .inl a2] I A po := by
  refine Ct_of (by decide) (Nat.le_of_ble_eq_true rfl) ?_
  intro p e s m args below meth c hC hr
  replace hC : CX p s m args meth c cX0_thingAt 3 RX0 (AdS ads s.heap.size) := hC
  show Gm p l e s m args below meth c D ads 0 0 3 po I A 0 [some (.inr (some 71)), some (.inl a1), some (.inl a2)] []
  refine g_blk hC _ bX0_thingAt_0_12 (pc' := 12) (ls' := [some (.inr (some 71)), some (.inl a1), some (.inl a2)]) (st' := [.inl ((a1 * (I 71 0)) + a2), .inr (some 72)]) (I' := I) rfl rfl ?_
  obtain ⟨hi, hv⟩ := hv
  refine g_iald hC dX0_thingAt_12 (rfl) hi ?_
  clear hi
  exact g_reti hC hr rfl dX0_thingAt_13 hv
set_option maxHeartbeats 4000000 in
set_option maxRecDepth 100000 in
theorem k_X0_thingAt_1 (l : Launch) (D : va_G) (ads : AD) (I A : HI) (a1 : Int32) (a2 : Int32) (po : Option AV → HI → HI → Prop)
    (hv : (vp_in ((a1 * (I 75 0)) + a2) 1 ∧ po (some (.inl (A 76 ((a1 * (I 75 0)) + a2).toNatClampNeg))) I A)) : Ct l yX0_thingAt cX0_thingAt 3 (some .int) 0 0 D ads shp [.inr (some 75), .inl a1, .inl a2] I A po := by
  refine Ct_of (by decide) (Nat.le_of_ble_eq_true rfl) ?_
  intro p e s m args below meth c hC hr
  replace hC : CX p s m args meth c cX0_thingAt 3 RX0 (AdS ads s.heap.size) := hC
  show Gm p l e s m args below meth c D ads 0 0 3 po I A 0 [some (.inr (some 75)), some (.inl a1), some (.inl a2)] []
  refine g_blk hC _ bX0_thingAt_0_12 (pc' := 12) (ls' := [some (.inr (some 75)), some (.inl a1), some (.inl a2)]) (st' := [.inl ((a1 * (I 75 0)) + a2), .inr (some 76)]) (I' := I) rfl rfl ?_
  obtain ⟨hi, hv⟩ := hv
  refine g_iald hC dX0_thingAt_12 (rfl) hi ?_
  clear hi
  exact g_reti hC hr rfl dX0_thingAt_13 hv
set_option maxHeartbeats 4000000 in
set_option maxRecDepth 100000 in
theorem k_X0_thingAt_2 (l : Launch) (D : va_G) (ads : AD) (I A : HI) (a1 : Int32) (a2 : Int32) (po : Option AV → HI → HI → Prop)
    (hv : (vp_in ((a1 * (I 79 0)) + a2) 4 ∧ po (some (.inl (A 80 ((a1 * (I 79 0)) + a2).toNatClampNeg))) I A)) : Ct l yX0_thingAt cX0_thingAt 3 (some .int) 0 0 D ads shp [.inr (some 79), .inl a1, .inl a2] I A po := by
  refine Ct_of (by decide) (Nat.le_of_ble_eq_true rfl) ?_
  intro p e s m args below meth c hC hr
  replace hC : CX p s m args meth c cX0_thingAt 3 RX0 (AdS ads s.heap.size) := hC
  show Gm p l e s m args below meth c D ads 0 0 3 po I A 0 [some (.inr (some 79)), some (.inl a1), some (.inl a2)] []
  refine g_blk hC _ bX0_thingAt_0_12 (pc' := 12) (ls' := [some (.inr (some 79)), some (.inl a1), some (.inl a2)]) (st' := [.inl ((a1 * (I 79 0)) + a2), .inr (some 80)]) (I' := I) rfl rfl ?_
  obtain ⟨hi, hv⟩ := hv
  refine g_iald hC dX0_thingAt_12 (rfl) hi ?_
  clear hi
  exact g_reti hC hr rfl dX0_thingAt_13 hv
set_option maxHeartbeats 4000000 in
set_option maxRecDepth 100000 in
theorem k_X0_thingAt_3 (l : Launch) (D : va_G) (ads : AD) (I A : HI) (a1 : Int32) (a2 : Int32) (po : Option AV → HI → HI → Prop)
    (hv : (vp_in ((a1 * (I 83 0)) + a2) 18 ∧ po (some (.inl (A 84 ((a1 * (I 83 0)) + a2).toNatClampNeg))) I A)) : Ct l yX0_thingAt cX0_thingAt 3 (some .int) 0 0 D ads shp [.inr (some 83), .inl a1, .inl a2] I A po := by
  refine Ct_of (by decide) (Nat.le_of_ble_eq_true rfl) ?_
  intro p e s m args below meth c hC hr
  replace hC : CX p s m args meth c cX0_thingAt 3 RX0 (AdS ads s.heap.size) := hC
  show Gm p l e s m args below meth c D ads 0 0 3 po I A 0 [some (.inr (some 83)), some (.inl a1), some (.inl a2)] []
  refine g_blk hC _ bX0_thingAt_0_12 (pc' := 12) (ls' := [some (.inr (some 83)), some (.inl a1), some (.inl a2)]) (st' := [.inl ((a1 * (I 83 0)) + a2), .inr (some 84)]) (I' := I) rfl rfl ?_
  obtain ⟨hi, hv⟩ := hv
  refine g_iald hC dX0_thingAt_12 (rfl) hi ?_
  clear hi
  exact g_reti hC hr rfl dX0_thingAt_13 hv
set_option maxHeartbeats 4000000 in
set_option maxRecDepth 100000 in
theorem k_X0_thingAt_4 (l : Launch) (D : va_G) (ads : AD) (I A : HI) (a1 : Int32) (a2 : Int32) (po : Option AV → HI → HI → Prop)
    (hv : (vp_in ((a1 * (I 87 0)) + a2) 96 ∧ po (some (.inl (A 88 ((a1 * (I 87 0)) + a2).toNatClampNeg))) I A)) : Ct l yX0_thingAt cX0_thingAt 3 (some .int) 0 0 D ads shp [.inr (some 87), .inl a1, .inl a2] I A po := by
  refine Ct_of (by decide) (Nat.le_of_ble_eq_true rfl) ?_
  intro p e s m args below meth c hC hr
  replace hC : CX p s m args meth c cX0_thingAt 3 RX0 (AdS ads s.heap.size) := hC
  show Gm p l e s m args below meth c D ads 0 0 3 po I A 0 [some (.inr (some 87)), some (.inl a1), some (.inl a2)] []
  refine g_blk hC _ bX0_thingAt_0_12 (pc' := 12) (ls' := [some (.inr (some 87)), some (.inl a1), some (.inl a2)]) (st' := [.inl ((a1 * (I 87 0)) + a2), .inr (some 88)]) (I' := I) rfl rfl ?_
  obtain ⟨hi, hv⟩ := hv
  refine g_iald hC dX0_thingAt_12 (rfl) hi ?_
  clear hi
  exact g_reti hC hr rfl dX0_thingAt_13 hv
set_option maxHeartbeats 4000000 in
set_option maxRecDepth 100000 in
theorem k_X0_thingAt_5 (l : Launch) (D : va_G) (ads : AD) (I A : HI) (a1 : Int32) (a2 : Int32) (po : Option AV → HI → HI → Prop)
    (hv : (vp_in ((a1 * (I 91 0)) + a2) 600 ∧ po (some (.inl (A 92 ((a1 * (I 91 0)) + a2).toNatClampNeg))) I A)) : Ct l yX0_thingAt cX0_thingAt 3 (some .int) 0 0 D ads shp [.inr (some 91), .inl a1, .inl a2] I A po := by
  refine Ct_of (by decide) (Nat.le_of_ble_eq_true rfl) ?_
  intro p e s m args below meth c hC hr
  replace hC : CX p s m args meth c cX0_thingAt 3 RX0 (AdS ads s.heap.size) := hC
  show Gm p l e s m args below meth c D ads 0 0 3 po I A 0 [some (.inr (some 91)), some (.inl a1), some (.inl a2)] []
  refine g_blk hC _ bX0_thingAt_0_12 (pc' := 12) (ls' := [some (.inr (some 91)), some (.inl a1), some (.inl a2)]) (st' := [.inl ((a1 * (I 91 0)) + a2), .inr (some 92)]) (I' := I) rfl rfl ?_
  obtain ⟨hi, hv⟩ := hv
  refine g_iald hC dX0_thingAt_12 (rfl) hi ?_
  clear hi
  exact g_reti hC hr rfl dX0_thingAt_13 hv
set_option maxHeartbeats 4000000 in
set_option maxRecDepth 100000 in
theorem c_X0_thingAt (l : Launch) (D : va_G) (ads : AD) (I A : HI) (n : Nat) (a1 : Int32) (a2 : Int32) (hn : n < 6) (hp : vp_in (a1 * I (71 + 4 * n) 0 + a2) (chT n)) : Ct l yX0_thingAt cX0_thingAt 3 (some .int) 0 0 D ads shp [.inr (some (71 + 4 * n)), .inl a1, .inl a2] I A (qI (A (72 + 4 * n) (a1 * I (71 + 4 * n) 0 + a2).toNatClampNeg) I A) := by
  sorry
theorem bX0_exchanged_0_4 : okB cX0_exchanged RX0 0 [(5, 0, 0, 0, 0), (23, 22, 0, 3, 0)] := And.intro ⟨_, dX0_exchanged_0, rfl⟩ (And.intro ⟨dX0_exchanged_1, fl_X0_22⟩ trivial)
set_option maxHeartbeats 4000000 in
set_option maxRecDepth 100000 in
theorem k_X0_exchanged_0 (l : Launch) (D : va_G) (ads : AD) (I A : HI) (po : Option AV → HI → HI → Prop)
    (hv : po (some (.inr (some 73))) I A) : Ct l yX0_exchanged cX0_exchanged 1 (some (.array .int)) 0 0 D ads shp [.inr (some 71)] I A po := by
  refine Ct_of (by decide) (Nat.le_of_ble_eq_true rfl) ?_
  intro p e s m args below meth c hC hr
  replace hC : CX p s m args meth c cX0_exchanged 1 RX0 (AdS ads s.heap.size) := hC
  show Gm p l e s m args below meth c D ads 0 0 1 po I A 0 [some (.inr (some 71))] []
  refine g_blk hC _ bX0_exchanged_0_4 (pc' := 4) (ls' := [some (.inr (some 71))]) (st' := [.inr (some 73)]) (I' := I) rfl rfl ?_
  exact g_reta hC hr (Or.inr ⟨_, rfl⟩) dX0_exchanged_4 hv
set_option maxHeartbeats 4000000 in
set_option maxRecDepth 100000 in
theorem k_X0_exchanged_1 (l : Launch) (D : va_G) (ads : AD) (I A : HI) (po : Option AV → HI → HI → Prop)
    (hv : po (some (.inr (some 77))) I A) : Ct l yX0_exchanged cX0_exchanged 1 (some (.array .int)) 0 0 D ads shp [.inr (some 75)] I A po := by
  refine Ct_of (by decide) (Nat.le_of_ble_eq_true rfl) ?_
  intro p e s m args below meth c hC hr
  replace hC : CX p s m args meth c cX0_exchanged 1 RX0 (AdS ads s.heap.size) := hC
  show Gm p l e s m args below meth c D ads 0 0 1 po I A 0 [some (.inr (some 75))] []
  refine g_blk hC _ bX0_exchanged_0_4 (pc' := 4) (ls' := [some (.inr (some 75))]) (st' := [.inr (some 77)]) (I' := I) rfl rfl ?_
  exact g_reta hC hr (Or.inr ⟨_, rfl⟩) dX0_exchanged_4 hv
set_option maxHeartbeats 4000000 in
set_option maxRecDepth 100000 in
theorem k_X0_exchanged_2 (l : Launch) (D : va_G) (ads : AD) (I A : HI) (po : Option AV → HI → HI → Prop)
    (hv : po (some (.inr (some 81))) I A) : Ct l yX0_exchanged cX0_exchanged 1 (some (.array .int)) 0 0 D ads shp [.inr (some 79)] I A po := by
  refine Ct_of (by decide) (Nat.le_of_ble_eq_true rfl) ?_
  intro p e s m args below meth c hC hr
  replace hC : CX p s m args meth c cX0_exchanged 1 RX0 (AdS ads s.heap.size) := hC
  show Gm p l e s m args below meth c D ads 0 0 1 po I A 0 [some (.inr (some 79))] []
  refine g_blk hC _ bX0_exchanged_0_4 (pc' := 4) (ls' := [some (.inr (some 79))]) (st' := [.inr (some 81)]) (I' := I) rfl rfl ?_
  exact g_reta hC hr (Or.inr ⟨_, rfl⟩) dX0_exchanged_4 hv
set_option maxHeartbeats 4000000 in
set_option maxRecDepth 100000 in
theorem k_X0_exchanged_3 (l : Launch) (D : va_G) (ads : AD) (I A : HI) (po : Option AV → HI → HI → Prop)
    (hv : po (some (.inr (some 85))) I A) : Ct l yX0_exchanged cX0_exchanged 1 (some (.array .int)) 0 0 D ads shp [.inr (some 83)] I A po := by
  refine Ct_of (by decide) (Nat.le_of_ble_eq_true rfl) ?_
  intro p e s m args below meth c hC hr
  replace hC : CX p s m args meth c cX0_exchanged 1 RX0 (AdS ads s.heap.size) := hC
  show Gm p l e s m args below meth c D ads 0 0 1 po I A 0 [some (.inr (some 83))] []
  refine g_blk hC _ bX0_exchanged_0_4 (pc' := 4) (ls' := [some (.inr (some 83))]) (st' := [.inr (some 85)]) (I' := I) rfl rfl ?_
  exact g_reta hC hr (Or.inr ⟨_, rfl⟩) dX0_exchanged_4 hv
set_option maxHeartbeats 4000000 in
set_option maxRecDepth 100000 in
theorem k_X0_exchanged_4 (l : Launch) (D : va_G) (ads : AD) (I A : HI) (po : Option AV → HI → HI → Prop)
    (hv : po (some (.inr (some 89))) I A) : Ct l yX0_exchanged cX0_exchanged 1 (some (.array .int)) 0 0 D ads shp [.inr (some 87)] I A po := by
  refine Ct_of (by decide) (Nat.le_of_ble_eq_true rfl) ?_
  intro p e s m args below meth c hC hr
  replace hC : CX p s m args meth c cX0_exchanged 1 RX0 (AdS ads s.heap.size) := hC
  show Gm p l e s m args below meth c D ads 0 0 1 po I A 0 [some (.inr (some 87))] []
  refine g_blk hC _ bX0_exchanged_0_4 (pc' := 4) (ls' := [some (.inr (some 87))]) (st' := [.inr (some 89)]) (I' := I) rfl rfl ?_
  exact g_reta hC hr (Or.inr ⟨_, rfl⟩) dX0_exchanged_4 hv
set_option maxHeartbeats 4000000 in
set_option maxRecDepth 100000 in
theorem k_X0_exchanged_5 (l : Launch) (D : va_G) (ads : AD) (I A : HI) (po : Option AV → HI → HI → Prop)
    (hv : po (some (.inr (some 93))) I A) : Ct l yX0_exchanged cX0_exchanged 1 (some (.array .int)) 0 0 D ads shp [.inr (some 91)] I A po := by
  refine Ct_of (by decide) (Nat.le_of_ble_eq_true rfl) ?_
  intro p e s m args below meth c hC hr
  replace hC : CX p s m args meth c cX0_exchanged 1 RX0 (AdS ads s.heap.size) := hC
  show Gm p l e s m args below meth c D ads 0 0 1 po I A 0 [some (.inr (some 91))] []
  refine g_blk hC _ bX0_exchanged_0_4 (pc' := 4) (ls' := [some (.inr (some 91))]) (st' := [.inr (some 93)]) (I' := I) rfl rfl ?_
  exact g_reta hC hr (Or.inr ⟨_, rfl⟩) dX0_exchanged_4 hv
set_option maxHeartbeats 4000000 in
set_option maxRecDepth 100000 in
theorem c_X0_exchanged (l : Launch) (D : va_G) (ads : AD) (I A : HI) (n : Nat) (hn : n < 6) : Ct l yX0_exchanged cX0_exchanged 1 (some (.array .int)) 0 0 D ads shp [.inr (some (71 + 4 * n))] I A (qR (73 + 4 * n) I A) := by
  sorry
theorem bX0_rankAt_0_5 : okB cX0_rankAt RX0 0 [(5, 0, 0, 0, 0), (23, 25, 0, 4, 0), (3, 1, 0, 0, 0)] := And.intro ⟨_, dX0_rankAt_0, rfl⟩ (And.intro ⟨dX0_rankAt_1, fl_X0_25⟩ (And.intro ⟨_, dX0_rankAt_4, rfl⟩ trivial))
set_option maxHeartbeats 4000000 in
set_option maxRecDepth 100000 in
theorem k_X0_rankAt_0 (l : Launch) (D : va_G) (ads : AD) (I A : HI) (a1 : Int32) (po : Option AV → HI → HI → Prop)
    (hv : (vp_in a1 1 ∧ po (some (.inl (A 74 a1.toNatClampNeg))) I A)) : Ct l yX0_rankAt cX0_rankAt 2 (some .int) 0 0 D ads shp [.inr (some 71), .inl a1] I A po := by
  refine Ct_of (by decide) (Nat.le_of_ble_eq_true rfl) ?_
  intro p e s m args below meth c hC hr
  replace hC : CX p s m args meth c cX0_rankAt 2 RX0 (AdS ads s.heap.size) := hC
  show Gm p l e s m args below meth c D ads 0 0 2 po I A 0 [some (.inr (some 71)), some (.inl a1)] []
  refine g_blk hC _ bX0_rankAt_0_5 (pc' := 5) (ls' := [some (.inr (some 71)), some (.inl a1)]) (st' := [.inl a1, .inr (some 74)]) (I' := I) rfl rfl ?_
  obtain ⟨hi, hv⟩ := hv
  refine g_iald hC dX0_rankAt_5 (rfl) hi ?_
  clear hi
  exact g_reti hC hr rfl dX0_rankAt_6 hv
set_option maxHeartbeats 4000000 in
set_option maxRecDepth 100000 in
theorem k_X0_rankAt_1 (l : Launch) (D : va_G) (ads : AD) (I A : HI) (a1 : Int32) (po : Option AV → HI → HI → Prop)
    (hv : (vp_in a1 1 ∧ po (some (.inl (A 78 a1.toNatClampNeg))) I A)) : Ct l yX0_rankAt cX0_rankAt 2 (some .int) 0 0 D ads shp [.inr (some 75), .inl a1] I A po := by
  refine Ct_of (by decide) (Nat.le_of_ble_eq_true rfl) ?_
  intro p e s m args below meth c hC hr
  replace hC : CX p s m args meth c cX0_rankAt 2 RX0 (AdS ads s.heap.size) := hC
  show Gm p l e s m args below meth c D ads 0 0 2 po I A 0 [some (.inr (some 75)), some (.inl a1)] []
  refine g_blk hC _ bX0_rankAt_0_5 (pc' := 5) (ls' := [some (.inr (some 75)), some (.inl a1)]) (st' := [.inl a1, .inr (some 78)]) (I' := I) rfl rfl ?_
  obtain ⟨hi, hv⟩ := hv
  refine g_iald hC dX0_rankAt_5 (rfl) hi ?_
  clear hi
  exact g_reti hC hr rfl dX0_rankAt_6 hv
set_option maxHeartbeats 4000000 in
set_option maxRecDepth 100000 in
theorem k_X0_rankAt_2 (l : Launch) (D : va_G) (ads : AD) (I A : HI) (a1 : Int32) (po : Option AV → HI → HI → Prop)
    (hv : (vp_in a1 2 ∧ po (some (.inl (A 82 a1.toNatClampNeg))) I A)) : Ct l yX0_rankAt cX0_rankAt 2 (some .int) 0 0 D ads shp [.inr (some 79), .inl a1] I A po := by
  refine Ct_of (by decide) (Nat.le_of_ble_eq_true rfl) ?_
  intro p e s m args below meth c hC hr
  replace hC : CX p s m args meth c cX0_rankAt 2 RX0 (AdS ads s.heap.size) := hC
  show Gm p l e s m args below meth c D ads 0 0 2 po I A 0 [some (.inr (some 79)), some (.inl a1)] []
  refine g_blk hC _ bX0_rankAt_0_5 (pc' := 5) (ls' := [some (.inr (some 79)), some (.inl a1)]) (st' := [.inl a1, .inr (some 82)]) (I' := I) rfl rfl ?_
  obtain ⟨hi, hv⟩ := hv
  refine g_iald hC dX0_rankAt_5 (rfl) hi ?_
  clear hi
  exact g_reti hC hr rfl dX0_rankAt_6 hv
set_option maxHeartbeats 4000000 in
set_option maxRecDepth 100000 in
theorem k_X0_rankAt_3 (l : Launch) (D : va_G) (ads : AD) (I A : HI) (a1 : Int32) (po : Option AV → HI → HI → Prop)
    (hv : (vp_in a1 6 ∧ po (some (.inl (A 86 a1.toNatClampNeg))) I A)) : Ct l yX0_rankAt cX0_rankAt 2 (some .int) 0 0 D ads shp [.inr (some 83), .inl a1] I A po := by
  refine Ct_of (by decide) (Nat.le_of_ble_eq_true rfl) ?_
  intro p e s m args below meth c hC hr
  replace hC : CX p s m args meth c cX0_rankAt 2 RX0 (AdS ads s.heap.size) := hC
  show Gm p l e s m args below meth c D ads 0 0 2 po I A 0 [some (.inr (some 83)), some (.inl a1)] []
  refine g_blk hC _ bX0_rankAt_0_5 (pc' := 5) (ls' := [some (.inr (some 83)), some (.inl a1)]) (st' := [.inl a1, .inr (some 86)]) (I' := I) rfl rfl ?_
  obtain ⟨hi, hv⟩ := hv
  refine g_iald hC dX0_rankAt_5 (rfl) hi ?_
  clear hi
  exact g_reti hC hr rfl dX0_rankAt_6 hv
set_option maxHeartbeats 4000000 in
set_option maxRecDepth 100000 in
theorem k_X0_rankAt_4 (l : Launch) (D : va_G) (ads : AD) (I A : HI) (a1 : Int32) (po : Option AV → HI → HI → Prop)
    (hv : (vp_in a1 24 ∧ po (some (.inl (A 90 a1.toNatClampNeg))) I A)) : Ct l yX0_rankAt cX0_rankAt 2 (some .int) 0 0 D ads shp [.inr (some 87), .inl a1] I A po := by
  refine Ct_of (by decide) (Nat.le_of_ble_eq_true rfl) ?_
  intro p e s m args below meth c hC hr
  replace hC : CX p s m args meth c cX0_rankAt 2 RX0 (AdS ads s.heap.size) := hC
  show Gm p l e s m args below meth c D ads 0 0 2 po I A 0 [some (.inr (some 87)), some (.inl a1)] []
  refine g_blk hC _ bX0_rankAt_0_5 (pc' := 5) (ls' := [some (.inr (some 87)), some (.inl a1)]) (st' := [.inl a1, .inr (some 90)]) (I' := I) rfl rfl ?_
  obtain ⟨hi, hv⟩ := hv
  refine g_iald hC dX0_rankAt_5 (rfl) hi ?_
  clear hi
  exact g_reti hC hr rfl dX0_rankAt_6 hv
set_option maxHeartbeats 4000000 in
set_option maxRecDepth 100000 in
theorem k_X0_rankAt_5 (l : Launch) (D : va_G) (ads : AD) (I A : HI) (a1 : Int32) (po : Option AV → HI → HI → Prop)
    (hv : (vp_in a1 120 ∧ po (some (.inl (A 94 a1.toNatClampNeg))) I A)) : Ct l yX0_rankAt cX0_rankAt 2 (some .int) 0 0 D ads shp [.inr (some 91), .inl a1] I A po := by
  refine Ct_of (by decide) (Nat.le_of_ble_eq_true rfl) ?_
  intro p e s m args below meth c hC hr
  replace hC : CX p s m args meth c cX0_rankAt 2 RX0 (AdS ads s.heap.size) := hC
  show Gm p l e s m args below meth c D ads 0 0 2 po I A 0 [some (.inr (some 91)), some (.inl a1)] []
  refine g_blk hC _ bX0_rankAt_0_5 (pc' := 5) (ls' := [some (.inr (some 91)), some (.inl a1)]) (st' := [.inl a1, .inr (some 94)]) (I' := I) rfl rfl ?_
  obtain ⟨hi, hv⟩ := hv
  refine g_iald hC dX0_rankAt_5 (rfl) hi ?_
  clear hi
  exact g_reti hC hr rfl dX0_rankAt_6 hv
set_option maxHeartbeats 4000000 in
set_option maxRecDepth 100000 in
theorem c_X0_rankAt (l : Launch) (D : va_G) (ads : AD) (I A : HI) (n : Nat) (a1 : Int32) (hn : n < 6) (hp : vp_in a1 (chN n)) : Ct l yX0_rankAt cX0_rankAt 2 (some .int) 0 0 D ads shp [.inr (some (71 + 4 * n)), .inl a1] I A (qI (A (74 + 4 * n) a1.toNatClampNeg) I A) := by
  sorry
