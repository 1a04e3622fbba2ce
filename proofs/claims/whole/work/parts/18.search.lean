/-! Search -/
theorem chO_lt {x : Int32} (h : 0 ≤ x) : (mnI x 5).toNatClampNeg < 6 := by
  sorry
def shO0 (I A : HI) (l i : Int32) : Prop := True
def shO (I A : HI) (l i : Int32) : Int32 := 0
def spO0 (I A : HI) (l : Int32) : Prop := True
def spO (I A : HI) (l x : Int32) : Int32 := 0
def tNx0 (I A : HI) (l t : Int32) (n : Nat) : Prop := True
def tNx (I A : HI) (l t : Int32) (n : Nat) (A' : HI) : Prop := True
def sLa0 (I A : HI) (l : Int32) : Prop := True
def sLa (I A : HI) (l q : Int32) (I' A' : HI) : Prop := True
def chF0 (I A : HI) : Prop := True
def chF (I A I' A' : HI) : Prop := True
def cCr0 (I A : HI) (l i j : Int32) : Prop := True
def cCr (I A : HI) (l i j : Int32) (I' : HI) : Prop := True
def cPa0 (I A : HI) (n : Int32) : Prop := True
def cPa (I A : HI) (n : Int32) (I' A' : HI) : Prop := True
def sol0 (I A : HI) : Prop := True
def sol (I A : HI) (q : Int32) (I' A' : HI) : Prop := True
theorem bX6_leastCost_0_4 : okB cX6_leastCost RX6 0 [(5, 0, 0, 0, 0), (23, 32, 6, 9, 0)] := And.intro ⟨_, dX6_leastCost_0, rfl⟩ (And.intro ⟨dX6_leastCost_1, fl_X6_32⟩ trivial)
set_option maxHeartbeats 4000000 in
set_option maxRecDepth 100000 in
theorem k_X6_leastCost (l : Launch) (D : va_G) (ads : AD) (I A : HI) (po : Option AV → HI → HI → Prop)
    (hv : po (some (.inl (I 29 9))) I A) : Ct l yX6_leastCost cX6_leastCost 1 (some .int) 0 0 D ads shp [.inr (some 29)] I A po := by
  refine Ct_of (by decide) (Nat.le_of_ble_eq_true rfl) ?_
  intro p e s m args below meth c hC hr
  replace hC : CX p s m args meth c cX6_leastCost 1 RX6 (AdS ads s.heap.size) := hC
  show Gm p l e s m args below meth c D ads 0 0 1 po I A 0 [some (.inr (some 29))] []
  refine g_blk hC _ bX6_leastCost_0_4 (pc' := 4) (ls' := [some (.inr (some 29))]) (st' := [.inl (I 29 9)]) (I' := I) rfl rfl ?_
  exact g_reti hC hr rfl dX6_leastCost_4 hv
set_option maxHeartbeats 4000000 in
set_option maxRecDepth 100000 in
theorem c_X6_leastCost (l : Launch) (D : va_G) (ads : AD) (I A : HI) : Ct l yX6_leastCost cX6_leastCost 1 (some .int) 0 0 D ads shp [.inr (some 29)] I A (qI (I 29 9) I A) := by
  sorry
theorem bX6_leastWays_0_4 : okB cX6_leastWays RX6 0 [(5, 0, 0, 0, 0), (23, 36, 6, 10, 0)] := And.intro ⟨_, dX6_leastWays_0, rfl⟩ (And.intro ⟨dX6_leastWays_1, fl_X6_36⟩ trivial)
set_option maxHeartbeats 4000000 in
set_option maxRecDepth 100000 in
theorem k_X6_leastWays (l : Launch) (D : va_G) (ads : AD) (I A : HI) (po : Option AV → HI → HI → Prop)
    (hv : po (some (.inl (I 29 10))) I A) : Ct l yX6_leastWays cX6_leastWays 1 (some .int) 0 0 D ads shp [.inr (some 29)] I A po := by
  refine Ct_of (by decide) (Nat.le_of_ble_eq_true rfl) ?_
  intro p e s m args below meth c hC hr
  replace hC : CX p s m args meth c cX6_leastWays 1 RX6 (AdS ads s.heap.size) := hC
  show Gm p l e s m args below meth c D ads 0 0 1 po I A 0 [some (.inr (some 29))] []
  refine g_blk hC _ bX6_leastWays_0_4 (pc' := 4) (ls' := [some (.inr (some 29))]) (st' := [.inl (I 29 10)]) (I' := I) rfl rfl ?_
  exact g_reti hC hr rfl dX6_leastWays_4 hv
set_option maxHeartbeats 4000000 in
set_option maxRecDepth 100000 in
theorem c_X6_leastWays (l : Launch) (D : va_G) (ads : AD) (I A : HI) : Ct l yX6_leastWays cX6_leastWays 1 (some .int) 0 0 D ads shp [.inr (some 29)] I A (qI (I 29 10) I A) := by
  sorry
theorem bX6_crossCost_0_4 : okB cX6_crossCost RX6 0 [(5, 0, 0, 0, 0), (23, 39, 6, 11, 0)] := And.intro ⟨_, dX6_crossCost_0, rfl⟩ (And.intro ⟨dX6_crossCost_1, fl_X6_39⟩ trivial)
set_option maxHeartbeats 4000000 in
set_option maxRecDepth 100000 in
theorem k_X6_crossCost (l : Launch) (D : va_G) (ads : AD) (I A : HI) (po : Option AV → HI → HI → Prop)
    (hv : po (some (.inl (I 29 11))) I A) : Ct l yX6_crossCost cX6_crossCost 1 (some .int) 0 0 D ads shp [.inr (some 29)] I A po := by
  refine Ct_of (by decide) (Nat.le_of_ble_eq_true rfl) ?_
  intro p e s m args below meth c hC hr
  replace hC : CX p s m args meth c cX6_crossCost 1 RX6 (AdS ads s.heap.size) := hC
  show Gm p l e s m args below meth c D ads 0 0 1 po I A 0 [some (.inr (some 29))] []
  refine g_blk hC _ bX6_crossCost_0_4 (pc' := 4) (ls' := [some (.inr (some 29))]) (st' := [.inl (I 29 11)]) (I' := I) rfl rfl ?_
  exact g_reti hC hr rfl dX6_crossCost_4 hv
set_option maxHeartbeats 4000000 in
set_option maxRecDepth 100000 in
theorem c_X6_crossCost (l : Launch) (D : va_G) (ads : AD) (I A : HI) : Ct l yX6_crossCost cX6_crossCost 1 (some .int) 0 0 D ads shp [.inr (some 29)] I A (qI (I 29 11) I A) := by
  sorry
theorem bX6_crossPairs_0_4 : okB cX6_crossPairs RX6 0 [(5, 0, 0, 0, 0), (23, 42, 6, 12, 0)] := And.intro ⟨_, dX6_crossPairs_0, rfl⟩ (And.intro ⟨dX6_crossPairs_1, fl_X6_42⟩ trivial)
set_option maxHeartbeats 4000000 in
set_option maxRecDepth 100000 in
theorem k_X6_crossPairs (l : Launch) (D : va_G) (ads : AD) (I A : HI) (po : Option AV → HI → HI → Prop)
    (hv : po (some (.inl (I 29 12))) I A) : Ct l yX6_crossPairs cX6_crossPairs 1 (some .int) 0 0 D ads shp [.inr (some 29)] I A po := by
  refine Ct_of (by decide) (Nat.le_of_ble_eq_true rfl) ?_
  intro p e s m args below meth c hC hr
  replace hC : CX p s m args meth c cX6_crossPairs 1 RX6 (AdS ads s.heap.size) := hC
  show Gm p l e s m args below meth c D ads 0 0 1 po I A 0 [some (.inr (some 29))] []
  refine g_blk hC _ bX6_crossPairs_0_4 (pc' := 4) (ls' := [some (.inr (some 29))]) (st' := [.inl (I 29 12)]) (I' := I) rfl rfl ?_
  exact g_reti hC hr rfl dX6_crossPairs_4 hv
set_option maxHeartbeats 4000000 in
set_option maxRecDepth 100000 in
theorem c_X6_crossPairs (l : Launch) (D : va_G) (ads : AD) (I A : HI) : Ct l yX6_crossPairs cX6_crossPairs 1 (some .int) 0 0 D ads shp [.inr (some 29)] I A (qI (I 29 12) I A) := by
  sorry
theorem bX6_movedPairs_0_4 : okB cX6_movedPairs RX6 0 [(5, 0, 0, 0, 0), (23, 45, 6, 13, 0)] := And.intro ⟨_, dX6_movedPairs_0, rfl⟩ (And.intro ⟨dX6_movedPairs_1, fl_X6_45⟩ trivial)
set_option maxHeartbeats 4000000 in
set_option maxRecDepth 100000 in
theorem k_X6_movedPairs (l : Launch) (D : va_G) (ads : AD) (I A : HI) (po : Option AV → HI → HI → Prop)
    (hv : po (some (.inl (I 29 13))) I A) : Ct l yX6_movedPairs cX6_movedPairs 1 (some .int) 0 0 D ads shp [.inr (some 29)] I A po := by
  refine Ct_of (by decide) (Nat.le_of_ble_eq_true rfl) ?_
  intro p e s m args below meth c hC hr
  replace hC : CX p s m args meth c cX6_movedPairs 1 RX6 (AdS ads s.heap.size) := hC
  show Gm p l e s m args below meth c D ads 0 0 1 po I A 0 [some (.inr (some 29))] []
  refine g_blk hC _ bX6_movedPairs_0_4 (pc' := 4) (ls' := [some (.inr (some 29))]) (st' := [.inl (I 29 13)]) (I' := I) rfl rfl ?_
  exact g_reti hC hr rfl dX6_movedPairs_4 hv
set_option maxHeartbeats 4000000 in
set_option maxRecDepth 100000 in
theorem c_X6_movedPairs (l : Launch) (D : va_G) (ads : AD) (I A : HI) : Ct l yX6_movedPairs cX6_movedPairs 1 (some .int) 0 0 D ads shp [.inr (some 29)] I A (qI (I 29 13) I A) := by
  sorry
theorem bX6_changesOf_0_9 : okB cX6_changesOf RX6 0 [(5, 0, 0, 0, 0), (23, 11, 6, 4, 0), (5, 0, 0, 0, 0), (23, 52, 6, 1, 0), (3, 1, 0, 0, 0)] := And.intro ⟨_, dX6_changesOf_0, rfl⟩ (And.intro ⟨dX6_changesOf_1, fl_X6_11⟩ (And.intro ⟨_, dX6_changesOf_4, rfl⟩ (And.intro ⟨dX6_changesOf_5, fl_X6_52⟩ (And.intro ⟨_, dX6_changesOf_8, rfl⟩ trivial))))
theorem bX6_changesOf_12_13 : okB cX6_changesOf RX6 12 [(0, 0, 0, 0, 5)] := And.intro ⟨_, dX6_changesOf_12, by decide⟩ trivial
set_option maxHeartbeats 4000000 in
set_option maxRecDepth 100000 in
theorem k_X6_changesOf (l : Launch) (D : va_G) (ads : AD) (I A : HI) (a1 : Int32) (po : Option AV → HI → HI → Prop)
    (hv : ((vp_in a1 11) ∧ (vp_in (mnI (A 25 a1.toNatClampNeg) 5) 6 ∧ po (some (.inr (some (71 + 4 * (mnI (A 25 a1.toNatClampNeg) 5).toNatClampNeg)))) I A))) : Ct l yX6_changesOf cX6_changesOf 2 (some (.object "RibbonSetter$Changes")) 1 21 D ads shp [.inr (some 29), .inl a1] I A po := by
  refine Ct_of (by decide) (Nat.le_of_ble_eq_true rfl) ?_
  intro p e s m args below meth c hC hr
  replace hC : CX p s m args meth c cX6_changesOf 2 RX6 (AdS ads s.heap.size) := hC
  show Gm p l e s m args below meth c D ads 1 21 2 po I A 0 [some (.inr (some 29)), some (.inl a1)] []
  refine g_blk hC _ bX6_changesOf_0_9 (pc' := 9) (ls' := [some (.inr (some 29)), some (.inl a1)]) (st' := [.inl a1, .inr (some 13), .inr (some 30)]) (I' := I) rfl rfl ?_
  obtain ⟨hp1, hv⟩ := hv
  refine g_callV hC (c_X7_countIn l D ads I A a1 hp1) dX6_changesOf_9 nm_X7_countIn rfl rfl wl_X6_90 wi_X7_countIn ws_X7_countIn wn_X7 wc_X7_countIn ⟨by decide, by decide⟩ (as := [.inl a1]) (rest := [.inr (some 30)]) rfl (Nat.le_of_ble_eq_true rfl) ⟨Nat.le_refl _, Nat.le_refl _⟩ (k_qI ?_)
  refine g_blk hC _ bX6_changesOf_12_13 (pc' := 13) (ls' := [some (.inr (some 29)), some (.inl a1)]) (st' := [.inl 5, .inl (A 25 a1.toNatClampNeg), .inr (some 30)]) (I' := I) rfl rfl ?_
  refine g_min hC dX6_changesOf_13 wl_X6_110 (by decide) (Nat.le_of_ble_eq_true rfl) ⟨Nat.le_refl _, Nat.le_refl _⟩ ?_
  obtain ⟨hr2, hv⟩ := hv
  refine g_aald hC dX6_changesOf_16 (f := _) rfl hr2 (ra_30 (vin_lt hr2)) ?_
  exact g_reta hC hr (Or.inl ⟨_, rfl⟩) dX6_changesOf_17 hv
set_option maxHeartbeats 4000000 in
set_option maxRecDepth 100000 in
theorem c_X6_changesOf (l : Launch) (D : va_G) (ads : AD) (I A : HI) (a1 : Int32) (hp : vp_in a1 11 ∧ 0 ≤ A 25 a1.toNatClampNeg) : Ct l yX6_changesOf cX6_changesOf 2 (some (.object "RibbonSetter$Changes")) 1 21 D ads shp [.inr (some 29), .inl a1] I A (qR (71 + 4 * (mnI (A 25 a1.toNatClampNeg) 5).toNatClampNeg) I A) := by
  sorry
theorem bX6_shownAt_0_1 : okB cX6_shownAt RX6 0 [(3, 2, 0, 0, 0)] := And.intro ⟨_, dX6_shownAt_0, rfl⟩ trivial
theorem bX6_shownAt_16_17 : okB cX6_shownAt RX6 16 [(0, 0, 0, 0, (-1))] := And.intro ⟨_, dX6_shownAt_16, by decide⟩ trivial
theorem bX6_shownAt_4_10 : okB cX6_shownAt RX6 4 [(3, 2, 0, 0, 0), (5, 0, 0, 0, 0), (23, 52, 6, 1, 0), (3, 1, 0, 0, 0)] := And.intro ⟨_, dX6_shownAt_4, rfl⟩ (And.intro ⟨_, dX6_shownAt_5, rfl⟩ (And.intro ⟨dX6_shownAt_6, fl_X6_52⟩ (And.intro ⟨_, dX6_shownAt_9, rfl⟩ trivial)))
theorem bX6_shownAt_18_25 : okB cX6_shownAt RX6 18 [(5, 0, 0, 0, 0), (23, 52, 6, 1, 0), (3, 1, 0, 0, 0), (5, 0, 0, 0, 0), (3, 1, 0, 0, 0)] := And.intro ⟨_, dX6_shownAt_18, rfl⟩ (And.intro ⟨dX6_shownAt_19, fl_X6_52⟩ (And.intro ⟨_, dX6_shownAt_22, rfl⟩ (And.intro ⟨_, dX6_shownAt_23, rfl⟩ (And.intro ⟨_, dX6_shownAt_24, rfl⟩ trivial))))
theorem bX6_shownAt_28_33 : okB cX6_shownAt RX6 28 [(5, 0, 0, 0, 0), (23, 28, 6, 8, 0), (3, 1, 0, 0, 0)] := And.intro ⟨_, dX6_shownAt_28, rfl⟩ (And.intro ⟨dX6_shownAt_29, fl_X6_28⟩ (And.intro ⟨_, dX6_shownAt_32, rfl⟩ trivial))
theorem bX6_shownAt_34_35 : okB cX6_shownAt RX6 34 [(3, 2, 0, 0, 0)] := And.intro ⟨_, dX6_shownAt_34, rfl⟩ trivial
set_option maxHeartbeats 4000000 in
set_option maxRecDepth 100000 in
theorem k_X6_shownAt (l : Launch) (D : va_G) (ads : AD) (I A : HI) (a1 : Int32) (a2 : Int32) (po : Option AV → HI → HI → Prop)
    (hv : ((a2 < 0 → po (some (.inl ((-1)))) I A) ∧ (¬ a2 < 0 → ((vp_in a1 11) ∧ ((a2 < (A 25 a1.toNatClampNeg) → ((vp_in a1 11 ∧ 0 ≤ A 25 a1.toNatClampNeg) ∧ (vp_in a1 11 ∧ ((vp_in ((A 67 a1.toNatClampNeg) * I (71 + 4 * ((mnI (A 25 a1.toNatClampNeg) 5).toNatClampNeg)) 0 + a2) (chT ((mnI (A 25 a1.toNatClampNeg) 5).toNatClampNeg))) ∧ ((vp_in a1 10 ∧ vp_in (A (72 + 4 * ((mnI (A 25 a1.toNatClampNeg) 5).toNatClampNeg)) ((A 67 a1.toNatClampNeg) * I (71 + 4 * ((mnI (A 25 a1.toNatClampNeg) 5).toNatClampNeg)) 0 + a2).toNatClampNeg) 26) ∧ po (some (.inl (A (15 + a1.toNatClampNeg) (A (72 + 4 * ((mnI (A 25 a1.toNatClampNeg) 5).toNatClampNeg)) ((A 67 a1.toNatClampNeg) * I (71 + 4 * ((mnI (A 25 a1.toNatClampNeg) 5).toNatClampNeg)) 0 + a2).toNatClampNeg).toNatClampNeg))) I A))))) ∧ (¬ a2 < (A 25 a1.toNatClampNeg) → po (some (.inl ((-1)))) I A)))))) : Ct l yX6_shownAt cX6_shownAt 3 (some .int) 2 42 D ads shp [.inr (some 29), .inl a1, .inl a2] I A po := by
  refine Ct_of (by decide) (Nat.le_of_ble_eq_true rfl) ?_
  intro p e s m args below meth c hC hr
  replace hC : CX p s m args meth c cX6_shownAt 3 RX6 (AdS ads s.heap.size) := hC
  show Gm p l e s m args below meth c D ads 2 42 3 po I A 0 [some (.inr (some 29)), some (.inl a1), some (.inl a2)] []
  refine g_blk hC _ bX6_shownAt_0_1 (pc' := 1) (ls' := [some (.inr (some 29)), some (.inl a1), some (.inl a2)]) (st' := [.inl a2]) (I' := I) rfl rfl ?_
  obtain ⟨hv1, hv2⟩ := hv
  refine g_iflt hC dX6_shownAt_1 (tgt := 16) (by decide) (fun hc => ?_) (fun hc => ?_)
  · have hv := hv1 hc
    clear hv1 hv2 hc
    refine g_blk hC _ bX6_shownAt_16_17 (pc' := 17) (ls' := [some (.inr (some 29)), some (.inl a1), some (.inl a2)]) (st' := [.inl ((-1))]) (I' := I) rfl rfl ?_
    exact g_reti hC hr rfl dX6_shownAt_17 hv
  · have hv := hv2 hc
    clear hv1 hv2 hc
    refine g_blk hC _ bX6_shownAt_4_10 (pc' := 10) (ls' := [some (.inr (some 29)), some (.inl a1), some (.inl a2)]) (st' := [.inl a1, .inr (some 13), .inl a2]) (I' := I) rfl rfl ?_
    obtain ⟨hp1, hv⟩ := hv
    refine g_callV hC (c_X7_countIn l D ads I A a1 hp1) dX6_shownAt_10 nm_X7_countIn rfl rfl wl_X6_90 wi_X7_countIn ws_X7_countIn wn_X7 wc_X7_countIn ⟨by decide, by decide⟩ (as := [.inl a1]) (rest := [.inl a2]) rfl (Nat.le_of_ble_eq_true rfl) ⟨Nat.le_refl _, Nat.le_refl _⟩ (k_qI ?_)
    obtain ⟨hv1, hv2⟩ := hv
    refine g_clt hC dX6_shownAt_13 (tgt := 18) (by decide) (fun hc => ?_) (fun hc => ?_)
    · have hv := hv1 hc
      clear hv1 hv2 hc
      refine g_blk hC _ bX6_shownAt_18_25 (pc' := 25) (ls' := [some (.inr (some 29)), some (.inl a1), some (.inl a2)]) (st' := [.inl a1, .inr (some 29), .inl a1, .inr (some 13)]) (I' := I) rfl rfl ?_
      obtain ⟨hp2, hv⟩ := hv
      refine g_callV hC (c_X6_changesOf l D ads I A a1 hp2) dX6_shownAt_25 nm_X6_changesOf rfl rfl wl_X6_96 wi_X6_changesOf ws_X6_changesOf wn_X6 wc_X6_changesOf ⟨by decide, by decide⟩ (as := [.inl a1]) (rest := [.inl a1, .inr (some 13)]) rfl (Nat.le_of_ble_eq_true rfl) ⟨Nat.le_refl _, Nat.le_refl _⟩ (k_qR ?_)
      refine g_blk hC _ bX6_shownAt_28_33 (pc' := 33) (ls' := [some (.inr (some 29)), some (.inl a1), some (.inl a2)]) (st' := [.inl a1, .inr (some 67), .inr (some (71 + 4 * (mnI (A 25 a1.toNatClampNeg) 5).toNatClampNeg)), .inl a1, .inr (some 13)]) (I' := I) rfl rfl ?_
      obtain ⟨hi, hv⟩ := hv
      refine g_iald hC dX6_shownAt_33 (rfl) hi ?_
      clear hi
      refine g_blk hC _ bX6_shownAt_34_35 (pc' := 35) (ls' := [some (.inr (some 29)), some (.inl a1), some (.inl a2)]) (st' := [.inl a2, .inl (A 67 a1.toNatClampNeg), .inr (some (71 + 4 * (mnI (A 25 a1.toNatClampNeg) 5).toNatClampNeg)), .inl a1, .inr (some 13)]) (I' := I) rfl rfl ?_
      obtain ⟨hp3, hv⟩ := hv
      obtain ⟨fs9, hs9⟩ := ch_sh (chO_lt hp2.2)
      refine g_callV hC (c_X0_thingAt l D ads I A ((mnI (A 25 a1.toNatClampNeg) 5).toNatClampNeg) (A 67 a1.toNatClampNeg) a2 (chO_lt hp2.2) hp3) dX6_shownAt_35 nm_X0_thingAt hs9 rfl wl_X6_100 wi_X0_thingAt ws_X0_thingAt wn_X0 wc_X0_thingAt ⟨by decide, by decide⟩ (as := [.inl (A 67 a1.toNatClampNeg), .inl a2]) (rest := [.inl a1, .inr (some 13)]) rfl (Nat.le_of_ble_eq_true rfl) ⟨Nat.le_refl _, Nat.le_refl _⟩ (k_qI ?_)
      obtain ⟨hp4, hv⟩ := hv
      refine g_callV hC (c_X7_numberAt l D ads I A a1 (A (72 + 4 * ((mnI (A 25 a1.toNatClampNeg) 5).toNatClampNeg)) ((A 67 a1.toNatClampNeg) * I (71 + 4 * ((mnI (A 25 a1.toNatClampNeg) 5).toNatClampNeg)) 0 + a2).toNatClampNeg) hp4) dX6_shownAt_38 nm_X7_numberAt rfl rfl wl_X6_104 wi_X7_numberAt ws_X7_numberAt wn_X7 wc_X7_numberAt ⟨by decide, by decide⟩ (as := [.inl a1, .inl (A (72 + 4 * ((mnI (A 25 a1.toNatClampNeg) 5).toNatClampNeg)) ((A 67 a1.toNatClampNeg) * I (71 + 4 * ((mnI (A 25 a1.toNatClampNeg) 5).toNatClampNeg)) 0 + a2).toNatClampNeg)]) (rest := []) rfl (Nat.le_of_ble_eq_true rfl) ⟨Nat.le_refl _, Nat.le_refl _⟩ (k_qI ?_)
      exact g_reti hC hr rfl dX6_shownAt_41 hv
    · have hv := hv2 hc
      clear hv1 hv2 hc
      refine g_blk hC _ bX6_shownAt_16_17 (pc' := 17) (ls' := [some (.inr (some 29)), some (.inl a1), some (.inl a2)]) (st' := [.inl ((-1))]) (I' := I) rfl rfl ?_
      exact g_reti hC hr rfl dX6_shownAt_17 hv
set_option maxHeartbeats 4000000 in
set_option maxRecDepth 100000 in
theorem c_X6_shownAt (l : Launch) (D : va_G) (ads : AD) (I A : HI) (a1 : Int32) (a2 : Int32) (hp : shO0 I A a1 a2) : Ct l yX6_shownAt cX6_shownAt 3 (some .int) 2 42 D ads shp [.inr (some 29), .inl a1, .inl a2] I A (qI (shO I A a1 a2) I A) := by
  sorry
theorem bX6_spotOf_0_2 : okB cX6_spotOf RX6 0 [(0, 0, 0, 0, 0), (7, 3, 0, 0, 0)] := And.intro ⟨_, dX6_spotOf_0, by decide⟩ (And.intro ⟨_, dX6_spotOf_1, rfl⟩ trivial)
theorem bX6_spotOf_2_8 : okB cX6_spotOf RX6 2 [(3, 3, 0, 0, 0), (5, 0, 0, 0, 0), (23, 52, 6, 1, 0), (3, 1, 0, 0, 0)] := And.intro ⟨_, dX6_spotOf_2, rfl⟩ (And.intro ⟨_, dX6_spotOf_3, rfl⟩ (And.intro ⟨dX6_spotOf_4, fl_X6_52⟩ (And.intro ⟨_, dX6_spotOf_7, rfl⟩ trivial)))
theorem bX6_spotOf_32_33 : okB cX6_spotOf RX6 32 [(0, 0, 0, 0, (-1))] := And.intro ⟨_, dX6_spotOf_32, by decide⟩ trivial
theorem bX6_spotOf_14_17 : okB cX6_spotOf RX6 14 [(5, 0, 0, 0, 0), (3, 1, 0, 0, 0), (3, 3, 0, 0, 0)] := And.intro ⟨_, dX6_spotOf_14, rfl⟩ (And.intro ⟨_, dX6_spotOf_15, rfl⟩ (And.intro ⟨_, dX6_spotOf_16, rfl⟩ trivial))
theorem bX6_spotOf_20_21 : okB cX6_spotOf RX6 20 [(3, 2, 0, 0, 0)] := And.intro ⟨_, dX6_spotOf_20, rfl⟩ trivial
theorem bX6_spotOf_26_29 : okB cX6_spotOf RX6 26 [(11, 3, 0, 0, 1)] := And.intro ⟨_, dX6_spotOf_26, by decide⟩ trivial
theorem bX6_spotOf_24_25 : okB cX6_spotOf RX6 24 [(3, 3, 0, 0, 0)] := And.intro ⟨_, dX6_spotOf_24, rfl⟩ trivial
set_option maxHeartbeats 4000000 in
set_option maxRecDepth 100000 in
theorem k_X6_spotOf (l : Launch) (D : va_G) (ads : AD) (I A : HI) (a1 : Int32) (a2 : Int32) (po : Option AV → HI → HI → Prop) (Iv2 : Int32 → Prop) (mu2 : Int32 → Nat)
    (hv : (Iv2 0 ∧ ∀ (x3_2 : Int32), Iv2 x3_2 → ((vp_in a1 11) ∧ (((A 25 a1.toNatClampNeg) ≤ x3_2 → po (some (.inl ((-1)))) I A) ∧ (¬ (A 25 a1.toNatClampNeg) ≤ x3_2 → ((shO0 I A a1 x3_2) ∧ ((¬ (shO I A a1 x3_2) = a2 → (Iv2 (x3_2 + 1) ∧ mu2 (x3_2 + 1) < mu2 x3_2)) ∧ ((shO I A a1 x3_2) = a2 → po (some (.inl x3_2)) I A)))))))) : Ct l yX6_spotOf cX6_spotOf 4 (some .int) 3 64 D ads shp [.inr (some 29), .inl a1, .inl a2] I A po := by
  refine Ct_of (by decide) (Nat.le_of_ble_eq_true rfl) ?_
  intro p e s m args below meth c hC hr
  replace hC : CX p s m args meth c cX6_spotOf 4 RX6 (AdS ads s.heap.size) := hC
  show Gm p l e s m args below meth c D ads 3 64 4 po I A 0 [some (.inr (some 29)), some (.inl a1), some (.inl a2), none] []
  refine g_blk hC _ bX6_spotOf_0_2 (pc' := 2) (ls' := [some (.inr (some 29)), some (.inl a1), some (.inl a2), some (.inl 0)]) (st' := []) (I' := I) rfl rfl ?_
  obtain ⟨hi2, hb2⟩ := hv
  have L2 : ∀ (n : Nat) (x3_2 : Int32), Iv2 x3_2 → mu2 x3_2 < n → Gm p l e s m args below meth c D ads 3 64 4 po I A 2 [some (.inr (some 29)), some (.inl a1), some (.inl a2), some (.inl x3_2)] [] := by
    intro n
    induction n with
    | zero => intro x3_2 _ hn; exact absurd hn (Nat.not_lt_zero _)
    | succ n ih2 =>
      intro x3_2 hv hn2
      replace hv := hb2 x3_2 hv
      skip
      refine g_blk hC _ bX6_spotOf_2_8 (pc' := 8) (ls' := [some (.inr (some 29)), some (.inl a1), some (.inl a2), some (.inl x3_2)]) (st' := [.inl a1, .inr (some 13), .inl x3_2]) (I' := I) rfl rfl ?_
      obtain ⟨hp1, hv⟩ := hv
      refine g_callV hC (c_X7_countIn l D ads I A a1 hp1) dX6_spotOf_8 nm_X7_countIn rfl rfl wl_X6_90 wi_X7_countIn ws_X7_countIn wn_X7 wc_X7_countIn ⟨by decide, by decide⟩ (as := [.inl a1]) (rest := [.inl x3_2]) rfl (Nat.le_of_ble_eq_true rfl) ⟨Nat.le_refl _, Nat.le_refl _⟩ (k_qI ?_)
      obtain ⟨hv1, hv2⟩ := hv
      refine g_cge hC dX6_spotOf_11 (tgt := 32) (by decide) (fun hc => ?_) (fun hc => ?_)
      · have hv := hv1 hc
        clear hv1 hv2 hc
        refine g_blk hC _ bX6_spotOf_32_33 (pc' := 33) (ls' := [some (.inr (some 29)), some (.inl a1), some (.inl a2), some (.inl x3_2)]) (st' := [.inl ((-1))]) (I' := I) rfl rfl ?_
        exact g_reti hC hr rfl dX6_spotOf_33 hv
      · have hv := hv2 hc
        clear hv1 hv2 hc
        refine g_blk hC _ bX6_spotOf_14_17 (pc' := 17) (ls' := [some (.inr (some 29)), some (.inl a1), some (.inl a2), some (.inl x3_2)]) (st' := [.inl x3_2, .inl a1, .inr (some 29)]) (I' := I) rfl rfl ?_
        obtain ⟨hp2, hv⟩ := hv
        refine g_callV hC (c_X6_shownAt l D ads I A a1 x3_2 hp2) dX6_spotOf_17 nm_X6_shownAt rfl rfl wl_X6_107 wi_X6_shownAt ws_X6_shownAt wn_X6 wc_X6_shownAt ⟨by decide, by decide⟩ (as := [.inl a1, .inl x3_2]) (rest := []) rfl (Nat.le_of_ble_eq_true rfl) ⟨Nat.le_refl _, Nat.le_refl _⟩ (k_qI ?_)
        refine g_blk hC _ bX6_spotOf_20_21 (pc' := 21) (ls' := [some (.inr (some 29)), some (.inl a1), some (.inl a2), some (.inl x3_2)]) (st' := [.inl a2, .inl (shO I A a1 x3_2)]) (I' := I) rfl rfl ?_
        obtain ⟨hv1, hv2⟩ := hv
        refine g_cne hC dX6_spotOf_21 (tgt := 26) (by decide) (fun hc => ?_) (fun hc => ?_)
        · have hv := hv1 hc
          clear hv1 hv2 hc
          refine g_blk hC _ bX6_spotOf_26_29 (pc' := 29) (ls' := [some (.inr (some 29)), some (.inl a1), some (.inl a2), some (.inl (x3_2 + 1))]) (st' := []) (I' := I) rfl rfl ?_
          refine g_goto hC dX6_spotOf_29 (tgt := 2) (by decide) ?_
          exact g_weak (ls1 := [some (.inr (some 29)), some (.inl a1), some (.inl a2), some (.inl (x3_2 + 1))]) rfl (And.intro rfl (And.intro rfl (And.intro rfl (And.intro rfl trivial)))) (ih2 (x3_2 + 1) hv.1 (Nat.lt_of_lt_of_le hv.2 (Nat.le_of_lt_succ hn2)))
        · have hv := hv2 hc
          clear hv1 hv2 hc
          refine g_blk hC _ bX6_spotOf_24_25 (pc' := 25) (ls' := [some (.inr (some 29)), some (.inl a1), some (.inl a2), some (.inl x3_2)]) (st' := [.inl x3_2]) (I' := I) rfl rfl ?_
          exact g_reti hC hr rfl dX6_spotOf_25 hv
  exact g_weak (ls1 := [some (.inr (some 29)), some (.inl a1), some (.inl a2), some (.inl 0)]) rfl (And.intro rfl (And.intro rfl (And.intro rfl (And.intro rfl trivial)))) (L2 _ 0 hi2 (Nat.lt_succ_self _))
set_option maxHeartbeats 4000000 in
set_option maxRecDepth 100000 in
theorem c_X6_spotOf (l : Launch) (D : va_G) (ads : AD) (I A : HI) (a1 : Int32) (a2 : Int32) (hp : spO0 I A a1) : Ct l yX6_spotOf cX6_spotOf 4 (some .int) 3 64 D ads shp [.inr (some 29), .inl a1, .inl a2] I A (qI (spO I A a1 a2) I A) := by
  sorry
theorem bX6_tryNext_0_2 : okB cX6_tryNext RX6 0 [(5, 0, 0, 0, 0), (3, 1, 0, 0, 0)] := And.intro ⟨_, dX6_tryNext_0, rfl⟩ (And.intro ⟨_, dX6_tryNext_1, rfl⟩ trivial)
theorem bX6_tryNext_8_14 : okB cX6_tryNext RX6 8 [(10, 4, 0, 0, 0), (5, 0, 0, 0, 0), (23, 65, 6, 3, 0)] := And.intro dX6_tryNext_8 (And.intro ⟨_, dX6_tryNext_10, rfl⟩ (And.intro ⟨dX6_tryNext_11, fl_X6_65⟩ trivial))
theorem bX6_tryNext_17_24 : okB cX6_tryNext RX6 17 [(10, 5, 0, 0, 0), (5, 0, 0, 0, 0), (23, 19, 6, 5, 0), (3, 1, 0, 0, 0)] := And.intro dX6_tryNext_17 (And.intro ⟨_, dX6_tryNext_19, rfl⟩ (And.intro ⟨dX6_tryNext_20, fl_X6_19⟩ (And.intro ⟨_, dX6_tryNext_23, rfl⟩ trivial)))
theorem bX6_tryNext_25_34 : okB cX6_tryNext RX6 25 [(10, 6, 0, 0, 0), (5, 0, 0, 0, 0), (23, 22, 6, 6, 0), (3, 1, 0, 0, 0), (0, 0, 0, 0, 1), (12, 0, 0, 0, 0)] := And.intro dX6_tryNext_25 (And.intro ⟨_, dX6_tryNext_27, rfl⟩ (And.intro ⟨dX6_tryNext_28, fl_X6_22⟩ (And.intro ⟨_, dX6_tryNext_31, rfl⟩ (And.intro ⟨_, dX6_tryNext_32, by decide⟩ (And.intro dX6_tryNext_33 trivial)))))
theorem bX6_tryNext_35_36 : okB cX6_tryNext RX6 35 [(3, 2, 0, 0, 0)] := And.intro ⟨_, dX6_tryNext_35, rfl⟩ trivial
theorem bX6_tryNext_37_43 : okB cX6_tryNext RX6 37 [(8, 7, 0, 0, 0), (5, 0, 0, 0, 0), (23, 65, 6, 3, 0)] := And.intro dX6_tryNext_37 (And.intro ⟨_, dX6_tryNext_39, rfl⟩ (And.intro ⟨dX6_tryNext_40, fl_X6_65⟩ trivial))
theorem bX6_tryNext_46_53 : okB cX6_tryNext RX6 46 [(5, 0, 0, 0, 0), (23, 19, 6, 5, 0), (3, 1, 0, 0, 0), (0, 0, 0, 0, 1), (12, 0, 0, 0, 0)] := And.intro ⟨_, dX6_tryNext_46, rfl⟩ (And.intro ⟨dX6_tryNext_47, fl_X6_19⟩ (And.intro ⟨_, dX6_tryNext_50, rfl⟩ (And.intro ⟨_, dX6_tryNext_51, by decide⟩ (And.intro dX6_tryNext_52 trivial))))
theorem bX6_tryNext_54_55 : okB cX6_tryNext RX6 54 [(3, 2, 0, 0, 0)] := And.intro ⟨_, dX6_tryNext_54, rfl⟩ trivial
theorem bX6_tryNext_56_62 : okB cX6_tryNext RX6 56 [(12, 0, 0, 0, 0), (8, 8, 0, 0, 0), (0, 0, 0, 0, 0), (8, 9, 0, 0, 0)] := And.intro dX6_tryNext_56 (And.intro dX6_tryNext_57 (And.intro ⟨_, dX6_tryNext_59, by decide⟩ (And.intro dX6_tryNext_60 trivial)))
theorem bX6_tryNext_62_66 : okB cX6_tryNext RX6 62 [(4, 9, 0, 0, 0), (6, 4, 0, 0, 0)] := And.intro dX6_tryNext_62 (And.intro dX6_tryNext_64 trivial)
theorem bX6_tryNext_70_72 : okB cX6_tryNext RX6 70 [(4, 9, 0, 0, 0)] := And.intro dX6_tryNext_70 trivial
theorem bX6_tryNext_88_94 : okB cX6_tryNext RX6 88 [(4, 8, 0, 0, 0), (6, 6, 0, 0, 0), (4, 9, 0, 0, 0)] := And.intro dX6_tryNext_88 (And.intro dX6_tryNext_90 (And.intro dX6_tryNext_92 trivial))
theorem bX6_tryNext_129_135 : okB cX6_tryNext RX6 129 [(4, 8, 0, 0, 0), (6, 6, 0, 0, 0), (4, 9, 0, 0, 0)] := And.intro dX6_tryNext_129 (And.intro dX6_tryNext_131 (And.intro dX6_tryNext_133 trivial))
theorem bX6_tryNext_184_187 : okB cX6_tryNext RX6 184 [(11, 9, 0, 0, 1)] := And.intro ⟨_, dX6_tryNext_184, by decide⟩ trivial
theorem bX6_tryNext_139_144 : okB cX6_tryNext RX6 139 [(5, 0, 0, 0, 0), (23, 22, 6, 6, 0), (3, 1, 0, 0, 0)] := And.intro ⟨_, dX6_tryNext_139, rfl⟩ (And.intro ⟨dX6_tryNext_140, fl_X6_22⟩ (And.intro ⟨_, dX6_tryNext_143, rfl⟩ trivial))
theorem bX6_tryNext_145_148 : okB cX6_tryNext RX6 145 [(4, 9, 0, 0, 0), (22, 0, 0, 0, 0)] := And.intro dX6_tryNext_145 (And.intro dX6_tryNext_147 trivial)
theorem bX6_tryNext_149_152 : okB cX6_tryNext RX6 149 [(4, 7, 0, 0, 0), (12, 0, 0, 0, 0)] := And.intro dX6_tryNext_149 (And.intro dX6_tryNext_151 trivial)
theorem bX6_tryNext_153_155 : okB cX6_tryNext RX6 153 [(5, 3, 0, 0, 0), (3, 2, 0, 0, 0)] := And.intro ⟨_, dX6_tryNext_153, rfl⟩ (And.intro ⟨_, dX6_tryNext_154, rfl⟩ trivial)
theorem bX6_tryNext_158_164 : okB cX6_tryNext RX6 158 [(5, 3, 0, 0, 0), (5, 0, 0, 0, 0), (23, 25, 6, 7, 0), (3, 1, 0, 0, 0)] := And.intro ⟨_, dX6_tryNext_158, rfl⟩ (And.intro ⟨_, dX6_tryNext_159, rfl⟩ (And.intro ⟨dX6_tryNext_160, fl_X6_25⟩ (And.intro ⟨_, dX6_tryNext_163, rfl⟩ trivial)))
theorem bX6_tryNext_165_167 : okB cX6_tryNext RX6 165 [(4, 9, 0, 0, 0)] := And.intro dX6_tryNext_165 trivial
theorem bX6_tryNext_174_179 : okB cX6_tryNext RX6 174 [(5, 0, 0, 0, 0), (23, 25, 6, 7, 0), (3, 1, 0, 0, 0)] := And.intro ⟨_, dX6_tryNext_174, rfl⟩ (And.intro ⟨dX6_tryNext_175, fl_X6_25⟩ (And.intro ⟨_, dX6_tryNext_178, rfl⟩ trivial))
theorem bX6_tryNext_180_183 : okB cX6_tryNext RX6 180 [(4, 9, 0, 0, 0), (3, 2, 0, 0, 0)] := And.intro dX6_tryNext_180 (And.intro ⟨_, dX6_tryNext_182, rfl⟩ trivial)
theorem bX6_tryNext_98_104 : okB cX6_tryNext RX6 98 [(6, 6, 0, 0, 0), (4, 9, 0, 0, 0), (4, 8, 0, 0, 0)] := And.intro dX6_tryNext_98 (And.intro dX6_tryNext_100 (And.intro dX6_tryNext_102 trivial))
theorem bX6_tryNext_105_110 : okB cX6_tryNext RX6 105 [(5, 0, 0, 0, 0), (23, 22, 6, 6, 0), (3, 1, 0, 0, 0)] := And.intro ⟨_, dX6_tryNext_105, rfl⟩ (And.intro ⟨dX6_tryNext_106, fl_X6_22⟩ (And.intro ⟨_, dX6_tryNext_109, rfl⟩ trivial))
theorem bX6_tryNext_111_115 : okB cX6_tryNext RX6 111 [(4, 9, 0, 0, 0), (4, 7, 0, 0, 0)] := And.intro dX6_tryNext_111 (And.intro dX6_tryNext_113 trivial)
theorem bX6_tryNext_116_121 : okB cX6_tryNext RX6 116 [(5, 0, 0, 0, 0), (23, 25, 6, 7, 0), (3, 1, 0, 0, 0)] := And.intro ⟨_, dX6_tryNext_116, rfl⟩ (And.intro ⟨dX6_tryNext_117, fl_X6_25⟩ (And.intro ⟨_, dX6_tryNext_120, rfl⟩ trivial))
theorem bX6_tryNext_122_125 : okB cX6_tryNext RX6 122 [(4, 9, 0, 0, 0), (3, 2, 0, 0, 0)] := And.intro dX6_tryNext_122 (And.intro ⟨_, dX6_tryNext_124, rfl⟩ trivial)
theorem bX6_tryNext_75_83 : okB cX6_tryNext RX6 75 [(4, 8, 0, 0, 0), (6, 5, 0, 0, 0), (6, 4, 0, 0, 0), (4, 9, 0, 0, 0)] := And.intro dX6_tryNext_75 (And.intro dX6_tryNext_77 (And.intro dX6_tryNext_79 (And.intro dX6_tryNext_81 trivial)))
theorem bX6_tryNext_85_94 : okB cX6_tryNext RX6 85 [(12, 0, 0, 0, 0), (8, 8, 0, 0, 0), (4, 8, 0, 0, 0), (6, 6, 0, 0, 0), (4, 9, 0, 0, 0)] := And.intro dX6_tryNext_85 (And.intro dX6_tryNext_86 (And.intro dX6_tryNext_88 (And.intro dX6_tryNext_90 (And.intro dX6_tryNext_92 trivial))))
set_option maxHeartbeats 4000000 in
set_option maxRecDepth 100000 in
theorem k_X6_tryNext (l : Launch) (D : va_G) (ads : AD) (I A : HI) (a1 : Int32) (a2 : Int32) (nn : Nat) (hnn : nn < 6) (po : Option AV → HI → HI → Prop) (Iv62 : Int32 → Int32 → HI → Prop) (mu62 : Int32 → Int32 → HI → Nat)
    (hv : ((vp_in a1 11 ∧ 0 ≤ A 25 a1.toNatClampNeg) ∧ (vp_in a1 11 ∧ (vp_in (a1 + 1) 11 ∧ (vp_in a2 120 ∧ (vp_in (a1 + 1) 11 ∧ (vp_in a2 120 ∧ (Iv62 ((I 68 5) + (A (32 + (a1 + 1).toNatClampNeg) a2.toNatClampNeg)) 0 A ∧ ∀ (x8_62 : Int32) (x9_62 : Int32) (A_62 : HI), Iv62 x8_62 x9_62 A_62 → (((Int32.ofNat (chN (((mnI (A 25 a1.toNatClampNeg) 5).toNatClampNeg)))) ≤ x9_62 → po none I A_62) ∧ (¬ (Int32.ofNat (chN (((mnI (A 25 a1.toNatClampNeg) 5).toNatClampNeg)))) ≤ x9_62 → ((x9_62 ≤ 0 → (vp_in x9_62 120 ∧ (((A_62 (32 + a1.toNatClampNeg) x9_62.toNatClampNeg) ≤ x8_62 → (vp_in x9_62 120 ∧ ((¬ x8_62 = (A_62 (32 + a1.toNatClampNeg) x9_62.toNatClampNeg) → (Iv62 x8_62 (x9_62 + 1) A_62 ∧ mu62 x8_62 (x9_62 + 1) A_62 < mu62 x8_62 x9_62 A_62)) ∧ (x8_62 = (A_62 (32 + a1.toNatClampNeg) x9_62.toNatClampNeg) → (vp_in a1 11 ∧ (vp_in x9_62 120 ∧ (vp_in x9_62 120 ∧ ((vp_in a2 (chN nn)) ∧ (vp_in a1 11 ∧ (vp_in x9_62 120 ∧ ((vp_in ((up2 A_62 (44 + a1.toNatClampNeg) x9_62.toNatClampNeg ((A_62 (44 + a1.toNatClampNeg) x9_62.toNatClampNeg) + (A (44 + (a1 + 1).toNatClampNeg) a2.toNatClampNeg))) (56 + a1.toNatClampNeg) x9_62.toNatClampNeg) (chN nn)) ∧ ((((up2 A_62 (44 + a1.toNatClampNeg) x9_62.toNatClampNeg ((A_62 (44 + a1.toNatClampNeg) x9_62.toNatClampNeg) + (A (44 + (a1 + 1).toNatClampNeg) a2.toNatClampNeg))) (74 + 4 * nn) ((up2 A_62 (44 + a1.toNatClampNeg) x9_62.toNatClampNeg ((A_62 (44 + a1.toNatClampNeg) x9_62.toNatClampNeg) + (A (44 + (a1 + 1).toNatClampNeg) a2.toNatClampNeg))) (56 + a1.toNatClampNeg) x9_62.toNatClampNeg).toNatClampNeg) ≤ ((up2 A_62 (44 + a1.toNatClampNeg) x9_62.toNatClampNeg ((A_62 (44 + a1.toNatClampNeg) x9_62.toNatClampNeg) + (A (44 + (a1 + 1).toNatClampNeg) a2.toNatClampNeg))) (74 + 4 * nn) a2.toNatClampNeg) → (Iv62 x8_62 (x9_62 + 1) (up2 A_62 (44 + a1.toNatClampNeg) x9_62.toNatClampNeg ((A_62 (44 + a1.toNatClampNeg) x9_62.toNatClampNeg) + (A (44 + (a1 + 1).toNatClampNeg) a2.toNatClampNeg))) ∧ mu62 x8_62 (x9_62 + 1) (up2 A_62 (44 + a1.toNatClampNeg) x9_62.toNatClampNeg ((A_62 (44 + a1.toNatClampNeg) x9_62.toNatClampNeg) + (A (44 + (a1 + 1).toNatClampNeg) a2.toNatClampNeg))) < mu62 x8_62 x9_62 A_62)) ∧ (¬ ((up2 A_62 (44 + a1.toNatClampNeg) x9_62.toNatClampNeg ((A_62 (44 + a1.toNatClampNeg) x9_62.toNatClampNeg) + (A (44 + (a1 + 1).toNatClampNeg) a2.toNatClampNeg))) (74 + 4 * nn) ((up2 A_62 (44 + a1.toNatClampNeg) x9_62.toNatClampNeg ((A_62 (44 + a1.toNatClampNeg) x9_62.toNatClampNeg) + (A (44 + (a1 + 1).toNatClampNeg) a2.toNatClampNeg))) (56 + a1.toNatClampNeg) x9_62.toNatClampNeg).toNatClampNeg) ≤ ((up2 A_62 (44 + a1.toNatClampNeg) x9_62.toNatClampNeg ((A_62 (44 + a1.toNatClampNeg) x9_62.toNatClampNeg) + (A (44 + (a1 + 1).toNatClampNeg) a2.toNatClampNeg))) (74 + 4 * nn) a2.toNatClampNeg) → (vp_in a1 11 ∧ (vp_in x9_62 120 ∧ (Iv62 x8_62 (x9_62 + 1) (up2 (up2 A_62 (44 + a1.toNatClampNeg) x9_62.toNatClampNeg ((A_62 (44 + a1.toNatClampNeg) x9_62.toNatClampNeg) + (A (44 + (a1 + 1).toNatClampNeg) a2.toNatClampNeg))) (56 + a1.toNatClampNeg) x9_62.toNatClampNeg a2) ∧ mu62 x8_62 (x9_62 + 1) (up2 (up2 A_62 (44 + a1.toNatClampNeg) x9_62.toNatClampNeg ((A_62 (44 + a1.toNatClampNeg) x9_62.toNatClampNeg) + (A (44 + (a1 + 1).toNatClampNeg) a2.toNatClampNeg))) (56 + a1.toNatClampNeg) x9_62.toNatClampNeg a2) < mu62 x8_62 x9_62 A_62)))))))))))))))) ∧ (¬ (A_62 (32 + a1.toNatClampNeg) x9_62.toNatClampNeg) ≤ x8_62 → (vp_in x9_62 120 ∧ (vp_in a1 11 ∧ (vp_in x9_62 120 ∧ (vp_in a1 11 ∧ (vp_in x9_62 120 ∧ (Iv62 x8_62 (x9_62 + 1) (up2 (up2 (up2 A_62 (32 + a1.toNatClampNeg) x9_62.toNatClampNeg x8_62) (44 + a1.toNatClampNeg) x9_62.toNatClampNeg (A (44 + (a1 + 1).toNatClampNeg) a2.toNatClampNeg)) (56 + a1.toNatClampNeg) x9_62.toNatClampNeg a2) ∧ mu62 x8_62 (x9_62 + 1) (up2 (up2 (up2 A_62 (32 + a1.toNatClampNeg) x9_62.toNatClampNeg x8_62) (44 + a1.toNatClampNeg) x9_62.toNatClampNeg (A (44 + (a1 + 1).toNatClampNeg) a2.toNatClampNeg)) (56 + a1.toNatClampNeg) x9_62.toNatClampNeg a2) < mu62 x8_62 x9_62 A_62)))))))))) ∧ (¬ x9_62 ≤ 0 → (vp_in x9_62 (chN (((mnI (A 25 a1.toNatClampNeg) 5).toNatClampNeg))) ∧ (vp_in (A_62 (73 + 4 * ((mnI (A 25 a1.toNatClampNeg) 5).toNatClampNeg)) x9_62.toNatClampNeg) 25 ∧ (vp_in x9_62 120 ∧ (((A_62 (32 + a1.toNatClampNeg) x9_62.toNatClampNeg) ≤ (x8_62 + (A_62 70 (A_62 (73 + 4 * ((mnI (A 25 a1.toNatClampNeg) 5).toNatClampNeg)) x9_62.toNatClampNeg).toNatClampNeg)) → (vp_in x9_62 120 ∧ ((¬ (x8_62 + (A_62 70 (A_62 (73 + 4 * ((mnI (A 25 a1.toNatClampNeg) 5).toNatClampNeg)) x9_62.toNatClampNeg).toNatClampNeg)) = (A_62 (32 + a1.toNatClampNeg) x9_62.toNatClampNeg) → (Iv62 (x8_62 + (A_62 70 (A_62 (73 + 4 * ((mnI (A 25 a1.toNatClampNeg) 5).toNatClampNeg)) x9_62.toNatClampNeg).toNatClampNeg)) (x9_62 + 1) A_62 ∧ mu62 (x8_62 + (A_62 70 (A_62 (73 + 4 * ((mnI (A 25 a1.toNatClampNeg) 5).toNatClampNeg)) x9_62.toNatClampNeg).toNatClampNeg)) (x9_62 + 1) A_62 < mu62 x8_62 x9_62 A_62)) ∧ ((x8_62 + (A_62 70 (A_62 (73 + 4 * ((mnI (A 25 a1.toNatClampNeg) 5).toNatClampNeg)) x9_62.toNatClampNeg).toNatClampNeg)) = (A_62 (32 + a1.toNatClampNeg) x9_62.toNatClampNeg) → (vp_in a1 11 ∧ (vp_in x9_62 120 ∧ (vp_in x9_62 120 ∧ ((vp_in a2 (chN nn)) ∧ (vp_in a1 11 ∧ (vp_in x9_62 120 ∧ ((vp_in ((up2 A_62 (44 + a1.toNatClampNeg) x9_62.toNatClampNeg ((A_62 (44 + a1.toNatClampNeg) x9_62.toNatClampNeg) + (A (44 + (a1 + 1).toNatClampNeg) a2.toNatClampNeg))) (56 + a1.toNatClampNeg) x9_62.toNatClampNeg) (chN nn)) ∧ ((((up2 A_62 (44 + a1.toNatClampNeg) x9_62.toNatClampNeg ((A_62 (44 + a1.toNatClampNeg) x9_62.toNatClampNeg) + (A (44 + (a1 + 1).toNatClampNeg) a2.toNatClampNeg))) (74 + 4 * nn) ((up2 A_62 (44 + a1.toNatClampNeg) x9_62.toNatClampNeg ((A_62 (44 + a1.toNatClampNeg) x9_62.toNatClampNeg) + (A (44 + (a1 + 1).toNatClampNeg) a2.toNatClampNeg))) (56 + a1.toNatClampNeg) x9_62.toNatClampNeg).toNatClampNeg) ≤ ((up2 A_62 (44 + a1.toNatClampNeg) x9_62.toNatClampNeg ((A_62 (44 + a1.toNatClampNeg) x9_62.toNatClampNeg) + (A (44 + (a1 + 1).toNatClampNeg) a2.toNatClampNeg))) (74 + 4 * nn) a2.toNatClampNeg) → (Iv62 (x8_62 + (A_62 70 (A_62 (73 + 4 * ((mnI (A 25 a1.toNatClampNeg) 5).toNatClampNeg)) x9_62.toNatClampNeg).toNatClampNeg)) (x9_62 + 1) (up2 A_62 (44 + a1.toNatClampNeg) x9_62.toNatClampNeg ((A_62 (44 + a1.toNatClampNeg) x9_62.toNatClampNeg) + (A (44 + (a1 + 1).toNatClampNeg) a2.toNatClampNeg))) ∧ mu62 (x8_62 + (A_62 70 (A_62 (73 + 4 * ((mnI (A 25 a1.toNatClampNeg) 5).toNatClampNeg)) x9_62.toNatClampNeg).toNatClampNeg)) (x9_62 + 1) (up2 A_62 (44 + a1.toNatClampNeg) x9_62.toNatClampNeg ((A_62 (44 + a1.toNatClampNeg) x9_62.toNatClampNeg) + (A (44 + (a1 + 1).toNatClampNeg) a2.toNatClampNeg))) < mu62 x8_62 x9_62 A_62)) ∧ (¬ ((up2 A_62 (44 + a1.toNatClampNeg) x9_62.toNatClampNeg ((A_62 (44 + a1.toNatClampNeg) x9_62.toNatClampNeg) + (A (44 + (a1 + 1).toNatClampNeg) a2.toNatClampNeg))) (74 + 4 * nn) ((up2 A_62 (44 + a1.toNatClampNeg) x9_62.toNatClampNeg ((A_62 (44 + a1.toNatClampNeg) x9_62.toNatClampNeg) + (A (44 + (a1 + 1).toNatClampNeg) a2.toNatClampNeg))) (56 + a1.toNatClampNeg) x9_62.toNatClampNeg).toNatClampNeg) ≤ ((up2 A_62 (44 + a1.toNatClampNeg) x9_62.toNatClampNeg ((A_62 (44 + a1.toNatClampNeg) x9_62.toNatClampNeg) + (A (44 + (a1 + 1).toNatClampNeg) a2.toNatClampNeg))) (74 + 4 * nn) a2.toNatClampNeg) → (vp_in a1 11 ∧ (vp_in x9_62 120 ∧ (Iv62 (x8_62 + (A_62 70 (A_62 (73 + 4 * ((mnI (A 25 a1.toNatClampNeg) 5).toNatClampNeg)) x9_62.toNatClampNeg).toNatClampNeg)) (x9_62 + 1) (up2 (up2 A_62 (44 + a1.toNatClampNeg) x9_62.toNatClampNeg ((A_62 (44 + a1.toNatClampNeg) x9_62.toNatClampNeg) + (A (44 + (a1 + 1).toNatClampNeg) a2.toNatClampNeg))) (56 + a1.toNatClampNeg) x9_62.toNatClampNeg a2) ∧ mu62 (x8_62 + (A_62 70 (A_62 (73 + 4 * ((mnI (A 25 a1.toNatClampNeg) 5).toNatClampNeg)) x9_62.toNatClampNeg).toNatClampNeg)) (x9_62 + 1) (up2 (up2 A_62 (44 + a1.toNatClampNeg) x9_62.toNatClampNeg ((A_62 (44 + a1.toNatClampNeg) x9_62.toNatClampNeg) + (A (44 + (a1 + 1).toNatClampNeg) a2.toNatClampNeg))) (56 + a1.toNatClampNeg) x9_62.toNatClampNeg a2) < mu62 x8_62 x9_62 A_62)))))))))))))))) ∧ (¬ (A_62 (32 + a1.toNatClampNeg) x9_62.toNatClampNeg) ≤ (x8_62 + (A_62 70 (A_62 (73 + 4 * ((mnI (A 25 a1.toNatClampNeg) 5).toNatClampNeg)) x9_62.toNatClampNeg).toNatClampNeg)) → (vp_in x9_62 120 ∧ (vp_in a1 11 ∧ (vp_in x9_62 120 ∧ (vp_in a1 11 ∧ (vp_in x9_62 120 ∧ (Iv62 (x8_62 + (A_62 70 (A_62 (73 + 4 * ((mnI (A 25 a1.toNatClampNeg) 5).toNatClampNeg)) x9_62.toNatClampNeg).toNatClampNeg)) (x9_62 + 1) (up2 (up2 (up2 A_62 (32 + a1.toNatClampNeg) x9_62.toNatClampNeg (x8_62 + (A_62 70 (A_62 (73 + 4 * ((mnI (A 25 a1.toNatClampNeg) 5).toNatClampNeg)) x9_62.toNatClampNeg).toNatClampNeg))) (44 + a1.toNatClampNeg) x9_62.toNatClampNeg (A (44 + (a1 + 1).toNatClampNeg) a2.toNatClampNeg)) (56 + a1.toNatClampNeg) x9_62.toNatClampNeg a2) ∧ mu62 (x8_62 + (A_62 70 (A_62 (73 + 4 * ((mnI (A 25 a1.toNatClampNeg) 5).toNatClampNeg)) x9_62.toNatClampNeg).toNatClampNeg)) (x9_62 + 1) (up2 (up2 (up2 A_62 (32 + a1.toNatClampNeg) x9_62.toNatClampNeg (x8_62 + (A_62 70 (A_62 (73 + 4 * ((mnI (A 25 a1.toNatClampNeg) 5).toNatClampNeg)) x9_62.toNatClampNeg).toNatClampNeg))) (44 + a1.toNatClampNeg) x9_62.toNatClampNeg (A (44 + (a1 + 1).toNatClampNeg) a2.toNatClampNeg)) (56 + a1.toNatClampNeg) x9_62.toNatClampNeg a2) < mu62 x8_62 x9_62 A_62))))))))))))))))))))))) : Ct l yX6_tryNext cX6_tryNext 10 none 2 42 D ads shp [.inr (some 29), .inl a1, .inl a2, .inr (some (71 + 4 * nn))] I A po := by
  refine Ct_of (by decide) (Nat.le_of_ble_eq_true rfl) ?_
  intro p e s m args below meth c hC hr
  replace hC : CX p s m args meth c cX6_tryNext 10 RX6 (AdS ads s.heap.size) := hC
  show Gm p l e s m args below meth c D ads 2 42 10 po I A 0 [some (.inr (some 29)), some (.inl a1), some (.inl a2), some (.inr (some (71 + 4 * nn))), none, none, none, none, none, none] []
  refine g_blk hC _ bX6_tryNext_0_2 (pc' := 2) (ls' := [some (.inr (some 29)), some (.inl a1), some (.inl a2), some (.inr (some (71 + 4 * nn))), none, none, none, none, none, none]) (st' := [.inl a1, .inr (some 29)]) (I' := I) rfl rfl ?_
  obtain ⟨hp1, hv⟩ := hv
  refine g_callV hC (c_X6_changesOf l D ads I A a1 hp1) dX6_tryNext_2 nm_X6_changesOf rfl rfl wl_X6_96 wi_X6_changesOf ws_X6_changesOf wn_X6 wc_X6_changesOf ⟨by decide, by decide⟩ (as := [.inl a1]) (rest := []) rfl (Nat.le_of_ble_eq_true rfl) ⟨Nat.le_refl _, Nat.le_refl _⟩ (k_qR ?_)
  obtain ⟨fs9, hs9⟩ := ch_sh (chO_lt hp1.2)
  refine g_callV hC (c_X0_exchanged l D ads I A ((mnI (A 25 a1.toNatClampNeg) 5).toNatClampNeg) (chO_lt hp1.2)) dX6_tryNext_5 nm_X0_exchanged hs9 rfl wl_X6_133 wi_X0_exchanged ws_X0_exchanged wn_X0 wc_X0_exchanged ⟨by decide, by decide⟩ (as := []) (rest := []) rfl (Nat.le_of_ble_eq_true rfl) ⟨Nat.le_refl _, Nat.le_refl _⟩ (k_qR ?_)
  refine g_blk hC _ bX6_tryNext_8_14 (pc' := 14) (ls' := [some (.inr (some 29)), some (.inl a1), some (.inl a2), some (.inr (some (71 + 4 * nn))), some (.inr (some (73 + 4 * ((mnI (A 25 a1.toNatClampNeg) 5).toNatClampNeg)))), none, none, none, none, none]) (st' := [.inr (some 68)]) (I' := I) rfl rfl ?_
  refine g_callV hC (c_X3_gains l D ads I A ) dX6_tryNext_14 nm_X3_gains rfl rfl wl_X6_144 wi_X3_gains ws_X3_gains wn_X3 wc_X3_gains ⟨by decide, by decide⟩ (as := []) (rest := []) rfl (Nat.le_of_ble_eq_true rfl) ⟨Nat.le_refl _, Nat.le_refl _⟩ (k_qR ?_)
  refine g_blk hC _ bX6_tryNext_17_24 (pc' := 24) (ls' := [some (.inr (some 29)), some (.inl a1), some (.inl a2), some (.inr (some (71 + 4 * nn))), some (.inr (some (73 + 4 * ((mnI (A 25 a1.toNatClampNeg) 5).toNatClampNeg)))), some (.inr (some 70)), none, none, none, none]) (st' := [.inl a1, .inr (some 31)]) (I' := I) rfl rfl ?_
  obtain ⟨hr4, hv⟩ := hv
  refine g_aald hC dX6_tryNext_24 (f := _) rfl hr4 (ra_31 (vin_lt hr4)) ?_
  refine g_blk hC _ bX6_tryNext_25_34 (pc' := 34) (ls' := [some (.inr (some 29)), some (.inl a1), some (.inl a2), some (.inr (some (71 + 4 * nn))), some (.inr (some (73 + 4 * ((mnI (A 25 a1.toNatClampNeg) 5).toNatClampNeg)))), some (.inr (some 70)), some (.inr (some (32 + a1.toNatClampNeg))), none, none, none]) (st' := [.inl (a1 + 1), .inr (some 43)]) (I' := I) rfl rfl ?_
  obtain ⟨hr5, hv⟩ := hv
  refine g_aald hC dX6_tryNext_34 (f := _) rfl hr5 (ra_43 (vin_lt hr5)) ?_
  refine g_blk hC _ bX6_tryNext_35_36 (pc' := 36) (ls' := [some (.inr (some 29)), some (.inl a1), some (.inl a2), some (.inr (some (71 + 4 * nn))), some (.inr (some (73 + 4 * ((mnI (A 25 a1.toNatClampNeg) 5).toNatClampNeg)))), some (.inr (some 70)), some (.inr (some (32 + a1.toNatClampNeg))), none, none, none]) (st' := [.inl a2, .inr (some (44 + (a1 + 1).toNatClampNeg))]) (I' := I) rfl rfl ?_
  obtain ⟨hi, hv⟩ := hv
  refine g_iald hC dX6_tryNext_36 (rw_43 (vin_lt hr5)) hi ?_
  clear hi
  refine g_blk hC _ bX6_tryNext_37_43 (pc' := 43) (ls' := [some (.inr (some 29)), some (.inl a1), some (.inl a2), some (.inr (some (71 + 4 * nn))), some (.inr (some (73 + 4 * ((mnI (A 25 a1.toNatClampNeg) 5).toNatClampNeg)))), some (.inr (some 70)), some (.inr (some (32 + a1.toNatClampNeg))), some (.inl (A (44 + (a1 + 1).toNatClampNeg) a2.toNatClampNeg)), none, none]) (st' := [.inr (some 68)]) (I' := I) rfl rfl ?_
  refine g_callV hC (c_X3_base l D ads I A ) dX6_tryNext_43 nm_X3_base rfl rfl wl_X6_147 wi_X3_base ws_X3_base wn_X3 wc_X3_base ⟨by decide, by decide⟩ (as := []) (rest := []) rfl (Nat.le_of_ble_eq_true rfl) ⟨Nat.le_refl _, Nat.le_refl _⟩ (k_qI ?_)
  refine g_blk hC _ bX6_tryNext_46_53 (pc' := 53) (ls' := [some (.inr (some 29)), some (.inl a1), some (.inl a2), some (.inr (some (71 + 4 * nn))), some (.inr (some (73 + 4 * ((mnI (A 25 a1.toNatClampNeg) 5).toNatClampNeg)))), some (.inr (some 70)), some (.inr (some (32 + a1.toNatClampNeg))), some (.inl (A (44 + (a1 + 1).toNatClampNeg) a2.toNatClampNeg)), none, none]) (st' := [.inl (a1 + 1), .inr (some 31), .inl (I 68 5)]) (I' := I) rfl rfl ?_
  obtain ⟨hr7, hv⟩ := hv
  refine g_aald hC dX6_tryNext_53 (f := _) rfl hr7 (ra_31 (vin_lt hr7)) ?_
  refine g_blk hC _ bX6_tryNext_54_55 (pc' := 55) (ls' := [some (.inr (some 29)), some (.inl a1), some (.inl a2), some (.inr (some (71 + 4 * nn))), some (.inr (some (73 + 4 * ((mnI (A 25 a1.toNatClampNeg) 5).toNatClampNeg)))), some (.inr (some 70)), some (.inr (some (32 + a1.toNatClampNeg))), some (.inl (A (44 + (a1 + 1).toNatClampNeg) a2.toNatClampNeg)), none, none]) (st' := [.inl a2, .inr (some (32 + (a1 + 1).toNatClampNeg)), .inl (I 68 5)]) (I' := I) rfl rfl ?_
  obtain ⟨hi, hv⟩ := hv
  refine g_iald hC dX6_tryNext_55 (rw_31 (vin_lt hr7)) hi ?_
  clear hi
  refine g_blk hC _ bX6_tryNext_56_62 (pc' := 62) (ls' := [some (.inr (some 29)), some (.inl a1), some (.inl a2), some (.inr (some (71 + 4 * nn))), some (.inr (some (73 + 4 * ((mnI (A 25 a1.toNatClampNeg) 5).toNatClampNeg)))), some (.inr (some 70)), some (.inr (some (32 + a1.toNatClampNeg))), some (.inl (A (44 + (a1 + 1).toNatClampNeg) a2.toNatClampNeg)), some (.inl ((I 68 5) + (A (32 + (a1 + 1).toNatClampNeg) a2.toNatClampNeg))), some (.inl 0)]) (st' := []) (I' := I) rfl rfl ?_
  obtain ⟨hi62, hb62⟩ := hv
  have L62 : ∀ (n : Nat) (x8_62 : Int32) (x9_62 : Int32) (A_62 : HI), Iv62 x8_62 x9_62 A_62 → mu62 x8_62 x9_62 A_62 < n → Gm p l e s m args below meth c D ads 2 42 10 po I A_62 62 [some (.inr (some 29)), some (.inl a1), some (.inl a2), some (.inr (some (71 + 4 * nn))), some (.inr (some (73 + 4 * ((mnI (A 25 a1.toNatClampNeg) 5).toNatClampNeg)))), some (.inr (some 70)), some (.inr (some (32 + a1.toNatClampNeg))), some (.inl (A (44 + (a1 + 1).toNatClampNeg) a2.toNatClampNeg)), some (.inl x8_62), some (.inl x9_62)] [] := by
    intro n
    induction n with
    | zero => intro x8_62 x9_62 A_62 _ hn; exact absurd hn (Nat.not_lt_zero _)
    | succ n ih62 =>
      intro x8_62 x9_62 A_62 hv hn62
      replace hv := hb62 x8_62 x9_62 A_62 hv
      skip
      refine g_blk hC _ bX6_tryNext_62_66 (pc' := 66) (ls' := [some (.inr (some 29)), some (.inl a1), some (.inl a2), some (.inr (some (71 + 4 * nn))), some (.inr (some (73 + 4 * ((mnI (A 25 a1.toNatClampNeg) 5).toNatClampNeg)))), some (.inr (some 70)), some (.inr (some (32 + a1.toNatClampNeg))), some (.inl (A (44 + (a1 + 1).toNatClampNeg) a2.toNatClampNeg)), some (.inl x8_62), some (.inl x9_62)]) (st' := [.inr (some (73 + 4 * ((mnI (A 25 a1.toNatClampNeg) 5).toNatClampNeg))), .inl x9_62]) (I' := I) rfl rfl ?_
      refine g_alen hC dX6_tryNext_66 (ex_sh ((chO_lt hp1.2))) ?_
      obtain ⟨hv1, hv2⟩ := hv
      refine g_cge hC dX6_tryNext_67 (tgt := 190) (by decide) (fun hc => ?_) (fun hc => ?_)
      · have hv := hv1 hc
        clear hv1 hv2 hc
        exact g_retv hC hr dX6_tryNext_190 hv
      · have hv := hv2 hc
        clear hv1 hv2 hc
        refine g_blk hC _ bX6_tryNext_70_72 (pc' := 72) (ls' := [some (.inr (some 29)), some (.inl a1), some (.inl a2), some (.inr (some (71 + 4 * nn))), some (.inr (some (73 + 4 * ((mnI (A 25 a1.toNatClampNeg) 5).toNatClampNeg)))), some (.inr (some 70)), some (.inr (some (32 + a1.toNatClampNeg))), some (.inl (A (44 + (a1 + 1).toNatClampNeg) a2.toNatClampNeg)), some (.inl x8_62), some (.inl x9_62)]) (st' := [.inl x9_62]) (I' := I) rfl rfl ?_
        obtain ⟨hv1, hv2⟩ := hv
        refine g_ifle hC dX6_tryNext_72 (tgt := 88) (by decide) (fun hc => ?_) (fun hc => ?_)
        · have hv := hv1 hc
          clear hv1 hv2 hc
          refine g_blk hC _ bX6_tryNext_88_94 (pc' := 94) (ls' := [some (.inr (some 29)), some (.inl a1), some (.inl a2), some (.inr (some (71 + 4 * nn))), some (.inr (some (73 + 4 * ((mnI (A 25 a1.toNatClampNeg) 5).toNatClampNeg)))), some (.inr (some 70)), some (.inr (some (32 + a1.toNatClampNeg))), some (.inl (A (44 + (a1 + 1).toNatClampNeg) a2.toNatClampNeg)), some (.inl x8_62), some (.inl x9_62)]) (st' := [.inl x9_62, .inr (some (32 + a1.toNatClampNeg)), .inl x8_62]) (I' := I) rfl rfl ?_
          obtain ⟨hi, hv⟩ := hv
          refine g_iald hC dX6_tryNext_94 (rw_31 (vin_lt hr4)) hi ?_
          clear hi
          obtain ⟨hv1, hv2⟩ := hv
          refine g_cge hC dX6_tryNext_95 (tgt := 129) (by decide) (fun hc => ?_) (fun hc => ?_)
          · have hv := hv1 hc
            clear hv1 hv2 hc
            refine g_blk hC _ bX6_tryNext_129_135 (pc' := 135) (ls' := [some (.inr (some 29)), some (.inl a1), some (.inl a2), some (.inr (some (71 + 4 * nn))), some (.inr (some (73 + 4 * ((mnI (A 25 a1.toNatClampNeg) 5).toNatClampNeg)))), some (.inr (some 70)), some (.inr (some (32 + a1.toNatClampNeg))), some (.inl (A (44 + (a1 + 1).toNatClampNeg) a2.toNatClampNeg)), some (.inl x8_62), some (.inl x9_62)]) (st' := [.inl x9_62, .inr (some (32 + a1.toNatClampNeg)), .inl x8_62]) (I' := I) rfl rfl ?_
            obtain ⟨hi, hv⟩ := hv
            refine g_iald hC dX6_tryNext_135 (rw_31 (vin_lt hr4)) hi ?_
            clear hi
            obtain ⟨hv1, hv2⟩ := hv
            refine g_cne hC dX6_tryNext_136 (tgt := 184) (by decide) (fun hc => ?_) (fun hc => ?_)
            · have hv := hv1 hc
              clear hv1 hv2 hc
              refine g_blk hC _ bX6_tryNext_184_187 (pc' := 187) (ls' := [some (.inr (some 29)), some (.inl a1), some (.inl a2), some (.inr (some (71 + 4 * nn))), some (.inr (some (73 + 4 * ((mnI (A 25 a1.toNatClampNeg) 5).toNatClampNeg)))), some (.inr (some 70)), some (.inr (some (32 + a1.toNatClampNeg))), some (.inl (A (44 + (a1 + 1).toNatClampNeg) a2.toNatClampNeg)), some (.inl x8_62), some (.inl (x9_62 + 1))]) (st' := []) (I' := I) rfl rfl ?_
              refine g_goto hC dX6_tryNext_187 (tgt := 62) (by decide) ?_
              exact g_weak (ls1 := [some (.inr (some 29)), some (.inl a1), some (.inl a2), some (.inr (some (71 + 4 * nn))), some (.inr (some (73 + 4 * ((mnI (A 25 a1.toNatClampNeg) 5).toNatClampNeg)))), some (.inr (some 70)), some (.inr (some (32 + a1.toNatClampNeg))), some (.inl (A (44 + (a1 + 1).toNatClampNeg) a2.toNatClampNeg)), some (.inl x8_62), some (.inl (x9_62 + 1))]) rfl (And.intro rfl (And.intro rfl (And.intro rfl (And.intro rfl (And.intro rfl (And.intro rfl (And.intro rfl (And.intro rfl (And.intro rfl (And.intro rfl trivial)))))))))) (ih62 x8_62 (x9_62 + 1) A_62 hv.1 (Nat.lt_of_lt_of_le hv.2 (Nat.le_of_lt_succ hn62)))
            · have hv := hv2 hc
              clear hv1 hv2 hc
              refine g_blk hC _ bX6_tryNext_139_144 (pc' := 144) (ls' := [some (.inr (some 29)), some (.inl a1), some (.inl a2), some (.inr (some (71 + 4 * nn))), some (.inr (some (73 + 4 * ((mnI (A 25 a1.toNatClampNeg) 5).toNatClampNeg)))), some (.inr (some 70)), some (.inr (some (32 + a1.toNatClampNeg))), some (.inl (A (44 + (a1 + 1).toNatClampNeg) a2.toNatClampNeg)), some (.inl x8_62), some (.inl x9_62)]) (st' := [.inl a1, .inr (some 43)]) (I' := I) rfl rfl ?_
              obtain ⟨hr8, hv⟩ := hv
              refine g_aald hC dX6_tryNext_144 (f := _) rfl hr8 (ra_43 (vin_lt hr8)) ?_
              refine g_blk hC _ bX6_tryNext_145_148 (pc' := 148) (ls' := [some (.inr (some 29)), some (.inl a1), some (.inl a2), some (.inr (some (71 + 4 * nn))), some (.inr (some (73 + 4 * ((mnI (A 25 a1.toNatClampNeg) 5).toNatClampNeg)))), some (.inr (some 70)), some (.inr (some (32 + a1.toNatClampNeg))), some (.inl (A (44 + (a1 + 1).toNatClampNeg) a2.toNatClampNeg)), some (.inl x8_62), some (.inl x9_62)]) (st' := [.inl x9_62, .inr (some (44 + a1.toNatClampNeg)), .inl x9_62, .inr (some (44 + a1.toNatClampNeg))]) (I' := I) rfl rfl ?_
              obtain ⟨hi, hv⟩ := hv
              refine g_iald hC dX6_tryNext_148 (rw_43 (vin_lt hr8)) hi ?_
              clear hi
              refine g_blk hC _ bX6_tryNext_149_152 (pc' := 152) (ls' := [some (.inr (some 29)), some (.inl a1), some (.inl a2), some (.inr (some (71 + 4 * nn))), some (.inr (some (73 + 4 * ((mnI (A 25 a1.toNatClampNeg) 5).toNatClampNeg)))), some (.inr (some 70)), some (.inr (some (32 + a1.toNatClampNeg))), some (.inl (A (44 + (a1 + 1).toNatClampNeg) a2.toNatClampNeg)), some (.inl x8_62), some (.inl x9_62)]) (st' := [.inl ((A_62 (44 + a1.toNatClampNeg) x9_62.toNatClampNeg) + (A (44 + (a1 + 1).toNatClampNeg) a2.toNatClampNeg)), .inl x9_62, .inr (some (44 + a1.toNatClampNeg))]) (I' := I) rfl rfl ?_
              obtain ⟨hi, hv⟩ := hv
              refine g_iast hC dX6_tryNext_152 (rw_43 (vin_lt hr8)) hi ?_
              clear hi
              refine g_blk hC _ bX6_tryNext_153_155 (pc' := 155) (ls' := [some (.inr (some 29)), some (.inl a1), some (.inl a2), some (.inr (some (71 + 4 * nn))), some (.inr (some (73 + 4 * ((mnI (A 25 a1.toNatClampNeg) 5).toNatClampNeg)))), some (.inr (some 70)), some (.inr (some (32 + a1.toNatClampNeg))), some (.inl (A (44 + (a1 + 1).toNatClampNeg) a2.toNatClampNeg)), some (.inl x8_62), some (.inl x9_62)]) (st' := [.inl a2, .inr (some (71 + 4 * nn))]) (I' := I) rfl rfl ?_
              obtain ⟨hp9, hv⟩ := hv
              obtain ⟨fs9, hs9⟩ := ch_sh hnn
              refine g_callV hC (c_X0_rankAt l D ads I (up2 A_62 (44 + a1.toNatClampNeg) x9_62.toNatClampNeg ((A_62 (44 + a1.toNatClampNeg) x9_62.toNatClampNeg) + (A (44 + (a1 + 1).toNatClampNeg) a2.toNatClampNeg))) nn a2 hnn hp9) dX6_tryNext_155 nm_X0_rankAt hs9 rfl wl_X6_150 wi_X0_rankAt ws_X0_rankAt wn_X0 wc_X0_rankAt ⟨by decide, by decide⟩ (as := [.inl a2]) (rest := []) rfl (Nat.le_of_ble_eq_true rfl) ⟨Nat.le_refl _, Nat.le_refl _⟩ (k_qI ?_)
              refine g_blk hC _ bX6_tryNext_158_164 (pc' := 164) (ls' := [some (.inr (some 29)), some (.inl a1), some (.inl a2), some (.inr (some (71 + 4 * nn))), some (.inr (some (73 + 4 * ((mnI (A 25 a1.toNatClampNeg) 5).toNatClampNeg)))), some (.inr (some 70)), some (.inr (some (32 + a1.toNatClampNeg))), some (.inl (A (44 + (a1 + 1).toNatClampNeg) a2.toNatClampNeg)), some (.inl x8_62), some (.inl x9_62)]) (st' := [.inl a1, .inr (some 55), .inr (some (71 + 4 * nn)), .inl ((up2 A_62 (44 + a1.toNatClampNeg) x9_62.toNatClampNeg ((A_62 (44 + a1.toNatClampNeg) x9_62.toNatClampNeg) + (A (44 + (a1 + 1).toNatClampNeg) a2.toNatClampNeg))) (74 + 4 * nn) a2.toNatClampNeg)]) (I' := I) rfl rfl ?_
              obtain ⟨hr10, hv⟩ := hv
              refine g_aald hC dX6_tryNext_164 (f := _) rfl hr10 (ra_55 (vin_lt hr10)) ?_
              refine g_blk hC _ bX6_tryNext_165_167 (pc' := 167) (ls' := [some (.inr (some 29)), some (.inl a1), some (.inl a2), some (.inr (some (71 + 4 * nn))), some (.inr (some (73 + 4 * ((mnI (A 25 a1.toNatClampNeg) 5).toNatClampNeg)))), some (.inr (some 70)), some (.inr (some (32 + a1.toNatClampNeg))), some (.inl (A (44 + (a1 + 1).toNatClampNeg) a2.toNatClampNeg)), some (.inl x8_62), some (.inl x9_62)]) (st' := [.inl x9_62, .inr (some (56 + a1.toNatClampNeg)), .inr (some (71 + 4 * nn)), .inl ((up2 A_62 (44 + a1.toNatClampNeg) x9_62.toNatClampNeg ((A_62 (44 + a1.toNatClampNeg) x9_62.toNatClampNeg) + (A (44 + (a1 + 1).toNatClampNeg) a2.toNatClampNeg))) (74 + 4 * nn) a2.toNatClampNeg)]) (I' := I) rfl rfl ?_
              obtain ⟨hi, hv⟩ := hv
              refine g_iald hC dX6_tryNext_167 (rw_55 (vin_lt hr10)) hi ?_
              clear hi
              obtain ⟨hp11, hv⟩ := hv
              obtain ⟨fs9, hs9⟩ := ch_sh hnn
              refine g_callV hC (c_X0_rankAt l D ads I (up2 A_62 (44 + a1.toNatClampNeg) x9_62.toNatClampNeg ((A_62 (44 + a1.toNatClampNeg) x9_62.toNatClampNeg) + (A (44 + (a1 + 1).toNatClampNeg) a2.toNatClampNeg))) nn ((up2 A_62 (44 + a1.toNatClampNeg) x9_62.toNatClampNeg ((A_62 (44 + a1.toNatClampNeg) x9_62.toNatClampNeg) + (A (44 + (a1 + 1).toNatClampNeg) a2.toNatClampNeg))) (56 + a1.toNatClampNeg) x9_62.toNatClampNeg) hnn hp11) dX6_tryNext_168 nm_X0_rankAt hs9 rfl wl_X6_150 wi_X0_rankAt ws_X0_rankAt wn_X0 wc_X0_rankAt ⟨by decide, by decide⟩ (as := [.inl ((up2 A_62 (44 + a1.toNatClampNeg) x9_62.toNatClampNeg ((A_62 (44 + a1.toNatClampNeg) x9_62.toNatClampNeg) + (A (44 + (a1 + 1).toNatClampNeg) a2.toNatClampNeg))) (56 + a1.toNatClampNeg) x9_62.toNatClampNeg)]) (rest := [.inl ((up2 A_62 (44 + a1.toNatClampNeg) x9_62.toNatClampNeg ((A_62 (44 + a1.toNatClampNeg) x9_62.toNatClampNeg) + (A (44 + (a1 + 1).toNatClampNeg) a2.toNatClampNeg))) (74 + 4 * nn) a2.toNatClampNeg)]) rfl (Nat.le_of_ble_eq_true rfl) ⟨Nat.le_refl _, Nat.le_refl _⟩ (k_qI ?_)
              obtain ⟨hv1, hv2⟩ := hv
              refine g_cge hC dX6_tryNext_171 (tgt := 184) (by decide) (fun hc => ?_) (fun hc => ?_)
              · have hv := hv1 hc
                clear hv1 hv2 hc
                refine g_blk hC _ bX6_tryNext_184_187 (pc' := 187) (ls' := [some (.inr (some 29)), some (.inl a1), some (.inl a2), some (.inr (some (71 + 4 * nn))), some (.inr (some (73 + 4 * ((mnI (A 25 a1.toNatClampNeg) 5).toNatClampNeg)))), some (.inr (some 70)), some (.inr (some (32 + a1.toNatClampNeg))), some (.inl (A (44 + (a1 + 1).toNatClampNeg) a2.toNatClampNeg)), some (.inl x8_62), some (.inl (x9_62 + 1))]) (st' := []) (I' := I) rfl rfl ?_
                refine g_goto hC dX6_tryNext_187 (tgt := 62) (by decide) ?_
                exact g_weak (ls1 := [some (.inr (some 29)), some (.inl a1), some (.inl a2), some (.inr (some (71 + 4 * nn))), some (.inr (some (73 + 4 * ((mnI (A 25 a1.toNatClampNeg) 5).toNatClampNeg)))), some (.inr (some 70)), some (.inr (some (32 + a1.toNatClampNeg))), some (.inl (A (44 + (a1 + 1).toNatClampNeg) a2.toNatClampNeg)), some (.inl x8_62), some (.inl (x9_62 + 1))]) rfl (And.intro rfl (And.intro rfl (And.intro rfl (And.intro rfl (And.intro rfl (And.intro rfl (And.intro rfl (And.intro rfl (And.intro rfl (And.intro rfl trivial)))))))))) (ih62 x8_62 (x9_62 + 1) (up2 A_62 (44 + a1.toNatClampNeg) x9_62.toNatClampNeg ((A_62 (44 + a1.toNatClampNeg) x9_62.toNatClampNeg) + (A (44 + (a1 + 1).toNatClampNeg) a2.toNatClampNeg))) hv.1 (Nat.lt_of_lt_of_le hv.2 (Nat.le_of_lt_succ hn62)))
              · have hv := hv2 hc
                clear hv1 hv2 hc
                refine g_blk hC _ bX6_tryNext_174_179 (pc' := 179) (ls' := [some (.inr (some 29)), some (.inl a1), some (.inl a2), some (.inr (some (71 + 4 * nn))), some (.inr (some (73 + 4 * ((mnI (A 25 a1.toNatClampNeg) 5).toNatClampNeg)))), some (.inr (some 70)), some (.inr (some (32 + a1.toNatClampNeg))), some (.inl (A (44 + (a1 + 1).toNatClampNeg) a2.toNatClampNeg)), some (.inl x8_62), some (.inl x9_62)]) (st' := [.inl a1, .inr (some 55)]) (I' := I) rfl rfl ?_
                obtain ⟨hr12, hv⟩ := hv
                refine g_aald hC dX6_tryNext_179 (f := _) rfl hr12 (ra_55 (vin_lt hr12)) ?_
                refine g_blk hC _ bX6_tryNext_180_183 (pc' := 183) (ls' := [some (.inr (some 29)), some (.inl a1), some (.inl a2), some (.inr (some (71 + 4 * nn))), some (.inr (some (73 + 4 * ((mnI (A 25 a1.toNatClampNeg) 5).toNatClampNeg)))), some (.inr (some 70)), some (.inr (some (32 + a1.toNatClampNeg))), some (.inl (A (44 + (a1 + 1).toNatClampNeg) a2.toNatClampNeg)), some (.inl x8_62), some (.inl x9_62)]) (st' := [.inl a2, .inl x9_62, .inr (some (56 + a1.toNatClampNeg))]) (I' := I) rfl rfl ?_
                obtain ⟨hi, hv⟩ := hv
                refine g_iast hC dX6_tryNext_183 (rw_55 (vin_lt hr12)) hi ?_
                clear hi
                refine g_blk hC _ bX6_tryNext_184_187 (pc' := 187) (ls' := [some (.inr (some 29)), some (.inl a1), some (.inl a2), some (.inr (some (71 + 4 * nn))), some (.inr (some (73 + 4 * ((mnI (A 25 a1.toNatClampNeg) 5).toNatClampNeg)))), some (.inr (some 70)), some (.inr (some (32 + a1.toNatClampNeg))), some (.inl (A (44 + (a1 + 1).toNatClampNeg) a2.toNatClampNeg)), some (.inl x8_62), some (.inl (x9_62 + 1))]) (st' := []) (I' := I) rfl rfl ?_
                refine g_goto hC dX6_tryNext_187 (tgt := 62) (by decide) ?_
                exact g_weak (ls1 := [some (.inr (some 29)), some (.inl a1), some (.inl a2), some (.inr (some (71 + 4 * nn))), some (.inr (some (73 + 4 * ((mnI (A 25 a1.toNatClampNeg) 5).toNatClampNeg)))), some (.inr (some 70)), some (.inr (some (32 + a1.toNatClampNeg))), some (.inl (A (44 + (a1 + 1).toNatClampNeg) a2.toNatClampNeg)), some (.inl x8_62), some (.inl (x9_62 + 1))]) rfl (And.intro rfl (And.intro rfl (And.intro rfl (And.intro rfl (And.intro rfl (And.intro rfl (And.intro rfl (And.intro rfl (And.intro rfl (And.intro rfl trivial)))))))))) (ih62 x8_62 (x9_62 + 1) (up2 (up2 A_62 (44 + a1.toNatClampNeg) x9_62.toNatClampNeg ((A_62 (44 + a1.toNatClampNeg) x9_62.toNatClampNeg) + (A (44 + (a1 + 1).toNatClampNeg) a2.toNatClampNeg))) (56 + a1.toNatClampNeg) x9_62.toNatClampNeg a2) hv.1 (Nat.lt_of_lt_of_le hv.2 (Nat.le_of_lt_succ hn62)))
          · have hv := hv2 hc
            clear hv1 hv2 hc
            refine g_blk hC _ bX6_tryNext_98_104 (pc' := 104) (ls' := [some (.inr (some 29)), some (.inl a1), some (.inl a2), some (.inr (some (71 + 4 * nn))), some (.inr (some (73 + 4 * ((mnI (A 25 a1.toNatClampNeg) 5).toNatClampNeg)))), some (.inr (some 70)), some (.inr (some (32 + a1.toNatClampNeg))), some (.inl (A (44 + (a1 + 1).toNatClampNeg) a2.toNatClampNeg)), some (.inl x8_62), some (.inl x9_62)]) (st' := [.inl x8_62, .inl x9_62, .inr (some (32 + a1.toNatClampNeg))]) (I' := I) rfl rfl ?_
            obtain ⟨hi, hv⟩ := hv
            refine g_iast hC dX6_tryNext_104 (rw_31 (vin_lt hr4)) hi ?_
            clear hi
            refine g_blk hC _ bX6_tryNext_105_110 (pc' := 110) (ls' := [some (.inr (some 29)), some (.inl a1), some (.inl a2), some (.inr (some (71 + 4 * nn))), some (.inr (some (73 + 4 * ((mnI (A 25 a1.toNatClampNeg) 5).toNatClampNeg)))), some (.inr (some 70)), some (.inr (some (32 + a1.toNatClampNeg))), some (.inl (A (44 + (a1 + 1).toNatClampNeg) a2.toNatClampNeg)), some (.inl x8_62), some (.inl x9_62)]) (st' := [.inl a1, .inr (some 43)]) (I' := I) rfl rfl ?_
            obtain ⟨hr13, hv⟩ := hv
            refine g_aald hC dX6_tryNext_110 (f := _) rfl hr13 (ra_43 (vin_lt hr13)) ?_
            refine g_blk hC _ bX6_tryNext_111_115 (pc' := 115) (ls' := [some (.inr (some 29)), some (.inl a1), some (.inl a2), some (.inr (some (71 + 4 * nn))), some (.inr (some (73 + 4 * ((mnI (A 25 a1.toNatClampNeg) 5).toNatClampNeg)))), some (.inr (some 70)), some (.inr (some (32 + a1.toNatClampNeg))), some (.inl (A (44 + (a1 + 1).toNatClampNeg) a2.toNatClampNeg)), some (.inl x8_62), some (.inl x9_62)]) (st' := [.inl (A (44 + (a1 + 1).toNatClampNeg) a2.toNatClampNeg), .inl x9_62, .inr (some (44 + a1.toNatClampNeg))]) (I' := I) rfl rfl ?_
            obtain ⟨hi, hv⟩ := hv
            refine g_iast hC dX6_tryNext_115 (rw_43 (vin_lt hr13)) hi ?_
            clear hi
            refine g_blk hC _ bX6_tryNext_116_121 (pc' := 121) (ls' := [some (.inr (some 29)), some (.inl a1), some (.inl a2), some (.inr (some (71 + 4 * nn))), some (.inr (some (73 + 4 * ((mnI (A 25 a1.toNatClampNeg) 5).toNatClampNeg)))), some (.inr (some 70)), some (.inr (some (32 + a1.toNatClampNeg))), some (.inl (A (44 + (a1 + 1).toNatClampNeg) a2.toNatClampNeg)), some (.inl x8_62), some (.inl x9_62)]) (st' := [.inl a1, .inr (some 55)]) (I' := I) rfl rfl ?_
            obtain ⟨hr14, hv⟩ := hv
            refine g_aald hC dX6_tryNext_121 (f := _) rfl hr14 (ra_55 (vin_lt hr14)) ?_
            refine g_blk hC _ bX6_tryNext_122_125 (pc' := 125) (ls' := [some (.inr (some 29)), some (.inl a1), some (.inl a2), some (.inr (some (71 + 4 * nn))), some (.inr (some (73 + 4 * ((mnI (A 25 a1.toNatClampNeg) 5).toNatClampNeg)))), some (.inr (some 70)), some (.inr (some (32 + a1.toNatClampNeg))), some (.inl (A (44 + (a1 + 1).toNatClampNeg) a2.toNatClampNeg)), some (.inl x8_62), some (.inl x9_62)]) (st' := [.inl a2, .inl x9_62, .inr (some (56 + a1.toNatClampNeg))]) (I' := I) rfl rfl ?_
            obtain ⟨hi, hv⟩ := hv
            refine g_iast hC dX6_tryNext_125 (rw_55 (vin_lt hr14)) hi ?_
            clear hi
            refine g_goto hC dX6_tryNext_126 (tgt := 184) (by decide) ?_
            refine g_blk hC _ bX6_tryNext_184_187 (pc' := 187) (ls' := [some (.inr (some 29)), some (.inl a1), some (.inl a2), some (.inr (some (71 + 4 * nn))), some (.inr (some (73 + 4 * ((mnI (A 25 a1.toNatClampNeg) 5).toNatClampNeg)))), some (.inr (some 70)), some (.inr (some (32 + a1.toNatClampNeg))), some (.inl (A (44 + (a1 + 1).toNatClampNeg) a2.toNatClampNeg)), some (.inl x8_62), some (.inl (x9_62 + 1))]) (st' := []) (I' := I) rfl rfl ?_
            refine g_goto hC dX6_tryNext_187 (tgt := 62) (by decide) ?_
            exact g_weak (ls1 := [some (.inr (some 29)), some (.inl a1), some (.inl a2), some (.inr (some (71 + 4 * nn))), some (.inr (some (73 + 4 * ((mnI (A 25 a1.toNatClampNeg) 5).toNatClampNeg)))), some (.inr (some 70)), some (.inr (some (32 + a1.toNatClampNeg))), some (.inl (A (44 + (a1 + 1).toNatClampNeg) a2.toNatClampNeg)), some (.inl x8_62), some (.inl (x9_62 + 1))]) rfl (And.intro rfl (And.intro rfl (And.intro rfl (And.intro rfl (And.intro rfl (And.intro rfl (And.intro rfl (And.intro rfl (And.intro rfl (And.intro rfl trivial)))))))))) (ih62 x8_62 (x9_62 + 1) (up2 (up2 (up2 A_62 (32 + a1.toNatClampNeg) x9_62.toNatClampNeg x8_62) (44 + a1.toNatClampNeg) x9_62.toNatClampNeg (A (44 + (a1 + 1).toNatClampNeg) a2.toNatClampNeg)) (56 + a1.toNatClampNeg) x9_62.toNatClampNeg a2) hv.1 (Nat.lt_of_lt_of_le hv.2 (Nat.le_of_lt_succ hn62)))
        · have hv := hv2 hc
          clear hv1 hv2 hc
          refine g_blk hC _ bX6_tryNext_75_83 (pc' := 83) (ls' := [some (.inr (some 29)), some (.inl a1), some (.inl a2), some (.inr (some (71 + 4 * nn))), some (.inr (some (73 + 4 * ((mnI (A 25 a1.toNatClampNeg) 5).toNatClampNeg)))), some (.inr (some 70)), some (.inr (some (32 + a1.toNatClampNeg))), some (.inl (A (44 + (a1 + 1).toNatClampNeg) a2.toNatClampNeg)), some (.inl x8_62), some (.inl x9_62)]) (st' := [.inl x9_62, .inr (some (73 + 4 * ((mnI (A 25 a1.toNatClampNeg) 5).toNatClampNeg))), .inr (some 70), .inl x8_62]) (I' := I) rfl rfl ?_
          obtain ⟨hi, hv⟩ := hv
          refine g_iald hC dX6_tryNext_83 (ex_sh ((chO_lt hp1.2))) hi ?_
          clear hi
          obtain ⟨hi, hv⟩ := hv
          refine g_iald hC dX6_tryNext_84 (rfl) hi ?_
          clear hi
          refine g_blk hC _ bX6_tryNext_85_94 (pc' := 94) (ls' := [some (.inr (some 29)), some (.inl a1), some (.inl a2), some (.inr (some (71 + 4 * nn))), some (.inr (some (73 + 4 * ((mnI (A 25 a1.toNatClampNeg) 5).toNatClampNeg)))), some (.inr (some 70)), some (.inr (some (32 + a1.toNatClampNeg))), some (.inl (A (44 + (a1 + 1).toNatClampNeg) a2.toNatClampNeg)), some (.inl (x8_62 + (A_62 70 (A_62 (73 + 4 * ((mnI (A 25 a1.toNatClampNeg) 5).toNatClampNeg)) x9_62.toNatClampNeg).toNatClampNeg))), some (.inl x9_62)]) (st' := [.inl x9_62, .inr (some (32 + a1.toNatClampNeg)), .inl (x8_62 + (A_62 70 (A_62 (73 + 4 * ((mnI (A 25 a1.toNatClampNeg) 5).toNatClampNeg)) x9_62.toNatClampNeg).toNatClampNeg))]) (I' := I) rfl rfl ?_
          obtain ⟨hi, hv⟩ := hv
          refine g_iald hC dX6_tryNext_94 (rw_31 (vin_lt hr4)) hi ?_
          clear hi
          obtain ⟨hv1, hv2⟩ := hv
          refine g_cge hC dX6_tryNext_95 (tgt := 129) (by decide) (fun hc => ?_) (fun hc => ?_)
          · have hv := hv1 hc
            clear hv1 hv2 hc
            refine g_blk hC _ bX6_tryNext_129_135 (pc' := 135) (ls' := [some (.inr (some 29)), some (.inl a1), some (.inl a2), some (.inr (some (71 + 4 * nn))), some (.inr (some (73 + 4 * ((mnI (A 25 a1.toNatClampNeg) 5).toNatClampNeg)))), some (.inr (some 70)), some (.inr (some (32 + a1.toNatClampNeg))), some (.inl (A (44 + (a1 + 1).toNatClampNeg) a2.toNatClampNeg)), some (.inl (x8_62 + (A_62 70 (A_62 (73 + 4 * ((mnI (A 25 a1.toNatClampNeg) 5).toNatClampNeg)) x9_62.toNatClampNeg).toNatClampNeg))), some (.inl x9_62)]) (st' := [.inl x9_62, .inr (some (32 + a1.toNatClampNeg)), .inl (x8_62 + (A_62 70 (A_62 (73 + 4 * ((mnI (A 25 a1.toNatClampNeg) 5).toNatClampNeg)) x9_62.toNatClampNeg).toNatClampNeg))]) (I' := I) rfl rfl ?_
            obtain ⟨hi, hv⟩ := hv
            refine g_iald hC dX6_tryNext_135 (rw_31 (vin_lt hr4)) hi ?_
            clear hi
            obtain ⟨hv1, hv2⟩ := hv
            refine g_cne hC dX6_tryNext_136 (tgt := 184) (by decide) (fun hc => ?_) (fun hc => ?_)
            · have hv := hv1 hc
              clear hv1 hv2 hc
              refine g_blk hC _ bX6_tryNext_184_187 (pc' := 187) (ls' := [some (.inr (some 29)), some (.inl a1), some (.inl a2), some (.inr (some (71 + 4 * nn))), some (.inr (some (73 + 4 * ((mnI (A 25 a1.toNatClampNeg) 5).toNatClampNeg)))), some (.inr (some 70)), some (.inr (some (32 + a1.toNatClampNeg))), some (.inl (A (44 + (a1 + 1).toNatClampNeg) a2.toNatClampNeg)), some (.inl (x8_62 + (A_62 70 (A_62 (73 + 4 * ((mnI (A 25 a1.toNatClampNeg) 5).toNatClampNeg)) x9_62.toNatClampNeg).toNatClampNeg))), some (.inl (x9_62 + 1))]) (st' := []) (I' := I) rfl rfl ?_
              refine g_goto hC dX6_tryNext_187 (tgt := 62) (by decide) ?_
              exact g_weak (ls1 := [some (.inr (some 29)), some (.inl a1), some (.inl a2), some (.inr (some (71 + 4 * nn))), some (.inr (some (73 + 4 * ((mnI (A 25 a1.toNatClampNeg) 5).toNatClampNeg)))), some (.inr (some 70)), some (.inr (some (32 + a1.toNatClampNeg))), some (.inl (A (44 + (a1 + 1).toNatClampNeg) a2.toNatClampNeg)), some (.inl (x8_62 + (A_62 70 (A_62 (73 + 4 * ((mnI (A 25 a1.toNatClampNeg) 5).toNatClampNeg)) x9_62.toNatClampNeg).toNatClampNeg))), some (.inl (x9_62 + 1))]) rfl (And.intro rfl (And.intro rfl (And.intro rfl (And.intro rfl (And.intro rfl (And.intro rfl (And.intro rfl (And.intro rfl (And.intro rfl (And.intro rfl trivial)))))))))) (ih62 (x8_62 + (A_62 70 (A_62 (73 + 4 * ((mnI (A 25 a1.toNatClampNeg) 5).toNatClampNeg)) x9_62.toNatClampNeg).toNatClampNeg)) (x9_62 + 1) A_62 hv.1 (Nat.lt_of_lt_of_le hv.2 (Nat.le_of_lt_succ hn62)))
            · have hv := hv2 hc
              clear hv1 hv2 hc
              refine g_blk hC _ bX6_tryNext_139_144 (pc' := 144) (ls' := [some (.inr (some 29)), some (.inl a1), some (.inl a2), some (.inr (some (71 + 4 * nn))), some (.inr (some (73 + 4 * ((mnI (A 25 a1.toNatClampNeg) 5).toNatClampNeg)))), some (.inr (some 70)), some (.inr (some (32 + a1.toNatClampNeg))), some (.inl (A (44 + (a1 + 1).toNatClampNeg) a2.toNatClampNeg)), some (.inl (x8_62 + (A_62 70 (A_62 (73 + 4 * ((mnI (A 25 a1.toNatClampNeg) 5).toNatClampNeg)) x9_62.toNatClampNeg).toNatClampNeg))), some (.inl x9_62)]) (st' := [.inl a1, .inr (some 43)]) (I' := I) rfl rfl ?_
              obtain ⟨hr15, hv⟩ := hv
              refine g_aald hC dX6_tryNext_144 (f := _) rfl hr15 (ra_43 (vin_lt hr15)) ?_
              refine g_blk hC _ bX6_tryNext_145_148 (pc' := 148) (ls' := [some (.inr (some 29)), some (.inl a1), some (.inl a2), some (.inr (some (71 + 4 * nn))), some (.inr (some (73 + 4 * ((mnI (A 25 a1.toNatClampNeg) 5).toNatClampNeg)))), some (.inr (some 70)), some (.inr (some (32 + a1.toNatClampNeg))), some (.inl (A (44 + (a1 + 1).toNatClampNeg) a2.toNatClampNeg)), some (.inl (x8_62 + (A_62 70 (A_62 (73 + 4 * ((mnI (A 25 a1.toNatClampNeg) 5).toNatClampNeg)) x9_62.toNatClampNeg).toNatClampNeg))), some (.inl x9_62)]) (st' := [.inl x9_62, .inr (some (44 + a1.toNatClampNeg)), .inl x9_62, .inr (some (44 + a1.toNatClampNeg))]) (I' := I) rfl rfl ?_
              obtain ⟨hi, hv⟩ := hv
              refine g_iald hC dX6_tryNext_148 (rw_43 (vin_lt hr15)) hi ?_
              clear hi
              refine g_blk hC _ bX6_tryNext_149_152 (pc' := 152) (ls' := [some (.inr (some 29)), some (.inl a1), some (.inl a2), some (.inr (some (71 + 4 * nn))), some (.inr (some (73 + 4 * ((mnI (A 25 a1.toNatClampNeg) 5).toNatClampNeg)))), some (.inr (some 70)), some (.inr (some (32 + a1.toNatClampNeg))), some (.inl (A (44 + (a1 + 1).toNatClampNeg) a2.toNatClampNeg)), some (.inl (x8_62 + (A_62 70 (A_62 (73 + 4 * ((mnI (A 25 a1.toNatClampNeg) 5).toNatClampNeg)) x9_62.toNatClampNeg).toNatClampNeg))), some (.inl x9_62)]) (st' := [.inl ((A_62 (44 + a1.toNatClampNeg) x9_62.toNatClampNeg) + (A (44 + (a1 + 1).toNatClampNeg) a2.toNatClampNeg)), .inl x9_62, .inr (some (44 + a1.toNatClampNeg))]) (I' := I) rfl rfl ?_
              obtain ⟨hi, hv⟩ := hv
              refine g_iast hC dX6_tryNext_152 (rw_43 (vin_lt hr15)) hi ?_
              clear hi
              refine g_blk hC _ bX6_tryNext_153_155 (pc' := 155) (ls' := [some (.inr (some 29)), some (.inl a1), some (.inl a2), some (.inr (some (71 + 4 * nn))), some (.inr (some (73 + 4 * ((mnI (A 25 a1.toNatClampNeg) 5).toNatClampNeg)))), some (.inr (some 70)), some (.inr (some (32 + a1.toNatClampNeg))), some (.inl (A (44 + (a1 + 1).toNatClampNeg) a2.toNatClampNeg)), some (.inl (x8_62 + (A_62 70 (A_62 (73 + 4 * ((mnI (A 25 a1.toNatClampNeg) 5).toNatClampNeg)) x9_62.toNatClampNeg).toNatClampNeg))), some (.inl x9_62)]) (st' := [.inl a2, .inr (some (71 + 4 * nn))]) (I' := I) rfl rfl ?_
              obtain ⟨hp16, hv⟩ := hv
              obtain ⟨fs9, hs9⟩ := ch_sh hnn
              refine g_callV hC (c_X0_rankAt l D ads I (up2 A_62 (44 + a1.toNatClampNeg) x9_62.toNatClampNeg ((A_62 (44 + a1.toNatClampNeg) x9_62.toNatClampNeg) + (A (44 + (a1 + 1).toNatClampNeg) a2.toNatClampNeg))) nn a2 hnn hp16) dX6_tryNext_155 nm_X0_rankAt hs9 rfl wl_X6_150 wi_X0_rankAt ws_X0_rankAt wn_X0 wc_X0_rankAt ⟨by decide, by decide⟩ (as := [.inl a2]) (rest := []) rfl (Nat.le_of_ble_eq_true rfl) ⟨Nat.le_refl _, Nat.le_refl _⟩ (k_qI ?_)
              refine g_blk hC _ bX6_tryNext_158_164 (pc' := 164) (ls' := [some (.inr (some 29)), some (.inl a1), some (.inl a2), some (.inr (some (71 + 4 * nn))), some (.inr (some (73 + 4 * ((mnI (A 25 a1.toNatClampNeg) 5).toNatClampNeg)))), some (.inr (some 70)), some (.inr (some (32 + a1.toNatClampNeg))), some (.inl (A (44 + (a1 + 1).toNatClampNeg) a2.toNatClampNeg)), some (.inl (x8_62 + (A_62 70 (A_62 (73 + 4 * ((mnI (A 25 a1.toNatClampNeg) 5).toNatClampNeg)) x9_62.toNatClampNeg).toNatClampNeg))), some (.inl x9_62)]) (st' := [.inl a1, .inr (some 55), .inr (some (71 + 4 * nn)), .inl ((up2 A_62 (44 + a1.toNatClampNeg) x9_62.toNatClampNeg ((A_62 (44 + a1.toNatClampNeg) x9_62.toNatClampNeg) + (A (44 + (a1 + 1).toNatClampNeg) a2.toNatClampNeg))) (74 + 4 * nn) a2.toNatClampNeg)]) (I' := I) rfl rfl ?_
              obtain ⟨hr17, hv⟩ := hv
              refine g_aald hC dX6_tryNext_164 (f := _) rfl hr17 (ra_55 (vin_lt hr17)) ?_
              refine g_blk hC _ bX6_tryNext_165_167 (pc' := 167) (ls' := [some (.inr (some 29)), some (.inl a1), some (.inl a2), some (.inr (some (71 + 4 * nn))), some (.inr (some (73 + 4 * ((mnI (A 25 a1.toNatClampNeg) 5).toNatClampNeg)))), some (.inr (some 70)), some (.inr (some (32 + a1.toNatClampNeg))), some (.inl (A (44 + (a1 + 1).toNatClampNeg) a2.toNatClampNeg)), some (.inl (x8_62 + (A_62 70 (A_62 (73 + 4 * ((mnI (A 25 a1.toNatClampNeg) 5).toNatClampNeg)) x9_62.toNatClampNeg).toNatClampNeg))), some (.inl x9_62)]) (st' := [.inl x9_62, .inr (some (56 + a1.toNatClampNeg)), .inr (some (71 + 4 * nn)), .inl ((up2 A_62 (44 + a1.toNatClampNeg) x9_62.toNatClampNeg ((A_62 (44 + a1.toNatClampNeg) x9_62.toNatClampNeg) + (A (44 + (a1 + 1).toNatClampNeg) a2.toNatClampNeg))) (74 + 4 * nn) a2.toNatClampNeg)]) (I' := I) rfl rfl ?_
              obtain ⟨hi, hv⟩ := hv
              refine g_iald hC dX6_tryNext_167 (rw_55 (vin_lt hr17)) hi ?_
              clear hi
              obtain ⟨hp18, hv⟩ := hv
              obtain ⟨fs9, hs9⟩ := ch_sh hnn
              refine g_callV hC (c_X0_rankAt l D ads I (up2 A_62 (44 + a1.toNatClampNeg) x9_62.toNatClampNeg ((A_62 (44 + a1.toNatClampNeg) x9_62.toNatClampNeg) + (A (44 + (a1 + 1).toNatClampNeg) a2.toNatClampNeg))) nn ((up2 A_62 (44 + a1.toNatClampNeg) x9_62.toNatClampNeg ((A_62 (44 + a1.toNatClampNeg) x9_62.toNatClampNeg) + (A (44 + (a1 + 1).toNatClampNeg) a2.toNatClampNeg))) (56 + a1.toNatClampNeg) x9_62.toNatClampNeg) hnn hp18) dX6_tryNext_168 nm_X0_rankAt hs9 rfl wl_X6_150 wi_X0_rankAt ws_X0_rankAt wn_X0 wc_X0_rankAt ⟨by decide, by decide⟩ (as := [.inl ((up2 A_62 (44 + a1.toNatClampNeg) x9_62.toNatClampNeg ((A_62 (44 + a1.toNatClampNeg) x9_62.toNatClampNeg) + (A (44 + (a1 + 1).toNatClampNeg) a2.toNatClampNeg))) (56 + a1.toNatClampNeg) x9_62.toNatClampNeg)]) (rest := [.inl ((up2 A_62 (44 + a1.toNatClampNeg) x9_62.toNatClampNeg ((A_62 (44 + a1.toNatClampNeg) x9_62.toNatClampNeg) + (A (44 + (a1 + 1).toNatClampNeg) a2.toNatClampNeg))) (74 + 4 * nn) a2.toNatClampNeg)]) rfl (Nat.le_of_ble_eq_true rfl) ⟨Nat.le_refl _, Nat.le_refl _⟩ (k_qI ?_)
              obtain ⟨hv1, hv2⟩ := hv
              refine g_cge hC dX6_tryNext_171 (tgt := 184) (by decide) (fun hc => ?_) (fun hc => ?_)
              · have hv := hv1 hc
                clear hv1 hv2 hc
                refine g_blk hC _ bX6_tryNext_184_187 (pc' := 187) (ls' := [some (.inr (some 29)), some (.inl a1), some (.inl a2), some (.inr (some (71 + 4 * nn))), some (.inr (some (73 + 4 * ((mnI (A 25 a1.toNatClampNeg) 5).toNatClampNeg)))), some (.inr (some 70)), some (.inr (some (32 + a1.toNatClampNeg))), some (.inl (A (44 + (a1 + 1).toNatClampNeg) a2.toNatClampNeg)), some (.inl (x8_62 + (A_62 70 (A_62 (73 + 4 * ((mnI (A 25 a1.toNatClampNeg) 5).toNatClampNeg)) x9_62.toNatClampNeg).toNatClampNeg))), some (.inl (x9_62 + 1))]) (st' := []) (I' := I) rfl rfl ?_
                refine g_goto hC dX6_tryNext_187 (tgt := 62) (by decide) ?_
                exact g_weak (ls1 := [some (.inr (some 29)), some (.inl a1), some (.inl a2), some (.inr (some (71 + 4 * nn))), some (.inr (some (73 + 4 * ((mnI (A 25 a1.toNatClampNeg) 5).toNatClampNeg)))), some (.inr (some 70)), some (.inr (some (32 + a1.toNatClampNeg))), some (.inl (A (44 + (a1 + 1).toNatClampNeg) a2.toNatClampNeg)), some (.inl (x8_62 + (A_62 70 (A_62 (73 + 4 * ((mnI (A 25 a1.toNatClampNeg) 5).toNatClampNeg)) x9_62.toNatClampNeg).toNatClampNeg))), some (.inl (x9_62 + 1))]) rfl (And.intro rfl (And.intro rfl (And.intro rfl (And.intro rfl (And.intro rfl (And.intro rfl (And.intro rfl (And.intro rfl (And.intro rfl (And.intro rfl trivial)))))))))) (ih62 (x8_62 + (A_62 70 (A_62 (73 + 4 * ((mnI (A 25 a1.toNatClampNeg) 5).toNatClampNeg)) x9_62.toNatClampNeg).toNatClampNeg)) (x9_62 + 1) (up2 A_62 (44 + a1.toNatClampNeg) x9_62.toNatClampNeg ((A_62 (44 + a1.toNatClampNeg) x9_62.toNatClampNeg) + (A (44 + (a1 + 1).toNatClampNeg) a2.toNatClampNeg))) hv.1 (Nat.lt_of_lt_of_le hv.2 (Nat.le_of_lt_succ hn62)))
              · have hv := hv2 hc
                clear hv1 hv2 hc
                refine g_blk hC _ bX6_tryNext_174_179 (pc' := 179) (ls' := [some (.inr (some 29)), some (.inl a1), some (.inl a2), some (.inr (some (71 + 4 * nn))), some (.inr (some (73 + 4 * ((mnI (A 25 a1.toNatClampNeg) 5).toNatClampNeg)))), some (.inr (some 70)), some (.inr (some (32 + a1.toNatClampNeg))), some (.inl (A (44 + (a1 + 1).toNatClampNeg) a2.toNatClampNeg)), some (.inl (x8_62 + (A_62 70 (A_62 (73 + 4 * ((mnI (A 25 a1.toNatClampNeg) 5).toNatClampNeg)) x9_62.toNatClampNeg).toNatClampNeg))), some (.inl x9_62)]) (st' := [.inl a1, .inr (some 55)]) (I' := I) rfl rfl ?_
                obtain ⟨hr19, hv⟩ := hv
                refine g_aald hC dX6_tryNext_179 (f := _) rfl hr19 (ra_55 (vin_lt hr19)) ?_
                refine g_blk hC _ bX6_tryNext_180_183 (pc' := 183) (ls' := [some (.inr (some 29)), some (.inl a1), some (.inl a2), some (.inr (some (71 + 4 * nn))), some (.inr (some (73 + 4 * ((mnI (A 25 a1.toNatClampNeg) 5).toNatClampNeg)))), some (.inr (some 70)), some (.inr (some (32 + a1.toNatClampNeg))), some (.inl (A (44 + (a1 + 1).toNatClampNeg) a2.toNatClampNeg)), some (.inl (x8_62 + (A_62 70 (A_62 (73 + 4 * ((mnI (A 25 a1.toNatClampNeg) 5).toNatClampNeg)) x9_62.toNatClampNeg).toNatClampNeg))), some (.inl x9_62)]) (st' := [.inl a2, .inl x9_62, .inr (some (56 + a1.toNatClampNeg))]) (I' := I) rfl rfl ?_
                obtain ⟨hi, hv⟩ := hv
                refine g_iast hC dX6_tryNext_183 (rw_55 (vin_lt hr19)) hi ?_
                clear hi
                refine g_blk hC _ bX6_tryNext_184_187 (pc' := 187) (ls' := [some (.inr (some 29)), some (.inl a1), some (.inl a2), some (.inr (some (71 + 4 * nn))), some (.inr (some (73 + 4 * ((mnI (A 25 a1.toNatClampNeg) 5).toNatClampNeg)))), some (.inr (some 70)), some (.inr (some (32 + a1.toNatClampNeg))), some (.inl (A (44 + (a1 + 1).toNatClampNeg) a2.toNatClampNeg)), some (.inl (x8_62 + (A_62 70 (A_62 (73 + 4 * ((mnI (A 25 a1.toNatClampNeg) 5).toNatClampNeg)) x9_62.toNatClampNeg).toNatClampNeg))), some (.inl (x9_62 + 1))]) (st' := []) (I' := I) rfl rfl ?_
                refine g_goto hC dX6_tryNext_187 (tgt := 62) (by decide) ?_
                exact g_weak (ls1 := [some (.inr (some 29)), some (.inl a1), some (.inl a2), some (.inr (some (71 + 4 * nn))), some (.inr (some (73 + 4 * ((mnI (A 25 a1.toNatClampNeg) 5).toNatClampNeg)))), some (.inr (some 70)), some (.inr (some (32 + a1.toNatClampNeg))), some (.inl (A (44 + (a1 + 1).toNatClampNeg) a2.toNatClampNeg)), some (.inl (x8_62 + (A_62 70 (A_62 (73 + 4 * ((mnI (A 25 a1.toNatClampNeg) 5).toNatClampNeg)) x9_62.toNatClampNeg).toNatClampNeg))), some (.inl (x9_62 + 1))]) rfl (And.intro rfl (And.intro rfl (And.intro rfl (And.intro rfl (And.intro rfl (And.intro rfl (And.intro rfl (And.intro rfl (And.intro rfl (And.intro rfl trivial)))))))))) (ih62 (x8_62 + (A_62 70 (A_62 (73 + 4 * ((mnI (A 25 a1.toNatClampNeg) 5).toNatClampNeg)) x9_62.toNatClampNeg).toNatClampNeg)) (x9_62 + 1) (up2 (up2 A_62 (44 + a1.toNatClampNeg) x9_62.toNatClampNeg ((A_62 (44 + a1.toNatClampNeg) x9_62.toNatClampNeg) + (A (44 + (a1 + 1).toNatClampNeg) a2.toNatClampNeg))) (56 + a1.toNatClampNeg) x9_62.toNatClampNeg a2) hv.1 (Nat.lt_of_lt_of_le hv.2 (Nat.le_of_lt_succ hn62)))
          · have hv := hv2 hc
            clear hv1 hv2 hc
            refine g_blk hC _ bX6_tryNext_98_104 (pc' := 104) (ls' := [some (.inr (some 29)), some (.inl a1), some (.inl a2), some (.inr (some (71 + 4 * nn))), some (.inr (some (73 + 4 * ((mnI (A 25 a1.toNatClampNeg) 5).toNatClampNeg)))), some (.inr (some 70)), some (.inr (some (32 + a1.toNatClampNeg))), some (.inl (A (44 + (a1 + 1).toNatClampNeg) a2.toNatClampNeg)), some (.inl (x8_62 + (A_62 70 (A_62 (73 + 4 * ((mnI (A 25 a1.toNatClampNeg) 5).toNatClampNeg)) x9_62.toNatClampNeg).toNatClampNeg))), some (.inl x9_62)]) (st' := [.inl (x8_62 + (A_62 70 (A_62 (73 + 4 * ((mnI (A 25 a1.toNatClampNeg) 5).toNatClampNeg)) x9_62.toNatClampNeg).toNatClampNeg)), .inl x9_62, .inr (some (32 + a1.toNatClampNeg))]) (I' := I) rfl rfl ?_
            obtain ⟨hi, hv⟩ := hv
            refine g_iast hC dX6_tryNext_104 (rw_31 (vin_lt hr4)) hi ?_
            clear hi
            refine g_blk hC _ bX6_tryNext_105_110 (pc' := 110) (ls' := [some (.inr (some 29)), some (.inl a1), some (.inl a2), some (.inr (some (71 + 4 * nn))), some (.inr (some (73 + 4 * ((mnI (A 25 a1.toNatClampNeg) 5).toNatClampNeg)))), some (.inr (some 70)), some (.inr (some (32 + a1.toNatClampNeg))), some (.inl (A (44 + (a1 + 1).toNatClampNeg) a2.toNatClampNeg)), some (.inl (x8_62 + (A_62 70 (A_62 (73 + 4 * ((mnI (A 25 a1.toNatClampNeg) 5).toNatClampNeg)) x9_62.toNatClampNeg).toNatClampNeg))), some (.inl x9_62)]) (st' := [.inl a1, .inr (some 43)]) (I' := I) rfl rfl ?_
            obtain ⟨hr20, hv⟩ := hv
            refine g_aald hC dX6_tryNext_110 (f := _) rfl hr20 (ra_43 (vin_lt hr20)) ?_
            refine g_blk hC _ bX6_tryNext_111_115 (pc' := 115) (ls' := [some (.inr (some 29)), some (.inl a1), some (.inl a2), some (.inr (some (71 + 4 * nn))), some (.inr (some (73 + 4 * ((mnI (A 25 a1.toNatClampNeg) 5).toNatClampNeg)))), some (.inr (some 70)), some (.inr (some (32 + a1.toNatClampNeg))), some (.inl (A (44 + (a1 + 1).toNatClampNeg) a2.toNatClampNeg)), some (.inl (x8_62 + (A_62 70 (A_62 (73 + 4 * ((mnI (A 25 a1.toNatClampNeg) 5).toNatClampNeg)) x9_62.toNatClampNeg).toNatClampNeg))), some (.inl x9_62)]) (st' := [.inl (A (44 + (a1 + 1).toNatClampNeg) a2.toNatClampNeg), .inl x9_62, .inr (some (44 + a1.toNatClampNeg))]) (I' := I) rfl rfl ?_
            obtain ⟨hi, hv⟩ := hv
            refine g_iast hC dX6_tryNext_115 (rw_43 (vin_lt hr20)) hi ?_
            clear hi
            refine g_blk hC _ bX6_tryNext_116_121 (pc' := 121) (ls' := [some (.inr (some 29)), some (.inl a1), some (.inl a2), some (.inr (some (71 + 4 * nn))), some (.inr (some (73 + 4 * ((mnI (A 25 a1.toNatClampNeg) 5).toNatClampNeg)))), some (.inr (some 70)), some (.inr (some (32 + a1.toNatClampNeg))), some (.inl (A (44 + (a1 + 1).toNatClampNeg) a2.toNatClampNeg)), some (.inl (x8_62 + (A_62 70 (A_62 (73 + 4 * ((mnI (A 25 a1.toNatClampNeg) 5).toNatClampNeg)) x9_62.toNatClampNeg).toNatClampNeg))), some (.inl x9_62)]) (st' := [.inl a1, .inr (some 55)]) (I' := I) rfl rfl ?_
            obtain ⟨hr21, hv⟩ := hv
            refine g_aald hC dX6_tryNext_121 (f := _) rfl hr21 (ra_55 (vin_lt hr21)) ?_
            refine g_blk hC _ bX6_tryNext_122_125 (pc' := 125) (ls' := [some (.inr (some 29)), some (.inl a1), some (.inl a2), some (.inr (some (71 + 4 * nn))), some (.inr (some (73 + 4 * ((mnI (A 25 a1.toNatClampNeg) 5).toNatClampNeg)))), some (.inr (some 70)), some (.inr (some (32 + a1.toNatClampNeg))), some (.inl (A (44 + (a1 + 1).toNatClampNeg) a2.toNatClampNeg)), some (.inl (x8_62 + (A_62 70 (A_62 (73 + 4 * ((mnI (A 25 a1.toNatClampNeg) 5).toNatClampNeg)) x9_62.toNatClampNeg).toNatClampNeg))), some (.inl x9_62)]) (st' := [.inl a2, .inl x9_62, .inr (some (56 + a1.toNatClampNeg))]) (I' := I) rfl rfl ?_
            obtain ⟨hi, hv⟩ := hv
            refine g_iast hC dX6_tryNext_125 (rw_55 (vin_lt hr21)) hi ?_
            clear hi
            refine g_goto hC dX6_tryNext_126 (tgt := 184) (by decide) ?_
            refine g_blk hC _ bX6_tryNext_184_187 (pc' := 187) (ls' := [some (.inr (some 29)), some (.inl a1), some (.inl a2), some (.inr (some (71 + 4 * nn))), some (.inr (some (73 + 4 * ((mnI (A 25 a1.toNatClampNeg) 5).toNatClampNeg)))), some (.inr (some 70)), some (.inr (some (32 + a1.toNatClampNeg))), some (.inl (A (44 + (a1 + 1).toNatClampNeg) a2.toNatClampNeg)), some (.inl (x8_62 + (A_62 70 (A_62 (73 + 4 * ((mnI (A 25 a1.toNatClampNeg) 5).toNatClampNeg)) x9_62.toNatClampNeg).toNatClampNeg))), some (.inl (x9_62 + 1))]) (st' := []) (I' := I) rfl rfl ?_
            refine g_goto hC dX6_tryNext_187 (tgt := 62) (by decide) ?_
            exact g_weak (ls1 := [some (.inr (some 29)), some (.inl a1), some (.inl a2), some (.inr (some (71 + 4 * nn))), some (.inr (some (73 + 4 * ((mnI (A 25 a1.toNatClampNeg) 5).toNatClampNeg)))), some (.inr (some 70)), some (.inr (some (32 + a1.toNatClampNeg))), some (.inl (A (44 + (a1 + 1).toNatClampNeg) a2.toNatClampNeg)), some (.inl (x8_62 + (A_62 70 (A_62 (73 + 4 * ((mnI (A 25 a1.toNatClampNeg) 5).toNatClampNeg)) x9_62.toNatClampNeg).toNatClampNeg))), some (.inl (x9_62 + 1))]) rfl (And.intro rfl (And.intro rfl (And.intro rfl (And.intro rfl (And.intro rfl (And.intro rfl (And.intro rfl (And.intro rfl (And.intro rfl (And.intro rfl trivial)))))))))) (ih62 (x8_62 + (A_62 70 (A_62 (73 + 4 * ((mnI (A 25 a1.toNatClampNeg) 5).toNatClampNeg)) x9_62.toNatClampNeg).toNatClampNeg)) (x9_62 + 1) (up2 (up2 (up2 A_62 (32 + a1.toNatClampNeg) x9_62.toNatClampNeg (x8_62 + (A_62 70 (A_62 (73 + 4 * ((mnI (A 25 a1.toNatClampNeg) 5).toNatClampNeg)) x9_62.toNatClampNeg).toNatClampNeg))) (44 + a1.toNatClampNeg) x9_62.toNatClampNeg (A (44 + (a1 + 1).toNatClampNeg) a2.toNatClampNeg)) (56 + a1.toNatClampNeg) x9_62.toNatClampNeg a2) hv.1 (Nat.lt_of_lt_of_le hv.2 (Nat.le_of_lt_succ hn62)))
  exact g_weak (ls1 := [some (.inr (some 29)), some (.inl a1), some (.inl a2), some (.inr (some (71 + 4 * nn))), some (.inr (some (73 + 4 * ((mnI (A 25 a1.toNatClampNeg) 5).toNatClampNeg)))), some (.inr (some 70)), some (.inr (some (32 + a1.toNatClampNeg))), some (.inl (A (44 + (a1 + 1).toNatClampNeg) a2.toNatClampNeg)), some (.inl ((I 68 5) + (A (32 + (a1 + 1).toNatClampNeg) a2.toNatClampNeg))), some (.inl 0)]) rfl (And.intro rfl (And.intro rfl (And.intro rfl (And.intro rfl (And.intro rfl (And.intro rfl (And.intro rfl (And.intro rfl (And.intro rfl (And.intro rfl trivial)))))))))) (L62 _ ((I 68 5) + (A (32 + (a1 + 1).toNatClampNeg) a2.toNatClampNeg)) 0 A hi62 (Nat.lt_succ_self _))
set_option maxHeartbeats 4000000 in
set_option maxRecDepth 100000 in
theorem c_X6_tryNext (l : Launch) (D : va_G) (ads : AD) (I A : HI) (a1 : Int32) (a2 : Int32) (nn : Nat) (hnn : nn < 6) (hp : tNx0 I A a1 a2 nn) : Ct l yX6_tryNext cX6_tryNext 10 none 2 42 D ads shp [.inr (some 29), .inl a1, .inl a2, .inr (some (71 + 4 * nn))] I A (qV (fun I' A' => I' = I ∧ tNx I A a1 a2 nn A')) := by
  sorry
theorem bX6_searchLayer_0_4 : okB cX6_searchLayer RX6 0 [(5, 0, 0, 0, 0), (3, 1, 0, 0, 0), (0, 0, 0, 0, 1), (12, 0, 0, 0, 0)] := And.intro ⟨_, dX6_searchLayer_0, rfl⟩ (And.intro ⟨_, dX6_searchLayer_1, rfl⟩ (And.intro ⟨_, dX6_searchLayer_2, by decide⟩ (And.intro dX6_searchLayer_3 trivial)))
theorem bX6_searchLayer_7_13 : okB cX6_searchLayer RX6 7 [(9, 3, 0, 0, 0), (5, 0, 0, 0, 0), (23, 65, 6, 3, 0), (3, 1, 0, 0, 0)] := And.intro ⟨_, dX6_searchLayer_7, rfl⟩ (And.intro ⟨_, dX6_searchLayer_8, rfl⟩ (And.intro ⟨dX6_searchLayer_9, fl_X6_65⟩ (And.intro ⟨_, dX6_searchLayer_12, rfl⟩ trivial)))
theorem bX6_searchLayer_16_22 : okB cX6_searchLayer RX6 16 [(5, 0, 0, 0, 0), (23, 65, 6, 3, 0), (3, 1, 0, 0, 0), (3, 2, 0, 0, 0)] := And.intro ⟨_, dX6_searchLayer_16, rfl⟩ (And.intro ⟨dX6_searchLayer_17, fl_X6_65⟩ (And.intro ⟨_, dX6_searchLayer_20, rfl⟩ (And.intro ⟨_, dX6_searchLayer_21, rfl⟩ trivial)))
theorem bX6_searchLayer_25_30 : okB cX6_searchLayer RX6 25 [(5, 0, 0, 0, 0), (23, 19, 6, 5, 0), (3, 1, 0, 0, 0)] := And.intro ⟨_, dX6_searchLayer_25, rfl⟩ (And.intro ⟨dX6_searchLayer_26, fl_X6_19⟩ (And.intro ⟨_, dX6_searchLayer_29, rfl⟩ trivial))
theorem bX6_searchLayer_31_33 : okB cX6_searchLayer RX6 31 [(26, 123, 0, 0, 2147483647)] := And.intro ⟨dX6_searchLayer_31, wk_X6_123⟩ trivial
theorem bX6_searchLayer_36_39 : okB cX6_searchLayer RX6 36 [(0, 0, 0, 0, 0), (8, 4, 0, 0, 0)] := And.intro ⟨_, dX6_searchLayer_36, by decide⟩ (And.intro dX6_searchLayer_37 trivial)
theorem bX6_searchLayer_39_42 : okB cX6_searchLayer RX6 39 [(4, 4, 0, 0, 0), (5, 3, 0, 0, 0)] := And.intro dX6_searchLayer_39 (And.intro ⟨_, dX6_searchLayer_41, rfl⟩ trivial)
theorem bX6_searchLayer_48_50 : okB cX6_searchLayer RX6 48 [(4, 4, 0, 0, 0)] := And.intro dX6_searchLayer_48 trivial
theorem bX6_searchLayer_68_73 : okB cX6_searchLayer RX6 68 [(5, 0, 0, 0, 0), (3, 1, 0, 0, 0), (4, 4, 0, 0, 0), (5, 3, 0, 0, 0)] := And.intro ⟨_, dX6_searchLayer_68, rfl⟩ (And.intro ⟨_, dX6_searchLayer_69, rfl⟩ (And.intro dX6_searchLayer_70 (And.intro ⟨_, dX6_searchLayer_72, rfl⟩ trivial)))
theorem bX6_searchLayer_76_79 : okB cX6_searchLayer RX6 76 [(11, 4, 0, 0, 1)] := And.intro ⟨_, dX6_searchLayer_76, by decide⟩ trivial
theorem bX6_searchLayer_53_59 : okB cX6_searchLayer RX6 53 [(5, 0, 0, 0, 0), (23, 65, 6, 3, 0), (3, 1, 0, 0, 0), (5, 3, 0, 0, 0)] := And.intro ⟨_, dX6_searchLayer_53, rfl⟩ (And.intro ⟨dX6_searchLayer_54, fl_X6_65⟩ (And.intro ⟨_, dX6_searchLayer_57, rfl⟩ (And.intro ⟨_, dX6_searchLayer_58, rfl⟩ trivial)))
theorem bX6_searchLayer_62_64 : okB cX6_searchLayer RX6 62 [(4, 4, 0, 0, 0)] := And.intro dX6_searchLayer_62 trivial
set_option maxHeartbeats 4000000 in
set_option maxRecDepth 100000 in
theorem k_X6_searchLayer (l : Launch) (D : va_G) (ads : AD) (I A : HI) (a1 : Int32) (a2 : Int32) (po : Option AV → HI → HI → Prop) (Iv39 : HI → HI → HI → HI → Int32 → HI → HI → Prop) (mu39 : HI → HI → HI → HI → Int32 → HI → HI → Nat)
    (hv : ((vp_in (a1 + 1) 11 ∧ 0 ≤ A 25 (a1 + 1).toNatClampNeg) ∧ ((gLi0 A a1) ∧ (∀ (I3 A3 : HI), I3 = I ∧ gLi A a1 A3 → ((beg0 A3 a1) ∧ (∀ (I5 A5 : HI), beg I3 A3 a1 a2 I5 A5 → (vp_in a1 11 ∧ (Iv39 I3 A3 I5 A5 0 I5 (filA A5 (32 + a1.toNatClampNeg) 120 (2147483647 : Int32)) ∧ ∀ (x4_39 : Int32) (I_39 : HI) (A_39 : HI), Iv39 I3 A3 I5 A5 x4_39 I_39 A_39 → (((I_39 (71 + 4 * ((mnI (A 25 (a1 + 1).toNatClampNeg) 5).toNatClampNeg)) 1) ≤ x4_39 → po none I_39 A_39) ∧ (¬ (I_39 (71 + 4 * ((mnI (A 25 (a1 + 1).toNatClampNeg) 5).toNatClampNeg)) 1) ≤ x4_39 → ((x4_39 ≤ 0 → ((tNx0 I_39 A_39 a1 x4_39 ((mnI (A 25 (a1 + 1).toNatClampNeg) 5).toNatClampNeg)) ∧ (∀ (I10 A10 : HI), I10 = I_39 ∧ tNx I_39 A_39 a1 x4_39 ((mnI (A 25 (a1 + 1).toNatClampNeg) 5).toNatClampNeg) A10 → (Iv39 I3 A3 I5 A5 (x4_39 + 1) I10 A10 ∧ mu39 I3 A3 I5 A5 (x4_39 + 1) I10 A10 < mu39 I3 A3 I5 A5 x4_39 I_39 A_39)))) ∧ (¬ x4_39 ≤ 0 → (vp_in x4_39 (chN (((mnI (A 25 (a1 + 1).toNatClampNeg) 5).toNatClampNeg))) ∧ ((exN0 A_39 a1 (A_39 (73 + 4 * ((mnI (A 25 (a1 + 1).toNatClampNeg) 5).toNatClampNeg)) x4_39.toNatClampNeg)) ∧ (∀ (I13 A13 : HI), exN I_39 A_39 a1 (A_39 (73 + 4 * ((mnI (A 25 (a1 + 1).toNatClampNeg) 5).toNatClampNeg)) x4_39.toNatClampNeg) I13 A13 → ((tNx0 I13 A13 a1 x4_39 ((mnI (A 25 (a1 + 1).toNatClampNeg) 5).toNatClampNeg)) ∧ (∀ (I15 A15 : HI), I15 = I13 ∧ tNx I13 A13 a1 x4_39 ((mnI (A 25 (a1 + 1).toNatClampNeg) 5).toNatClampNeg) A15 → (Iv39 I3 A3 I5 A5 (x4_39 + 1) I15 A15 ∧ mu39 I3 A3 I5 A5 (x4_39 + 1) I15 A15 < mu39 I3 A3 I5 A5 x4_39 I_39 A_39)))))))))))))))))) : Ct l yX6_searchLayer cX6_searchLayer 5 none 3 77 D ads shp [.inr (some 29), .inl a1, .inl a2] I A po := by
  refine Ct_of (by decide) (Nat.le_of_ble_eq_true rfl) ?_
  intro p e s m args below meth c hC hr
  replace hC : CX p s m args meth c cX6_searchLayer 5 RX6 (AdS ads s.heap.size) := hC
  show Gm p l e s m args below meth c D ads 3 77 5 po I A 0 [some (.inr (some 29)), some (.inl a1), some (.inl a2), none, none] []
  refine g_blk hC _ bX6_searchLayer_0_4 (pc' := 4) (ls' := [some (.inr (some 29)), some (.inl a1), some (.inl a2), none, none]) (st' := [.inl (a1 + 1), .inr (some 29)]) (I' := I) rfl rfl ?_
  obtain ⟨hp1, hv⟩ := hv
  refine g_callV hC (c_X6_changesOf l D ads I A (a1 + 1) hp1) dX6_searchLayer_4 nm_X6_changesOf rfl rfl wl_X6_96 wi_X6_changesOf ws_X6_changesOf wn_X6 wc_X6_changesOf ⟨by decide, by decide⟩ (as := [.inl (a1 + 1)]) (rest := []) rfl (Nat.le_of_ble_eq_true rfl) ⟨Nat.le_refl _, Nat.le_refl _⟩ (k_qR ?_)
  refine g_blk hC _ bX6_searchLayer_7_13 (pc' := 13) (ls' := [some (.inr (some 29)), some (.inl a1), some (.inl a2), some (.inr (some (71 + 4 * (mnI (A 25 (a1 + 1).toNatClampNeg) 5).toNatClampNeg))), none]) (st' := [.inl a1, .inr (some 68)]) (I' := I) rfl rfl ?_
  obtain ⟨hp2, hv⟩ := hv
  refine g_callV hC (c_X3_gatherLinks l D ads I A a1 hp2) dX6_searchLayer_13 nm_X3_gatherLinks rfl rfl wl_X6_115 wi_X3_gatherLinks ws_X3_gatherLinks wn_X3 wc_X3_gatherLinks ⟨by decide, by decide⟩ (as := [.inl a1]) (rest := []) rfl (Nat.le_of_ble_eq_true rfl) ⟨Nat.le_refl _, Nat.le_refl _⟩ (k_qV ?_)
  intro I3 A3 hq3
  replace hv := hv I3 A3 hq3
  refine g_blk hC _ bX6_searchLayer_16_22 (pc' := 22) (ls' := [some (.inr (some 29)), some (.inl a1), some (.inl a2), some (.inr (some (71 + 4 * (mnI (A 25 (a1 + 1).toNatClampNeg) 5).toNatClampNeg))), none]) (st' := [.inl a2, .inl a1, .inr (some 68)]) (I' := I3) rfl rfl ?_
  obtain ⟨hp4, hv⟩ := hv
  refine g_callV hC (c_X3_begin l D ads I3 A3 a1 a2 hp4) dX6_searchLayer_22 nm_X3_begin rfl rfl wl_X6_118 wi_X3_begin ws_X3_begin wn_X3 wc_X3_begin ⟨by decide, by decide⟩ (as := [.inl a1, .inl a2]) (rest := []) rfl (Nat.le_of_ble_eq_true rfl) ⟨Nat.le_refl _, Nat.le_refl _⟩ (k_qV ?_)
  intro I5 A5 hq5
  replace hv := hv I5 A5 hq5
  refine g_blk hC _ bX6_searchLayer_25_30 (pc' := 30) (ls' := [some (.inr (some 29)), some (.inl a1), some (.inl a2), some (.inr (some (71 + 4 * (mnI (A 25 (a1 + 1).toNatClampNeg) 5).toNatClampNeg))), none]) (st' := [.inl a1, .inr (some 31)]) (I' := I5) rfl rfl ?_
  obtain ⟨hr6, hv⟩ := hv
  refine g_aald hC dX6_searchLayer_30 (f := _) rfl hr6 (ra_31 (vin_lt hr6)) ?_
  refine g_blk hC _ bX6_searchLayer_31_33 (pc' := 33) (ls' := [some (.inr (some 29)), some (.inl a1), some (.inl a2), some (.inr (some (71 + 4 * (mnI (A 25 (a1 + 1).toNatClampNeg) 5).toNatClampNeg))), none]) (st' := [.inl 2147483647, .inr (some (32 + a1.toNatClampNeg))]) (I' := I5) rfl rfl ?_
  refine g_callS hC (c_J7_fill_53178 l D ads I5 A5 (32 + a1.toNatClampNeg) (2147483647 : Int32) 120 (rw_31 (vin_lt hr6)) (by decide)) dX6_searchLayer_33 nm_J7_fill_53178 wl_X6_124 wt_J7_fill_53178 wn_J7 wc_J7_fill_53178 ⟨by decide, by decide⟩ (as := [.inr (some (32 + a1.toNatClampNeg)), .inl 2147483647]) (rest := []) rfl (Nat.le_of_ble_eq_true rfl) ⟨Nat.le_refl _, Nat.le_refl _⟩ (k_qN ?_)
  refine g_blk hC _ bX6_searchLayer_36_39 (pc' := 39) (ls' := [some (.inr (some 29)), some (.inl a1), some (.inl a2), some (.inr (some (71 + 4 * (mnI (A 25 (a1 + 1).toNatClampNeg) 5).toNatClampNeg))), some (.inl 0)]) (st' := []) (I' := I5) rfl rfl ?_
  obtain ⟨hi39, hb39⟩ := hv
  have L39 : ∀ (n : Nat) (x4_39 : Int32) (I_39 : HI) (A_39 : HI), Iv39 I3 A3 I5 A5 x4_39 I_39 A_39 → mu39 I3 A3 I5 A5 x4_39 I_39 A_39 < n → Gm p l e s m args below meth c D ads 3 77 5 po I_39 A_39 39 [some (.inr (some 29)), some (.inl a1), none, some (.inr (some (71 + 4 * (mnI (A 25 (a1 + 1).toNatClampNeg) 5).toNatClampNeg))), some (.inl x4_39)] [] := by
    intro n
    induction n with
    | zero => intro x4_39 I_39 A_39 _ hn; exact absurd hn (Nat.not_lt_zero _)
    | succ n ih39 =>
      intro x4_39 I_39 A_39 hv hn39
      replace hv := hb39 x4_39 I_39 A_39 hv
      skip
      refine g_blk hC _ bX6_searchLayer_39_42 (pc' := 42) (ls' := [some (.inr (some 29)), some (.inl a1), none, some (.inr (some (71 + 4 * (mnI (A 25 (a1 + 1).toNatClampNeg) 5).toNatClampNeg))), some (.inl x4_39)]) (st' := [.inr (some (71 + 4 * (mnI (A 25 (a1 + 1).toNatClampNeg) 5).toNatClampNeg)), .inl x4_39]) (I' := I_39) rfl rfl ?_
      obtain ⟨fs9, hs9⟩ := ch_sh (chO_lt hp1.2)
      refine g_callV hC (c_X0_number l D ads I_39 A_39 ((mnI (A 25 (a1 + 1).toNatClampNeg) 5).toNatClampNeg) (chO_lt hp1.2)) dX6_searchLayer_42 nm_X0_number hs9 rfl wl_X6_130 wi_X0_number ws_X0_number wn_X0 wc_X0_number ⟨by decide, by decide⟩ (as := []) (rest := [.inl x4_39]) rfl (Nat.le_of_ble_eq_true rfl) ⟨Nat.le_refl _, Nat.le_refl _⟩ (k_qI ?_)
      obtain ⟨hv1, hv2⟩ := hv
      refine g_cge hC dX6_searchLayer_45 (tgt := 82) (by decide) (fun hc => ?_) (fun hc => ?_)
      · have hv := hv1 hc
        clear hv1 hv2 hc
        exact g_retv hC hr dX6_searchLayer_82 hv
      · have hv := hv2 hc
        clear hv1 hv2 hc
        refine g_blk hC _ bX6_searchLayer_48_50 (pc' := 50) (ls' := [some (.inr (some 29)), some (.inl a1), none, some (.inr (some (71 + 4 * (mnI (A 25 (a1 + 1).toNatClampNeg) 5).toNatClampNeg))), some (.inl x4_39)]) (st' := [.inl x4_39]) (I' := I_39) rfl rfl ?_
        obtain ⟨hv1, hv2⟩ := hv
        refine g_ifle hC dX6_searchLayer_50 (tgt := 68) (by decide) (fun hc => ?_) (fun hc => ?_)
        · have hv := hv1 hc
          clear hv1 hv2 hc
          refine g_blk hC _ bX6_searchLayer_68_73 (pc' := 73) (ls' := [some (.inr (some 29)), some (.inl a1), none, some (.inr (some (71 + 4 * (mnI (A 25 (a1 + 1).toNatClampNeg) 5).toNatClampNeg))), some (.inl x4_39)]) (st' := [.inr (some (71 + 4 * (mnI (A 25 (a1 + 1).toNatClampNeg) 5).toNatClampNeg)), .inl x4_39, .inl a1, .inr (some 29)]) (I' := I_39) rfl rfl ?_
          obtain ⟨hp9, hv⟩ := hv
          refine g_callV hC (c_X6_tryNext l D ads I_39 A_39 a1 x4_39 ((mnI (A 25 (a1 + 1).toNatClampNeg) 5).toNatClampNeg) (chO_lt hp1.2) hp9) dX6_searchLayer_73 nm_X6_tryNext rfl rfl wl_X6_140 wi_X6_tryNext ws_X6_tryNext wn_X6 wc_X6_tryNext ⟨by decide, by decide⟩ (as := [.inl a1, .inl x4_39, .inr (some (71 + 4 * (mnI (A 25 (a1 + 1).toNatClampNeg) 5).toNatClampNeg))]) (rest := []) rfl (Nat.le_of_ble_eq_true rfl) ⟨Nat.le_refl _, Nat.le_refl _⟩ (k_qV ?_)
          intro I10 A10 hq10
          replace hv := hv I10 A10 hq10
          refine g_blk hC _ bX6_searchLayer_76_79 (pc' := 79) (ls' := [some (.inr (some 29)), some (.inl a1), none, some (.inr (some (71 + 4 * (mnI (A 25 (a1 + 1).toNatClampNeg) 5).toNatClampNeg))), some (.inl (x4_39 + 1))]) (st' := []) (I' := I10) rfl rfl ?_
          refine g_goto hC dX6_searchLayer_79 (tgt := 39) (by decide) ?_
          exact g_weak (ls1 := [some (.inr (some 29)), some (.inl a1), none, some (.inr (some (71 + 4 * (mnI (A 25 (a1 + 1).toNatClampNeg) 5).toNatClampNeg))), some (.inl (x4_39 + 1))]) rfl (And.intro rfl (And.intro rfl (And.intro rfl (And.intro rfl trivial)))) (ih39 (x4_39 + 1) I10 A10 hv.1 (Nat.lt_of_lt_of_le hv.2 (Nat.le_of_lt_succ hn39)))
        · have hv := hv2 hc
          clear hv1 hv2 hc
          refine g_blk hC _ bX6_searchLayer_53_59 (pc' := 59) (ls' := [some (.inr (some 29)), some (.inl a1), none, some (.inr (some (71 + 4 * (mnI (A 25 (a1 + 1).toNatClampNeg) 5).toNatClampNeg))), some (.inl x4_39)]) (st' := [.inr (some (71 + 4 * (mnI (A 25 (a1 + 1).toNatClampNeg) 5).toNatClampNeg)), .inl a1, .inr (some 68)]) (I' := I_39) rfl rfl ?_
          obtain ⟨fs9, hs9⟩ := ch_sh (chO_lt hp1.2)
          refine g_callV hC (c_X0_exchanged l D ads I_39 A_39 ((mnI (A 25 (a1 + 1).toNatClampNeg) 5).toNatClampNeg) (chO_lt hp1.2)) dX6_searchLayer_59 nm_X0_exchanged hs9 rfl wl_X6_133 wi_X0_exchanged ws_X0_exchanged wn_X0 wc_X0_exchanged ⟨by decide, by decide⟩ (as := []) (rest := [.inl a1, .inr (some 68)]) rfl (Nat.le_of_ble_eq_true rfl) ⟨Nat.le_refl _, Nat.le_refl _⟩ (k_qR ?_)
          refine g_blk hC _ bX6_searchLayer_62_64 (pc' := 64) (ls' := [some (.inr (some 29)), some (.inl a1), none, some (.inr (some (71 + 4 * (mnI (A 25 (a1 + 1).toNatClampNeg) 5).toNatClampNeg))), some (.inl x4_39)]) (st' := [.inl x4_39, .inr (some (73 + 4 * ((mnI (A 25 (a1 + 1).toNatClampNeg) 5).toNatClampNeg))), .inl a1, .inr (some 68)]) (I' := I_39) rfl rfl ?_
          obtain ⟨hi, hv⟩ := hv
          refine g_iald hC dX6_searchLayer_64 (ex_sh ((chO_lt hp1.2))) hi ?_
          clear hi
          obtain ⟨hp12, hv⟩ := hv
          refine g_callV hC (c_X3_exchangeNext l D ads I_39 A_39 a1 (A_39 (73 + 4 * ((mnI (A 25 (a1 + 1).toNatClampNeg) 5).toNatClampNeg)) x4_39.toNatClampNeg) hp12) dX6_searchLayer_65 nm_X3_exchangeNext rfl rfl wl_X6_137 wi_X3_exchangeNext ws_X3_exchangeNext wn_X3 wc_X3_exchangeNext ⟨by decide, by decide⟩ (as := [.inl a1, .inl (A_39 (73 + 4 * ((mnI (A 25 (a1 + 1).toNatClampNeg) 5).toNatClampNeg)) x4_39.toNatClampNeg)]) (rest := []) rfl (Nat.le_of_ble_eq_true rfl) ⟨Nat.le_refl _, Nat.le_refl _⟩ (k_qV ?_)
          intro I13 A13 hq13
          replace hv := hv I13 A13 hq13
          refine g_blk hC _ bX6_searchLayer_68_73 (pc' := 73) (ls' := [some (.inr (some 29)), some (.inl a1), none, some (.inr (some (71 + 4 * (mnI (A 25 (a1 + 1).toNatClampNeg) 5).toNatClampNeg))), some (.inl x4_39)]) (st' := [.inr (some (71 + 4 * (mnI (A 25 (a1 + 1).toNatClampNeg) 5).toNatClampNeg)), .inl x4_39, .inl a1, .inr (some 29)]) (I' := I13) rfl rfl ?_
          obtain ⟨hp14, hv⟩ := hv
          refine g_callV hC (c_X6_tryNext l D ads I13 A13 a1 x4_39 ((mnI (A 25 (a1 + 1).toNatClampNeg) 5).toNatClampNeg) (chO_lt hp1.2) hp14) dX6_searchLayer_73 nm_X6_tryNext rfl rfl wl_X6_140 wi_X6_tryNext ws_X6_tryNext wn_X6 wc_X6_tryNext ⟨by decide, by decide⟩ (as := [.inl a1, .inl x4_39, .inr (some (71 + 4 * (mnI (A 25 (a1 + 1).toNatClampNeg) 5).toNatClampNeg))]) (rest := []) rfl (Nat.le_of_ble_eq_true rfl) ⟨Nat.le_refl _, Nat.le_refl _⟩ (k_qV ?_)
          intro I15 A15 hq15
          replace hv := hv I15 A15 hq15
          refine g_blk hC _ bX6_searchLayer_76_79 (pc' := 79) (ls' := [some (.inr (some 29)), some (.inl a1), none, some (.inr (some (71 + 4 * (mnI (A 25 (a1 + 1).toNatClampNeg) 5).toNatClampNeg))), some (.inl (x4_39 + 1))]) (st' := []) (I' := I15) rfl rfl ?_
          refine g_goto hC dX6_searchLayer_79 (tgt := 39) (by decide) ?_
          exact g_weak (ls1 := [some (.inr (some 29)), some (.inl a1), none, some (.inr (some (71 + 4 * (mnI (A 25 (a1 + 1).toNatClampNeg) 5).toNatClampNeg))), some (.inl (x4_39 + 1))]) rfl (And.intro rfl (And.intro rfl (And.intro rfl (And.intro rfl trivial)))) (ih39 (x4_39 + 1) I15 A15 hv.1 (Nat.lt_of_lt_of_le hv.2 (Nat.le_of_lt_succ hn39)))
  exact g_weak (ls1 := [some (.inr (some 29)), some (.inl a1), none, some (.inr (some (71 + 4 * (mnI (A 25 (a1 + 1).toNatClampNeg) 5).toNatClampNeg))), some (.inl 0)]) rfl (And.intro rfl (And.intro rfl (And.intro rfl (And.intro rfl trivial)))) (L39 _ 0 I5 (filA A5 (32 + a1.toNatClampNeg) 120 (2147483647 : Int32)) hi39 (Nat.lt_succ_self _))
set_option maxHeartbeats 4000000 in
set_option maxRecDepth 100000 in
theorem c_X6_searchLayer (l : Launch) (D : va_G) (ads : AD) (I A : HI) (a1 : Int32) (a2 : Int32) (hp : sLa0 I A a1) : Ct l yX6_searchLayer cX6_searchLayer 5 none 3 77 D ads shp [.inr (some 29), .inl a1, .inl a2] I A (qV (fun I' A' => sLa I A a1 a2 I' A')) := by
  sorry
theorem bX6_chooseFirst_0_2 : okB cX6_chooseFirst RX6 0 [(5, 0, 0, 0, 0), (0, 0, 0, 0, 0)] := And.intro ⟨_, dX6_chooseFirst_0, rfl⟩ (And.intro ⟨_, dX6_chooseFirst_1, by decide⟩ trivial)
theorem bX6_chooseFirst_5_19 : okB cX6_chooseFirst RX6 5 [(9, 1, 0, 0, 0), (5, 0, 0, 0, 0), (26, 123, 0, 0, 2147483647), (24, 32, 6, 9, 0), (5, 0, 0, 0, 0), (0, 0, 0, 0, 0), (24, 36, 6, 10, 0), (0, 0, 0, 0, 0), (7, 2, 0, 0, 0)] := And.intro ⟨_, dX6_chooseFirst_5, rfl⟩ (And.intro ⟨_, dX6_chooseFirst_6, rfl⟩ (And.intro ⟨dX6_chooseFirst_7, wk_X6_123⟩ (And.intro ⟨dX6_chooseFirst_9, fl_X6_32, rfl, rfl⟩ (And.intro ⟨_, dX6_chooseFirst_12, rfl⟩ (And.intro ⟨_, dX6_chooseFirst_13, by decide⟩ (And.intro ⟨dX6_chooseFirst_14, fl_X6_36, rfl, rfl⟩ (And.intro ⟨_, dX6_chooseFirst_17, by decide⟩ (And.intro ⟨_, dX6_chooseFirst_18, rfl⟩ trivial))))))))
theorem bX6_chooseFirst_19_21 : okB cX6_chooseFirst RX6 19 [(3, 2, 0, 0, 0), (5, 1, 0, 0, 0)] := And.intro ⟨_, dX6_chooseFirst_19, rfl⟩ (And.intro ⟨_, dX6_chooseFirst_20, rfl⟩ trivial)
theorem bX6_chooseFirst_27_32 : okB cX6_chooseFirst RX6 27 [(5, 0, 0, 0, 0), (23, 19, 6, 5, 0), (0, 0, 0, 0, 0)] := And.intro ⟨_, dX6_chooseFirst_27, rfl⟩ (And.intro ⟨dX6_chooseFirst_28, fl_X6_19⟩ (And.intro ⟨_, dX6_chooseFirst_31, by decide⟩ trivial))
theorem bX6_chooseFirst_33_34 : okB cX6_chooseFirst RX6 33 [(3, 2, 0, 0, 0)] := And.intro ⟨_, dX6_chooseFirst_33, rfl⟩ trivial
theorem bX6_chooseFirst_35_39 : okB cX6_chooseFirst RX6 35 [(5, 0, 0, 0, 0), (23, 32, 6, 9, 0)] := And.intro ⟨_, dX6_chooseFirst_35, rfl⟩ (And.intro ⟨dX6_chooseFirst_36, fl_X6_32⟩ trivial)
theorem bX6_chooseFirst_76_81 : okB cX6_chooseFirst RX6 76 [(5, 0, 0, 0, 0), (23, 19, 6, 5, 0), (0, 0, 0, 0, 0)] := And.intro ⟨_, dX6_chooseFirst_76, rfl⟩ (And.intro ⟨dX6_chooseFirst_77, fl_X6_19⟩ (And.intro ⟨_, dX6_chooseFirst_80, by decide⟩ trivial))
theorem bX6_chooseFirst_82_83 : okB cX6_chooseFirst RX6 82 [(3, 2, 0, 0, 0)] := And.intro ⟨_, dX6_chooseFirst_82, rfl⟩ trivial
theorem bX6_chooseFirst_84_88 : okB cX6_chooseFirst RX6 84 [(5, 0, 0, 0, 0), (23, 32, 6, 9, 0)] := And.intro ⟨_, dX6_chooseFirst_84, rfl⟩ (And.intro ⟨dX6_chooseFirst_85, fl_X6_32⟩ trivial)
theorem bX6_chooseFirst_133_136 : okB cX6_chooseFirst RX6 133 [(11, 2, 0, 0, 1)] := And.intro ⟨_, dX6_chooseFirst_133, by decide⟩ trivial
theorem bX6_chooseFirst_91_101 : okB cX6_chooseFirst RX6 91 [(5, 0, 0, 0, 0), (20, 0, 0, 0, 0), (23, 36, 6, 10, 0), (5, 0, 0, 0, 0), (23, 22, 6, 6, 0), (0, 0, 0, 0, 0)] := And.intro ⟨_, dX6_chooseFirst_91, rfl⟩ (And.intro dX6_chooseFirst_92 (And.intro ⟨dX6_chooseFirst_93, fl_X6_36⟩ (And.intro ⟨_, dX6_chooseFirst_96, rfl⟩ (And.intro ⟨dX6_chooseFirst_97, fl_X6_22⟩ (And.intro ⟨_, dX6_chooseFirst_100, by decide⟩ trivial)))))
theorem bX6_chooseFirst_102_103 : okB cX6_chooseFirst RX6 102 [(3, 2, 0, 0, 0)] := And.intro ⟨_, dX6_chooseFirst_102, rfl⟩ trivial
theorem bX6_chooseFirst_104_110 : okB cX6_chooseFirst RX6 104 [(12, 0, 0, 0, 0), (24, 36, 6, 10, 0), (5, 1, 0, 0, 0), (3, 2, 0, 0, 0)] := And.intro dX6_chooseFirst_104 (And.intro ⟨dX6_chooseFirst_105, fl_X6_36, rfl, rfl⟩ (And.intro ⟨_, dX6_chooseFirst_108, rfl⟩ (And.intro ⟨_, dX6_chooseFirst_109, rfl⟩ trivial)))
theorem bX6_chooseFirst_113_119 : okB cX6_chooseFirst RX6 113 [(5, 1, 0, 0, 0), (5, 0, 0, 0, 0), (23, 28, 6, 8, 0), (0, 0, 0, 0, 0)] := And.intro ⟨_, dX6_chooseFirst_113, rfl⟩ (And.intro ⟨_, dX6_chooseFirst_114, rfl⟩ (And.intro ⟨dX6_chooseFirst_115, fl_X6_28⟩ (And.intro ⟨_, dX6_chooseFirst_118, by decide⟩ trivial)))
theorem bX6_chooseFirst_126_132 : okB cX6_chooseFirst RX6 126 [(5, 0, 0, 0, 0), (23, 28, 6, 8, 0), (0, 0, 0, 0, 0), (3, 2, 0, 0, 0)] := And.intro ⟨_, dX6_chooseFirst_126, rfl⟩ (And.intro ⟨dX6_chooseFirst_127, fl_X6_28⟩ (And.intro ⟨_, dX6_chooseFirst_130, by decide⟩ (And.intro ⟨_, dX6_chooseFirst_131, rfl⟩ trivial)))
theorem bX6_chooseFirst_42_48 : okB cX6_chooseFirst RX6 42 [(5, 0, 0, 0, 0), (5, 0, 0, 0, 0), (23, 19, 6, 5, 0), (0, 0, 0, 0, 0)] := And.intro ⟨_, dX6_chooseFirst_42, rfl⟩ (And.intro ⟨_, dX6_chooseFirst_43, rfl⟩ (And.intro ⟨dX6_chooseFirst_44, fl_X6_19⟩ (And.intro ⟨_, dX6_chooseFirst_47, by decide⟩ trivial)))
theorem bX6_chooseFirst_49_50 : okB cX6_chooseFirst RX6 49 [(3, 2, 0, 0, 0)] := And.intro ⟨_, dX6_chooseFirst_49, rfl⟩ trivial
theorem bX6_chooseFirst_51_60 : okB cX6_chooseFirst RX6 51 [(24, 32, 6, 9, 0), (5, 0, 0, 0, 0), (5, 0, 0, 0, 0), (23, 22, 6, 6, 0), (0, 0, 0, 0, 0)] := And.intro ⟨dX6_chooseFirst_51, fl_X6_32, rfl, rfl⟩ (And.intro ⟨_, dX6_chooseFirst_54, rfl⟩ (And.intro ⟨_, dX6_chooseFirst_55, rfl⟩ (And.intro ⟨dX6_chooseFirst_56, fl_X6_22⟩ (And.intro ⟨_, dX6_chooseFirst_59, by decide⟩ trivial))))
theorem bX6_chooseFirst_61_62 : okB cX6_chooseFirst RX6 61 [(3, 2, 0, 0, 0)] := And.intro ⟨_, dX6_chooseFirst_61, rfl⟩ trivial
theorem bX6_chooseFirst_63_72 : okB cX6_chooseFirst RX6 63 [(24, 36, 6, 10, 0), (5, 0, 0, 0, 0), (23, 28, 6, 8, 0), (0, 0, 0, 0, 0), (3, 2, 0, 0, 0)] := And.intro ⟨dX6_chooseFirst_63, fl_X6_36, rfl, rfl⟩ (And.intro ⟨_, dX6_chooseFirst_66, rfl⟩ (And.intro ⟨dX6_chooseFirst_67, fl_X6_28⟩ (And.intro ⟨_, dX6_chooseFirst_70, by decide⟩ (And.intro ⟨_, dX6_chooseFirst_71, rfl⟩ trivial))))
set_option maxHeartbeats 4000000 in
set_option maxRecDepth 100000 in
theorem k_X6_chooseFirst (l : Launch) (D : va_G) (ads : AD) (I A : HI) (po : Option AV → HI → HI → Prop) (Iv19 : Int32 → HI → HI → Prop) (mu19 : Int32 → HI → HI → Nat)
    (hv : ((vp_in (0 : Int32) 11 ∧ 0 ≤ A 25 (0 : Int32).toNatClampNeg) ∧ (Iv19 0 (up2 (up2 I 29 9 2147483647) 29 10 0) A ∧ ∀ (x2_19 : Int32) (I_19 : HI) (A_19 : HI), Iv19 x2_19 I_19 A_19 → (((I_19 (71 + 4 * ((mnI (A 25 (0 : Int32).toNatClampNeg) 5).toNatClampNeg)) 1) ≤ x2_19 → po none I_19 A_19) ∧ (¬ (I_19 (71 + 4 * ((mnI (A 25 (0 : Int32).toNatClampNeg) 5).toNatClampNeg)) 1) ≤ x2_19 → (vp_in (0 : Int32) 11 ∧ (vp_in x2_19 120 ∧ (((I_19 29 9) ≤ (A_19 (32 + (0 : Int32).toNatClampNeg) x2_19.toNatClampNeg) → (vp_in (0 : Int32) 11 ∧ (vp_in x2_19 120 ∧ ((¬ (A_19 (32 + (0 : Int32).toNatClampNeg) x2_19.toNatClampNeg) = (I_19 29 9) → (Iv19 (x2_19 + 1) I_19 A_19 ∧ mu19 (x2_19 + 1) I_19 A_19 < mu19 x2_19 I_19 A_19)) ∧ ((A_19 (32 + (0 : Int32).toNatClampNeg) x2_19.toNatClampNeg) = (I_19 29 9) → (vp_in (0 : Int32) 11 ∧ (vp_in x2_19 120 ∧ ((vp_in x2_19 (chN ((mnI (A 25 (0 : Int32).toNatClampNeg) 5).toNatClampNeg))) ∧ (vp_in (0 : Int32) 11 ∧ ((vp_in (A_19 67 (0 : Int32).toNatClampNeg) (chN ((mnI (A 25 (0 : Int32).toNatClampNeg) 5).toNatClampNeg))) ∧ (((A_19 (74 + 4 * ((mnI (A 25 (0 : Int32).toNatClampNeg) 5).toNatClampNeg)) (A_19 67 (0 : Int32).toNatClampNeg).toNatClampNeg) ≤ (A_19 (74 + 4 * ((mnI (A 25 (0 : Int32).toNatClampNeg) 5).toNatClampNeg)) x2_19.toNatClampNeg) → (Iv19 (x2_19 + 1) (up2 I_19 29 10 ((I_19 29 10) + (A_19 (44 + (0 : Int32).toNatClampNeg) x2_19.toNatClampNeg))) A_19 ∧ mu19 (x2_19 + 1) (up2 I_19 29 10 ((I_19 29 10) + (A_19 (44 + (0 : Int32).toNatClampNeg) x2_19.toNatClampNeg))) A_19 < mu19 x2_19 I_19 A_19)) ∧ (¬ (A_19 (74 + 4 * ((mnI (A 25 (0 : Int32).toNatClampNeg) 5).toNatClampNeg)) (A_19 67 (0 : Int32).toNatClampNeg).toNatClampNeg) ≤ (A_19 (74 + 4 * ((mnI (A 25 (0 : Int32).toNatClampNeg) 5).toNatClampNeg)) x2_19.toNatClampNeg) → (vp_in (0 : Int32) 11 ∧ (Iv19 (x2_19 + 1) (up2 I_19 29 10 ((I_19 29 10) + (A_19 (44 + (0 : Int32).toNatClampNeg) x2_19.toNatClampNeg))) (up2 A_19 67 (0 : Int32).toNatClampNeg x2_19) ∧ mu19 (x2_19 + 1) (up2 I_19 29 10 ((I_19 29 10) + (A_19 (44 + (0 : Int32).toNatClampNeg) x2_19.toNatClampNeg))) (up2 A_19 67 (0 : Int32).toNatClampNeg x2_19) < mu19 x2_19 I_19 A_19)))))))))))))) ∧ (¬ (I_19 29 9) ≤ (A_19 (32 + (0 : Int32).toNatClampNeg) x2_19.toNatClampNeg) → (vp_in (0 : Int32) 11 ∧ (vp_in x2_19 120 ∧ (vp_in (0 : Int32) 11 ∧ (vp_in x2_19 120 ∧ (vp_in (0 : Int32) 11 ∧ (Iv19 (x2_19 + 1) (up2 (up2 I_19 29 9 (A_19 (32 + (0 : Int32).toNatClampNeg) x2_19.toNatClampNeg)) 29 10 (A_19 (44 + (0 : Int32).toNatClampNeg) x2_19.toNatClampNeg)) (up2 A_19 67 (0 : Int32).toNatClampNeg x2_19) ∧ mu19 (x2_19 + 1) (up2 (up2 I_19 29 9 (A_19 (32 + (0 : Int32).toNatClampNeg) x2_19.toNatClampNeg)) 29 10 (A_19 (44 + (0 : Int32).toNatClampNeg) x2_19.toNatClampNeg)) (up2 A_19 67 (0 : Int32).toNatClampNeg x2_19) < mu19 x2_19 I_19 A_19))))))))))))))) : Ct l yX6_chooseFirst cX6_chooseFirst 3 none 2 42 D ads shp [.inr (some 29)] I A po := by
  refine Ct_of (by decide) (Nat.le_of_ble_eq_true rfl) ?_
  intro p e s m args below meth c hC hr
  replace hC : CX p s m args meth c cX6_chooseFirst 3 RX6 (AdS ads s.heap.size) := hC
  show Gm p l e s m args below meth c D ads 2 42 3 po I A 0 [some (.inr (some 29)), none, none] []
  refine g_blk hC _ bX6_chooseFirst_0_2 (pc' := 2) (ls' := [some (.inr (some 29)), none, none]) (st' := [.inl 0, .inr (some 29)]) (I' := I) rfl rfl ?_
  obtain ⟨hp1, hv⟩ := hv
  refine g_callV hC (c_X6_changesOf l D ads I A (0 : Int32) hp1) dX6_chooseFirst_2 nm_X6_changesOf rfl rfl wl_X6_96 wi_X6_changesOf ws_X6_changesOf wn_X6 wc_X6_changesOf ⟨by decide, by decide⟩ (as := [.inl 0]) (rest := []) rfl (Nat.le_of_ble_eq_true rfl) ⟨Nat.le_refl _, Nat.le_refl _⟩ (k_qR ?_)
  refine g_blk hC _ bX6_chooseFirst_5_19 (pc' := 19) (ls' := [some (.inr (some 29)), some (.inr (some (71 + 4 * (mnI (A 25 (0 : Int32).toNatClampNeg) 5).toNatClampNeg))), some (.inl 0)]) (st' := []) (I' := up2 (up2 I 29 9 2147483647) 29 10 0) rfl rfl ?_
  obtain ⟨hi19, hb19⟩ := hv
  have L19 : ∀ (n : Nat) (x2_19 : Int32) (I_19 : HI) (A_19 : HI), Iv19 x2_19 I_19 A_19 → mu19 x2_19 I_19 A_19 < n → Gm p l e s m args below meth c D ads 2 42 3 po I_19 A_19 19 [some (.inr (some 29)), some (.inr (some (71 + 4 * (mnI (A 25 (0 : Int32).toNatClampNeg) 5).toNatClampNeg))), some (.inl x2_19)] [] := by
    intro n
    induction n with
    | zero => intro x2_19 I_19 A_19 _ hn; exact absurd hn (Nat.not_lt_zero _)
    | succ n ih19 =>
      intro x2_19 I_19 A_19 hv hn19
      replace hv := hb19 x2_19 I_19 A_19 hv
      skip
      refine g_blk hC _ bX6_chooseFirst_19_21 (pc' := 21) (ls' := [some (.inr (some 29)), some (.inr (some (71 + 4 * (mnI (A 25 (0 : Int32).toNatClampNeg) 5).toNatClampNeg))), some (.inl x2_19)]) (st' := [.inr (some (71 + 4 * (mnI (A 25 (0 : Int32).toNatClampNeg) 5).toNatClampNeg)), .inl x2_19]) (I' := I_19) rfl rfl ?_
      obtain ⟨fs9, hs9⟩ := ch_sh (chO_lt hp1.2)
      refine g_callV hC (c_X0_number l D ads I_19 A_19 ((mnI (A 25 (0 : Int32).toNatClampNeg) 5).toNatClampNeg) (chO_lt hp1.2)) dX6_chooseFirst_21 nm_X0_number hs9 rfl wl_X6_130 wi_X0_number ws_X0_number wn_X0 wc_X0_number ⟨by decide, by decide⟩ (as := []) (rest := [.inl x2_19]) rfl (Nat.le_of_ble_eq_true rfl) ⟨Nat.le_refl _, Nat.le_refl _⟩ (k_qI ?_)
      obtain ⟨hv1, hv2⟩ := hv
      refine g_cge hC dX6_chooseFirst_24 (tgt := 139) (by decide) (fun hc => ?_) (fun hc => ?_)
      · have hv := hv1 hc
        clear hv1 hv2 hc
        exact g_retv hC hr dX6_chooseFirst_139 hv
      · have hv := hv2 hc
        clear hv1 hv2 hc
        refine g_blk hC _ bX6_chooseFirst_27_32 (pc' := 32) (ls' := [some (.inr (some 29)), some (.inr (some (71 + 4 * (mnI (A 25 (0 : Int32).toNatClampNeg) 5).toNatClampNeg))), some (.inl x2_19)]) (st' := [.inl 0, .inr (some 31)]) (I' := I_19) rfl rfl ?_
        obtain ⟨hr3, hv⟩ := hv
        refine g_aald hC dX6_chooseFirst_32 (f := _) rfl hr3 (ra_31 (vin_lt hr3)) ?_
        refine g_blk hC _ bX6_chooseFirst_33_34 (pc' := 34) (ls' := [some (.inr (some 29)), some (.inr (some (71 + 4 * (mnI (A 25 (0 : Int32).toNatClampNeg) 5).toNatClampNeg))), some (.inl x2_19)]) (st' := [.inl x2_19, .inr (some (32 + (0 : Int32).toNatClampNeg))]) (I' := I_19) rfl rfl ?_
        obtain ⟨hi, hv⟩ := hv
        refine g_iald hC dX6_chooseFirst_34 (rw_31 (vin_lt hr3)) hi ?_
        clear hi
        refine g_blk hC _ bX6_chooseFirst_35_39 (pc' := 39) (ls' := [some (.inr (some 29)), some (.inr (some (71 + 4 * (mnI (A 25 (0 : Int32).toNatClampNeg) 5).toNatClampNeg))), some (.inl x2_19)]) (st' := [.inl (I_19 29 9), .inl (A_19 (32 + (0 : Int32).toNatClampNeg) x2_19.toNatClampNeg)]) (I' := I_19) rfl rfl ?_
        obtain ⟨hv1, hv2⟩ := hv
        refine g_cge hC dX6_chooseFirst_39 (tgt := 76) (by decide) (fun hc => ?_) (fun hc => ?_)
        · have hv := hv1 hc
          clear hv1 hv2 hc
          refine g_blk hC _ bX6_chooseFirst_76_81 (pc' := 81) (ls' := [some (.inr (some 29)), some (.inr (some (71 + 4 * (mnI (A 25 (0 : Int32).toNatClampNeg) 5).toNatClampNeg))), some (.inl x2_19)]) (st' := [.inl 0, .inr (some 31)]) (I' := I_19) rfl rfl ?_
          obtain ⟨hr4, hv⟩ := hv
          refine g_aald hC dX6_chooseFirst_81 (f := _) rfl hr4 (ra_31 (vin_lt hr4)) ?_
          refine g_blk hC _ bX6_chooseFirst_82_83 (pc' := 83) (ls' := [some (.inr (some 29)), some (.inr (some (71 + 4 * (mnI (A 25 (0 : Int32).toNatClampNeg) 5).toNatClampNeg))), some (.inl x2_19)]) (st' := [.inl x2_19, .inr (some (32 + (0 : Int32).toNatClampNeg))]) (I' := I_19) rfl rfl ?_
          obtain ⟨hi, hv⟩ := hv
          refine g_iald hC dX6_chooseFirst_83 (rw_31 (vin_lt hr4)) hi ?_
          clear hi
          refine g_blk hC _ bX6_chooseFirst_84_88 (pc' := 88) (ls' := [some (.inr (some 29)), some (.inr (some (71 + 4 * (mnI (A 25 (0 : Int32).toNatClampNeg) 5).toNatClampNeg))), some (.inl x2_19)]) (st' := [.inl (I_19 29 9), .inl (A_19 (32 + (0 : Int32).toNatClampNeg) x2_19.toNatClampNeg)]) (I' := I_19) rfl rfl ?_
          obtain ⟨hv1, hv2⟩ := hv
          refine g_cne hC dX6_chooseFirst_88 (tgt := 133) (by decide) (fun hc => ?_) (fun hc => ?_)
          · have hv := hv1 hc
            clear hv1 hv2 hc
            refine g_blk hC _ bX6_chooseFirst_133_136 (pc' := 136) (ls' := [some (.inr (some 29)), some (.inr (some (71 + 4 * (mnI (A 25 (0 : Int32).toNatClampNeg) 5).toNatClampNeg))), some (.inl (x2_19 + 1))]) (st' := []) (I' := I_19) rfl rfl ?_
            refine g_goto hC dX6_chooseFirst_136 (tgt := 19) (by decide) ?_
            exact g_weak (ls1 := [some (.inr (some 29)), some (.inr (some (71 + 4 * (mnI (A 25 (0 : Int32).toNatClampNeg) 5).toNatClampNeg))), some (.inl (x2_19 + 1))]) rfl (And.intro rfl (And.intro rfl (And.intro rfl trivial))) (ih19 (x2_19 + 1) I_19 A_19 hv.1 (Nat.lt_of_lt_of_le hv.2 (Nat.le_of_lt_succ hn19)))
          · have hv := hv2 hc
            clear hv1 hv2 hc
            refine g_blk hC _ bX6_chooseFirst_91_101 (pc' := 101) (ls' := [some (.inr (some 29)), some (.inr (some (71 + 4 * (mnI (A 25 (0 : Int32).toNatClampNeg) 5).toNatClampNeg))), some (.inl x2_19)]) (st' := [.inl 0, .inr (some 43), .inl (I_19 29 10), .inr (some 29)]) (I' := I_19) rfl rfl ?_
            obtain ⟨hr5, hv⟩ := hv
            refine g_aald hC dX6_chooseFirst_101 (f := _) rfl hr5 (ra_43 (vin_lt hr5)) ?_
            refine g_blk hC _ bX6_chooseFirst_102_103 (pc' := 103) (ls' := [some (.inr (some 29)), some (.inr (some (71 + 4 * (mnI (A 25 (0 : Int32).toNatClampNeg) 5).toNatClampNeg))), some (.inl x2_19)]) (st' := [.inl x2_19, .inr (some (44 + (0 : Int32).toNatClampNeg)), .inl (I_19 29 10), .inr (some 29)]) (I' := I_19) rfl rfl ?_
            obtain ⟨hi, hv⟩ := hv
            refine g_iald hC dX6_chooseFirst_103 (rw_43 (vin_lt hr5)) hi ?_
            clear hi
            refine g_blk hC _ bX6_chooseFirst_104_110 (pc' := 110) (ls' := [some (.inr (some 29)), some (.inr (some (71 + 4 * (mnI (A 25 (0 : Int32).toNatClampNeg) 5).toNatClampNeg))), some (.inl x2_19)]) (st' := [.inl x2_19, .inr (some (71 + 4 * (mnI (A 25 (0 : Int32).toNatClampNeg) 5).toNatClampNeg))]) (I' := up2 I_19 29 10 ((I_19 29 10) + (A_19 (44 + (0 : Int32).toNatClampNeg) x2_19.toNatClampNeg))) rfl rfl ?_
            obtain ⟨hp6, hv⟩ := hv
            obtain ⟨fs9, hs9⟩ := ch_sh (chO_lt hp1.2)
            refine g_callV hC (c_X0_rankAt l D ads (up2 I_19 29 10 ((I_19 29 10) + (A_19 (44 + (0 : Int32).toNatClampNeg) x2_19.toNatClampNeg))) A_19 ((mnI (A 25 (0 : Int32).toNatClampNeg) 5).toNatClampNeg) x2_19 (chO_lt hp1.2) hp6) dX6_chooseFirst_110 nm_X0_rankAt hs9 rfl wl_X6_150 wi_X0_rankAt ws_X0_rankAt wn_X0 wc_X0_rankAt ⟨by decide, by decide⟩ (as := [.inl x2_19]) (rest := []) rfl (Nat.le_of_ble_eq_true rfl) ⟨Nat.le_refl _, Nat.le_refl _⟩ (k_qI ?_)
            refine g_blk hC _ bX6_chooseFirst_113_119 (pc' := 119) (ls' := [some (.inr (some 29)), some (.inr (some (71 + 4 * (mnI (A 25 (0 : Int32).toNatClampNeg) 5).toNatClampNeg))), some (.inl x2_19)]) (st' := [.inl 0, .inr (some 67), .inr (some (71 + 4 * (mnI (A 25 (0 : Int32).toNatClampNeg) 5).toNatClampNeg)), .inl (A_19 (74 + 4 * ((mnI (A 25 (0 : Int32).toNatClampNeg) 5).toNatClampNeg)) x2_19.toNatClampNeg)]) (I' := up2 I_19 29 10 ((I_19 29 10) + (A_19 (44 + (0 : Int32).toNatClampNeg) x2_19.toNatClampNeg))) rfl rfl ?_
            obtain ⟨hi, hv⟩ := hv
            refine g_iald hC dX6_chooseFirst_119 (rfl) hi ?_
            clear hi
            obtain ⟨hp7, hv⟩ := hv
            obtain ⟨fs9, hs9⟩ := ch_sh (chO_lt hp1.2)
            refine g_callV hC (c_X0_rankAt l D ads (up2 I_19 29 10 ((I_19 29 10) + (A_19 (44 + (0 : Int32).toNatClampNeg) x2_19.toNatClampNeg))) A_19 ((mnI (A 25 (0 : Int32).toNatClampNeg) 5).toNatClampNeg) (A_19 67 (0 : Int32).toNatClampNeg) (chO_lt hp1.2) hp7) dX6_chooseFirst_120 nm_X0_rankAt hs9 rfl wl_X6_150 wi_X0_rankAt ws_X0_rankAt wn_X0 wc_X0_rankAt ⟨by decide, by decide⟩ (as := [.inl (A_19 67 (0 : Int32).toNatClampNeg)]) (rest := [.inl (A_19 (74 + 4 * ((mnI (A 25 (0 : Int32).toNatClampNeg) 5).toNatClampNeg)) x2_19.toNatClampNeg)]) rfl (Nat.le_of_ble_eq_true rfl) ⟨Nat.le_refl _, Nat.le_refl _⟩ (k_qI ?_)
            obtain ⟨hv1, hv2⟩ := hv
            refine g_cge hC dX6_chooseFirst_123 (tgt := 133) (by decide) (fun hc => ?_) (fun hc => ?_)
            · have hv := hv1 hc
              clear hv1 hv2 hc
              refine g_blk hC _ bX6_chooseFirst_133_136 (pc' := 136) (ls' := [some (.inr (some 29)), some (.inr (some (71 + 4 * (mnI (A 25 (0 : Int32).toNatClampNeg) 5).toNatClampNeg))), some (.inl (x2_19 + 1))]) (st' := []) (I' := up2 I_19 29 10 ((I_19 29 10) + (A_19 (44 + (0 : Int32).toNatClampNeg) x2_19.toNatClampNeg))) rfl rfl ?_
              refine g_goto hC dX6_chooseFirst_136 (tgt := 19) (by decide) ?_
              exact g_weak (ls1 := [some (.inr (some 29)), some (.inr (some (71 + 4 * (mnI (A 25 (0 : Int32).toNatClampNeg) 5).toNatClampNeg))), some (.inl (x2_19 + 1))]) rfl (And.intro rfl (And.intro rfl (And.intro rfl trivial))) (ih19 (x2_19 + 1) (up2 I_19 29 10 ((I_19 29 10) + (A_19 (44 + (0 : Int32).toNatClampNeg) x2_19.toNatClampNeg))) A_19 hv.1 (Nat.lt_of_lt_of_le hv.2 (Nat.le_of_lt_succ hn19)))
            · have hv := hv2 hc
              clear hv1 hv2 hc
              refine g_blk hC _ bX6_chooseFirst_126_132 (pc' := 132) (ls' := [some (.inr (some 29)), some (.inr (some (71 + 4 * (mnI (A 25 (0 : Int32).toNatClampNeg) 5).toNatClampNeg))), some (.inl x2_19)]) (st' := [.inl x2_19, .inl 0, .inr (some 67)]) (I' := up2 I_19 29 10 ((I_19 29 10) + (A_19 (44 + (0 : Int32).toNatClampNeg) x2_19.toNatClampNeg))) rfl rfl ?_
              obtain ⟨hi, hv⟩ := hv
              refine g_iast hC dX6_chooseFirst_132 (rfl) hi ?_
              clear hi
              refine g_blk hC _ bX6_chooseFirst_133_136 (pc' := 136) (ls' := [some (.inr (some 29)), some (.inr (some (71 + 4 * (mnI (A 25 (0 : Int32).toNatClampNeg) 5).toNatClampNeg))), some (.inl (x2_19 + 1))]) (st' := []) (I' := up2 I_19 29 10 ((I_19 29 10) + (A_19 (44 + (0 : Int32).toNatClampNeg) x2_19.toNatClampNeg))) rfl rfl ?_
              refine g_goto hC dX6_chooseFirst_136 (tgt := 19) (by decide) ?_
              exact g_weak (ls1 := [some (.inr (some 29)), some (.inr (some (71 + 4 * (mnI (A 25 (0 : Int32).toNatClampNeg) 5).toNatClampNeg))), some (.inl (x2_19 + 1))]) rfl (And.intro rfl (And.intro rfl (And.intro rfl trivial))) (ih19 (x2_19 + 1) (up2 I_19 29 10 ((I_19 29 10) + (A_19 (44 + (0 : Int32).toNatClampNeg) x2_19.toNatClampNeg))) (up2 A_19 67 (0 : Int32).toNatClampNeg x2_19) hv.1 (Nat.lt_of_lt_of_le hv.2 (Nat.le_of_lt_succ hn19)))
        · have hv := hv2 hc
          clear hv1 hv2 hc
          refine g_blk hC _ bX6_chooseFirst_42_48 (pc' := 48) (ls' := [some (.inr (some 29)), some (.inr (some (71 + 4 * (mnI (A 25 (0 : Int32).toNatClampNeg) 5).toNatClampNeg))), some (.inl x2_19)]) (st' := [.inl 0, .inr (some 31), .inr (some 29)]) (I' := I_19) rfl rfl ?_
          obtain ⟨hr8, hv⟩ := hv
          refine g_aald hC dX6_chooseFirst_48 (f := _) rfl hr8 (ra_31 (vin_lt hr8)) ?_
          refine g_blk hC _ bX6_chooseFirst_49_50 (pc' := 50) (ls' := [some (.inr (some 29)), some (.inr (some (71 + 4 * (mnI (A 25 (0 : Int32).toNatClampNeg) 5).toNatClampNeg))), some (.inl x2_19)]) (st' := [.inl x2_19, .inr (some (32 + (0 : Int32).toNatClampNeg)), .inr (some 29)]) (I' := I_19) rfl rfl ?_
          obtain ⟨hi, hv⟩ := hv
          refine g_iald hC dX6_chooseFirst_50 (rw_31 (vin_lt hr8)) hi ?_
          clear hi
          refine g_blk hC _ bX6_chooseFirst_51_60 (pc' := 60) (ls' := [some (.inr (some 29)), some (.inr (some (71 + 4 * (mnI (A 25 (0 : Int32).toNatClampNeg) 5).toNatClampNeg))), some (.inl x2_19)]) (st' := [.inl 0, .inr (some 43), .inr (some 29)]) (I' := up2 I_19 29 9 (A_19 (32 + (0 : Int32).toNatClampNeg) x2_19.toNatClampNeg)) rfl rfl ?_
          obtain ⟨hr9, hv⟩ := hv
          refine g_aald hC dX6_chooseFirst_60 (f := _) rfl hr9 (ra_43 (vin_lt hr9)) ?_
          refine g_blk hC _ bX6_chooseFirst_61_62 (pc' := 62) (ls' := [some (.inr (some 29)), some (.inr (some (71 + 4 * (mnI (A 25 (0 : Int32).toNatClampNeg) 5).toNatClampNeg))), some (.inl x2_19)]) (st' := [.inl x2_19, .inr (some (44 + (0 : Int32).toNatClampNeg)), .inr (some 29)]) (I' := up2 I_19 29 9 (A_19 (32 + (0 : Int32).toNatClampNeg) x2_19.toNatClampNeg)) rfl rfl ?_
          obtain ⟨hi, hv⟩ := hv
          refine g_iald hC dX6_chooseFirst_62 (rw_43 (vin_lt hr9)) hi ?_
          clear hi
          refine g_blk hC _ bX6_chooseFirst_63_72 (pc' := 72) (ls' := [some (.inr (some 29)), some (.inr (some (71 + 4 * (mnI (A 25 (0 : Int32).toNatClampNeg) 5).toNatClampNeg))), some (.inl x2_19)]) (st' := [.inl x2_19, .inl 0, .inr (some 67)]) (I' := up2 (up2 I_19 29 9 (A_19 (32 + (0 : Int32).toNatClampNeg) x2_19.toNatClampNeg)) 29 10 (A_19 (44 + (0 : Int32).toNatClampNeg) x2_19.toNatClampNeg)) rfl rfl ?_
          obtain ⟨hi, hv⟩ := hv
          refine g_iast hC dX6_chooseFirst_72 (rfl) hi ?_
          clear hi
          refine g_goto hC dX6_chooseFirst_73 (tgt := 133) (by decide) ?_
          refine g_blk hC _ bX6_chooseFirst_133_136 (pc' := 136) (ls' := [some (.inr (some 29)), some (.inr (some (71 + 4 * (mnI (A 25 (0 : Int32).toNatClampNeg) 5).toNatClampNeg))), some (.inl (x2_19 + 1))]) (st' := []) (I' := up2 (up2 I_19 29 9 (A_19 (32 + (0 : Int32).toNatClampNeg) x2_19.toNatClampNeg)) 29 10 (A_19 (44 + (0 : Int32).toNatClampNeg) x2_19.toNatClampNeg)) rfl rfl ?_
          refine g_goto hC dX6_chooseFirst_136 (tgt := 19) (by decide) ?_
          exact g_weak (ls1 := [some (.inr (some 29)), some (.inr (some (71 + 4 * (mnI (A 25 (0 : Int32).toNatClampNeg) 5).toNatClampNeg))), some (.inl (x2_19 + 1))]) rfl (And.intro rfl (And.intro rfl (And.intro rfl trivial))) (ih19 (x2_19 + 1) (up2 (up2 I_19 29 9 (A_19 (32 + (0 : Int32).toNatClampNeg) x2_19.toNatClampNeg)) 29 10 (A_19 (44 + (0 : Int32).toNatClampNeg) x2_19.toNatClampNeg)) (up2 A_19 67 (0 : Int32).toNatClampNeg x2_19) hv.1 (Nat.lt_of_lt_of_le hv.2 (Nat.le_of_lt_succ hn19)))
  exact g_weak (ls1 := [some (.inr (some 29)), some (.inr (some (71 + 4 * (mnI (A 25 (0 : Int32).toNatClampNeg) 5).toNatClampNeg))), some (.inl 0)]) rfl (And.intro rfl (And.intro rfl (And.intro rfl trivial))) (L19 _ 0 (up2 (up2 I 29 9 2147483647) 29 10 0) A hi19 (Nat.lt_succ_self _))
set_option maxHeartbeats 4000000 in
set_option maxRecDepth 100000 in
theorem c_X6_chooseFirst (l : Launch) (D : va_G) (ads : AD) (I A : HI) (hp : chF0 I A) : Ct l yX6_chooseFirst cX6_chooseFirst 3 none 2 42 D ads shp [.inr (some 29)] I A (qV (fun I' A' => chF I A I' A')) := by
  sorry
theorem bX6_countCrosses_0_2 : okB cX6_countCrosses RX6 0 [(5, 0, 0, 0, 0), (3, 1, 0, 0, 0)] := And.intro ⟨_, dX6_countCrosses_0, rfl⟩ (And.intro ⟨_, dX6_countCrosses_1, rfl⟩ trivial)
theorem bX6_countCrosses_5_10 : okB cX6_countCrosses RX6 5 [(5, 0, 0, 0, 0), (23, 28, 6, 8, 0), (3, 1, 0, 0, 0)] := And.intro ⟨_, dX6_countCrosses_5, rfl⟩ (And.intro ⟨dX6_countCrosses_6, fl_X6_28⟩ (And.intro ⟨_, dX6_countCrosses_9, rfl⟩ trivial))
theorem bX6_countCrosses_11_12 : okB cX6_countCrosses RX6 11 [(3, 2, 0, 0, 0)] := And.intro ⟨_, dX6_countCrosses_11, rfl⟩ trivial
theorem bX6_countCrosses_15_19 : okB cX6_countCrosses RX6 15 [(8, 4, 0, 0, 0), (5, 0, 0, 0, 0), (3, 1, 0, 0, 0)] := And.intro dX6_countCrosses_15 (And.intro ⟨_, dX6_countCrosses_17, rfl⟩ (And.intro ⟨_, dX6_countCrosses_18, rfl⟩ trivial))
theorem bX6_countCrosses_22_27 : okB cX6_countCrosses RX6 22 [(5, 0, 0, 0, 0), (23, 28, 6, 8, 0), (3, 1, 0, 0, 0)] := And.intro ⟨_, dX6_countCrosses_22, rfl⟩ (And.intro ⟨dX6_countCrosses_23, fl_X6_28⟩ (And.intro ⟨_, dX6_countCrosses_26, rfl⟩ trivial))
theorem bX6_countCrosses_28_29 : okB cX6_countCrosses RX6 28 [(3, 3, 0, 0, 0)] := And.intro ⟨_, dX6_countCrosses_28, rfl⟩ trivial
theorem bX6_countCrosses_32_38 : okB cX6_countCrosses RX6 32 [(8, 5, 0, 0, 0), (5, 0, 0, 0, 0), (3, 1, 0, 0, 0), (0, 0, 0, 0, 1), (12, 0, 0, 0, 0)] := And.intro dX6_countCrosses_32 (And.intro ⟨_, dX6_countCrosses_34, rfl⟩ (And.intro ⟨_, dX6_countCrosses_35, rfl⟩ (And.intro ⟨_, dX6_countCrosses_36, by decide⟩ (And.intro dX6_countCrosses_37 trivial))))
theorem bX6_countCrosses_41_46 : okB cX6_countCrosses RX6 41 [(10, 6, 0, 0, 0), (0, 0, 0, 0, 0), (8, 7, 0, 0, 0)] := And.intro dX6_countCrosses_41 (And.intro ⟨_, dX6_countCrosses_43, by decide⟩ (And.intro dX6_countCrosses_44 trivial))
theorem bX6_countCrosses_46_55 : okB cX6_countCrosses RX6 46 [(4, 7, 0, 0, 0), (5, 0, 0, 0, 0), (23, 52, 6, 1, 0), (3, 1, 0, 0, 0), (0, 0, 0, 0, 1), (12, 0, 0, 0, 0)] := And.intro dX6_countCrosses_46 (And.intro ⟨_, dX6_countCrosses_48, rfl⟩ (And.intro ⟨dX6_countCrosses_49, fl_X6_52⟩ (And.intro ⟨_, dX6_countCrosses_52, rfl⟩ (And.intro ⟨_, dX6_countCrosses_53, by decide⟩ (And.intro dX6_countCrosses_54 trivial)))))
theorem bX6_countCrosses_61_67 : okB cX6_countCrosses RX6 61 [(4, 7, 0, 0, 0), (0, 0, 0, 0, 1), (12, 0, 0, 0, 0), (8, 8, 0, 0, 0)] := And.intro dX6_countCrosses_61 (And.intro ⟨_, dX6_countCrosses_63, by decide⟩ (And.intro dX6_countCrosses_64 (And.intro dX6_countCrosses_65 trivial)))
theorem bX6_countCrosses_67_76 : okB cX6_countCrosses RX6 67 [(4, 8, 0, 0, 0), (5, 0, 0, 0, 0), (23, 52, 6, 1, 0), (3, 1, 0, 0, 0), (0, 0, 0, 0, 1), (12, 0, 0, 0, 0)] := And.intro dX6_countCrosses_67 (And.intro ⟨_, dX6_countCrosses_69, rfl⟩ (And.intro ⟨dX6_countCrosses_70, fl_X6_52⟩ (And.intro ⟨_, dX6_countCrosses_73, rfl⟩ (And.intro ⟨_, dX6_countCrosses_74, by decide⟩ (And.intro dX6_countCrosses_75 trivial)))))
theorem bX6_countCrosses_169_172 : okB cX6_countCrosses RX6 169 [(11, 7, 0, 0, 1)] := And.intro ⟨_, dX6_countCrosses_169, by decide⟩ trivial
theorem bX6_countCrosses_82_91 : okB cX6_countCrosses RX6 82 [(6, 6, 0, 0, 0), (5, 0, 0, 0, 0), (23, 28, 6, 8, 0), (3, 1, 0, 0, 0), (0, 0, 0, 0, 1), (12, 0, 0, 0, 0)] := And.intro dX6_countCrosses_82 (And.intro ⟨_, dX6_countCrosses_84, rfl⟩ (And.intro ⟨dX6_countCrosses_85, fl_X6_28⟩ (And.intro ⟨_, dX6_countCrosses_88, rfl⟩ (And.intro ⟨_, dX6_countCrosses_89, by decide⟩ (And.intro dX6_countCrosses_90 trivial)))))
theorem bX6_countCrosses_92_94 : okB cX6_countCrosses RX6 92 [(4, 7, 0, 0, 0)] := And.intro dX6_countCrosses_92 trivial
theorem bX6_countCrosses_97_108 : okB cX6_countCrosses RX6 97 [(8, 9, 0, 0, 0), (6, 6, 0, 0, 0), (5, 0, 0, 0, 0), (23, 28, 6, 8, 0), (3, 1, 0, 0, 0), (0, 0, 0, 0, 1), (12, 0, 0, 0, 0)] := And.intro dX6_countCrosses_97 (And.intro dX6_countCrosses_99 (And.intro ⟨_, dX6_countCrosses_101, rfl⟩ (And.intro ⟨dX6_countCrosses_102, fl_X6_28⟩ (And.intro ⟨_, dX6_countCrosses_105, rfl⟩ (And.intro ⟨_, dX6_countCrosses_106, by decide⟩ (And.intro dX6_countCrosses_107 trivial))))))
theorem bX6_countCrosses_109_111 : okB cX6_countCrosses RX6 109 [(4, 8, 0, 0, 0)] := And.intro dX6_countCrosses_109 trivial
theorem bX6_countCrosses_114_128 : okB cX6_countCrosses RX6 114 [(8, 10, 0, 0, 0), (5, 0, 0, 0, 0), (23, 65, 6, 3, 0), (4, 4, 0, 0, 0), (4, 5, 0, 0, 0), (4, 9, 0, 0, 0), (4, 10, 0, 0, 0)] := And.intro dX6_countCrosses_114 (And.intro ⟨_, dX6_countCrosses_116, rfl⟩ (And.intro ⟨dX6_countCrosses_117, fl_X6_65⟩ (And.intro dX6_countCrosses_120 (And.intro dX6_countCrosses_122 (And.intro dX6_countCrosses_124 (And.intro dX6_countCrosses_126 trivial))))))
theorem bX6_countCrosses_131_151 : okB cX6_countCrosses RX6 131 [(8, 11, 0, 0, 0), (5, 0, 0, 0, 0), (20, 0, 0, 0, 0), (23, 39, 6, 11, 0), (4, 11, 0, 0, 0), (12, 0, 0, 0, 0), (24, 39, 6, 11, 0), (5, 0, 0, 0, 0), (20, 0, 0, 0, 0), (23, 42, 6, 12, 0), (4, 11, 0, 0, 0)] := And.intro dX6_countCrosses_131 (And.intro ⟨_, dX6_countCrosses_133, rfl⟩ (And.intro dX6_countCrosses_134 (And.intro ⟨dX6_countCrosses_135, fl_X6_39⟩ (And.intro dX6_countCrosses_138 (And.intro dX6_countCrosses_140 (And.intro ⟨dX6_countCrosses_141, fl_X6_39, rfl, rfl⟩ (And.intro ⟨_, dX6_countCrosses_144, rfl⟩ (And.intro dX6_countCrosses_145 (And.intro ⟨dX6_countCrosses_146, fl_X6_42⟩ (And.intro dX6_countCrosses_149 trivial))))))))))
theorem bX6_countCrosses_158_166 : okB cX6_countCrosses RX6 158 [(0, 0, 0, 0, 0), (12, 0, 0, 0, 0), (24, 42, 6, 12, 0), (11, 8, 0, 0, 1)] := And.intro ⟨_, dX6_countCrosses_158, by decide⟩ (And.intro dX6_countCrosses_159 (And.intro ⟨dX6_countCrosses_160, fl_X6_42, rfl, rfl⟩ (And.intro ⟨_, dX6_countCrosses_163, by decide⟩ trivial)))
theorem bX6_countCrosses_154_155 : okB cX6_countCrosses RX6 154 [(0, 0, 0, 0, 1)] := And.intro ⟨_, dX6_countCrosses_154, by decide⟩ trivial
theorem bX6_countCrosses_159_166 : okB cX6_countCrosses RX6 159 [(12, 0, 0, 0, 0), (24, 42, 6, 12, 0), (11, 8, 0, 0, 1)] := And.intro dX6_countCrosses_159 (And.intro ⟨dX6_countCrosses_160, fl_X6_42, rfl, rfl⟩ (And.intro ⟨_, dX6_countCrosses_163, by decide⟩ trivial))
set_option maxHeartbeats 4000000 in
set_option maxRecDepth 100000 in
theorem k_X6_countCrosses (l : Launch) (D : va_G) (ads : AD) (I A : HI) (a1 : Int32) (a2 : Int32) (a3 : Int32) (po : Option AV → HI → HI → Prop) (Iv46 : Int32 → HI → Prop) (mu46 : Int32 → HI → Nat) (Iv67 : Int32 → HI → Int32 → HI → Prop) (mu67 : Int32 → HI → Int32 → HI → Nat)
    (hv : ((vp_in a1 11 ∧ 0 ≤ A 25 a1.toNatClampNeg) ∧ (vp_in a1 11 ∧ ((vp_in ((A 67 a1.toNatClampNeg) * I (71 + 4 * ((mnI (A 25 a1.toNatClampNeg) 5).toNatClampNeg)) 0 + a2) (chT ((mnI (A 25 a1.toNatClampNeg) 5).toNatClampNeg))) ∧ ((vp_in a1 11 ∧ 0 ≤ A 25 a1.toNatClampNeg) ∧ (vp_in a1 11 ∧ ((vp_in ((A 67 a1.toNatClampNeg) * I (71 + 4 * ((mnI (A 25 a1.toNatClampNeg) 5).toNatClampNeg)) 0 + a3) (chT ((mnI (A 25 a1.toNatClampNeg) 5).toNatClampNeg))) ∧ ((vp_in (a1 + 1) 11 ∧ 0 ≤ A 25 (a1 + 1).toNatClampNeg) ∧ (Iv46 0 I ∧ ∀ (x7_46 : Int32) (I_46 : HI), Iv46 x7_46 I_46 → ((vp_in (a1 + 1) 11) ∧ (((A 25 (a1 + 1).toNatClampNeg) ≤ x7_46 → po none I_46 A) ∧ (¬ (A 25 (a1 + 1).toNatClampNeg) ≤ x7_46 → (Iv67 x7_46 I_46 (x7_46 + 1) I_46 ∧ ∀ (x8_67 : Int32) (I_67 : HI), Iv67 x7_46 I_46 x8_67 I_67 → ((vp_in (a1 + 1) 11) ∧ (((A 25 (a1 + 1).toNatClampNeg) ≤ x8_67 → (Iv46 (x7_46 + 1) I_67 ∧ mu46 (x7_46 + 1) I_67 < mu46 x7_46 I_46)) ∧ (¬ (A 25 (a1 + 1).toNatClampNeg) ≤ x8_67 → (vp_in (a1 + 1) 11 ∧ ((vp_in ((A 67 (a1 + 1).toNatClampNeg) * I_67 (71 + 4 * ((mnI (A 25 (a1 + 1).toNatClampNeg) 5).toNatClampNeg)) 0 + x7_46) (chT ((mnI (A 25 (a1 + 1).toNatClampNeg) 5).toNatClampNeg))) ∧ (vp_in (a1 + 1) 11 ∧ ((vp_in ((A 67 (a1 + 1).toNatClampNeg) * I_67 (71 + 4 * ((mnI (A 25 (a1 + 1).toNatClampNeg) 5).toNatClampNeg)) 0 + x8_67) (chT ((mnI (A 25 (a1 + 1).toNatClampNeg) 5).toNatClampNeg))) ∧ ((vp_in ((A (72 + 4 * ((mnI (A 25 a1.toNatClampNeg) 5).toNatClampNeg)) ((A 67 a1.toNatClampNeg) * I (71 + 4 * ((mnI (A 25 a1.toNatClampNeg) 5).toNatClampNeg)) 0 + a2).toNatClampNeg) * 5 + (A (72 + 4 * ((mnI (A 25 (a1 + 1).toNatClampNeg) 5).toNatClampNeg)) ((A 67 (a1 + 1).toNatClampNeg) * I_67 (71 + 4 * ((mnI (A 25 (a1 + 1).toNatClampNeg) 5).toNatClampNeg)) 0 + x8_67).toNatClampNeg)) 25 ∧ vp_in ((A (72 + 4 * ((mnI (A 25 a1.toNatClampNeg) 5).toNatClampNeg)) ((A 67 a1.toNatClampNeg) * I (71 + 4 * ((mnI (A 25 a1.toNatClampNeg) 5).toNatClampNeg)) 0 + a3).toNatClampNeg) * 5 + (A (72 + 4 * ((mnI (A 25 (a1 + 1).toNatClampNeg) 5).toNatClampNeg)) ((A 67 (a1 + 1).toNatClampNeg) * I_67 (71 + 4 * ((mnI (A 25 (a1 + 1).toNatClampNeg) 5).toNatClampNeg)) 0 + x7_46).toNatClampNeg)) 25) ∧ (((A 69 ((A (72 + 4 * ((mnI (A 25 a1.toNatClampNeg) 5).toNatClampNeg)) ((A 67 a1.toNatClampNeg) * I (71 + 4 * ((mnI (A 25 a1.toNatClampNeg) 5).toNatClampNeg)) 0 + a2).toNatClampNeg) * 5 + (A (72 + 4 * ((mnI (A 25 (a1 + 1).toNatClampNeg) 5).toNatClampNeg)) ((A 67 (a1 + 1).toNatClampNeg) * I_67 (71 + 4 * ((mnI (A 25 (a1 + 1).toNatClampNeg) 5).toNatClampNeg)) 0 + x8_67).toNatClampNeg)).toNatClampNeg * A 69 ((A (72 + 4 * ((mnI (A 25 a1.toNatClampNeg) 5).toNatClampNeg)) ((A 67 a1.toNatClampNeg) * I (71 + 4 * ((mnI (A 25 a1.toNatClampNeg) 5).toNatClampNeg)) 0 + a3).toNatClampNeg) * 5 + (A (72 + 4 * ((mnI (A 25 (a1 + 1).toNatClampNeg) 5).toNatClampNeg)) ((A 67 (a1 + 1).toNatClampNeg) * I_67 (71 + 4 * ((mnI (A 25 (a1 + 1).toNatClampNeg) 5).toNatClampNeg)) 0 + x7_46).toNatClampNeg)).toNatClampNeg) ≤ 0 → (Iv67 x7_46 I_46 (x8_67 + 1) (up2 (up2 I_67 29 11 ((I_67 29 11) + (A 69 ((A (72 + 4 * ((mnI (A 25 a1.toNatClampNeg) 5).toNatClampNeg)) ((A 67 a1.toNatClampNeg) * I (71 + 4 * ((mnI (A 25 a1.toNatClampNeg) 5).toNatClampNeg)) 0 + a2).toNatClampNeg) * 5 + (A (72 + 4 * ((mnI (A 25 (a1 + 1).toNatClampNeg) 5).toNatClampNeg)) ((A 67 (a1 + 1).toNatClampNeg) * I_67 (71 + 4 * ((mnI (A 25 (a1 + 1).toNatClampNeg) 5).toNatClampNeg)) 0 + x8_67).toNatClampNeg)).toNatClampNeg * A 69 ((A (72 + 4 * ((mnI (A 25 a1.toNatClampNeg) 5).toNatClampNeg)) ((A 67 a1.toNatClampNeg) * I (71 + 4 * ((mnI (A 25 a1.toNatClampNeg) 5).toNatClampNeg)) 0 + a3).toNatClampNeg) * 5 + (A (72 + 4 * ((mnI (A 25 (a1 + 1).toNatClampNeg) 5).toNatClampNeg)) ((A 67 (a1 + 1).toNatClampNeg) * I_67 (71 + 4 * ((mnI (A 25 (a1 + 1).toNatClampNeg) 5).toNatClampNeg)) 0 + x7_46).toNatClampNeg)).toNatClampNeg))) 29 12 (((up2 I_67 29 11 ((I_67 29 11) + (A 69 ((A (72 + 4 * ((mnI (A 25 a1.toNatClampNeg) 5).toNatClampNeg)) ((A 67 a1.toNatClampNeg) * I (71 + 4 * ((mnI (A 25 a1.toNatClampNeg) 5).toNatClampNeg)) 0 + a2).toNatClampNeg) * 5 + (A (72 + 4 * ((mnI (A 25 (a1 + 1).toNatClampNeg) 5).toNatClampNeg)) ((A 67 (a1 + 1).toNatClampNeg) * I_67 (71 + 4 * ((mnI (A 25 (a1 + 1).toNatClampNeg) 5).toNatClampNeg)) 0 + x8_67).toNatClampNeg)).toNatClampNeg * A 69 ((A (72 + 4 * ((mnI (A 25 a1.toNatClampNeg) 5).toNatClampNeg)) ((A 67 a1.toNatClampNeg) * I (71 + 4 * ((mnI (A 25 a1.toNatClampNeg) 5).toNatClampNeg)) 0 + a3).toNatClampNeg) * 5 + (A (72 + 4 * ((mnI (A 25 (a1 + 1).toNatClampNeg) 5).toNatClampNeg)) ((A 67 (a1 + 1).toNatClampNeg) * I_67 (71 + 4 * ((mnI (A 25 (a1 + 1).toNatClampNeg) 5).toNatClampNeg)) 0 + x7_46).toNatClampNeg)).toNatClampNeg))) 29 12) + 0)) ∧ mu67 x7_46 I_46 (x8_67 + 1) (up2 (up2 I_67 29 11 ((I_67 29 11) + (A 69 ((A (72 + 4 * ((mnI (A 25 a1.toNatClampNeg) 5).toNatClampNeg)) ((A 67 a1.toNatClampNeg) * I (71 + 4 * ((mnI (A 25 a1.toNatClampNeg) 5).toNatClampNeg)) 0 + a2).toNatClampNeg) * 5 + (A (72 + 4 * ((mnI (A 25 (a1 + 1).toNatClampNeg) 5).toNatClampNeg)) ((A 67 (a1 + 1).toNatClampNeg) * I_67 (71 + 4 * ((mnI (A 25 (a1 + 1).toNatClampNeg) 5).toNatClampNeg)) 0 + x8_67).toNatClampNeg)).toNatClampNeg * A 69 ((A (72 + 4 * ((mnI (A 25 a1.toNatClampNeg) 5).toNatClampNeg)) ((A 67 a1.toNatClampNeg) * I (71 + 4 * ((mnI (A 25 a1.toNatClampNeg) 5).toNatClampNeg)) 0 + a3).toNatClampNeg) * 5 + (A (72 + 4 * ((mnI (A 25 (a1 + 1).toNatClampNeg) 5).toNatClampNeg)) ((A 67 (a1 + 1).toNatClampNeg) * I_67 (71 + 4 * ((mnI (A 25 (a1 + 1).toNatClampNeg) 5).toNatClampNeg)) 0 + x7_46).toNatClampNeg)).toNatClampNeg))) 29 12 (((up2 I_67 29 11 ((I_67 29 11) + (A 69 ((A (72 + 4 * ((mnI (A 25 a1.toNatClampNeg) 5).toNatClampNeg)) ((A 67 a1.toNatClampNeg) * I (71 + 4 * ((mnI (A 25 a1.toNatClampNeg) 5).toNatClampNeg)) 0 + a2).toNatClampNeg) * 5 + (A (72 + 4 * ((mnI (A 25 (a1 + 1).toNatClampNeg) 5).toNatClampNeg)) ((A 67 (a1 + 1).toNatClampNeg) * I_67 (71 + 4 * ((mnI (A 25 (a1 + 1).toNatClampNeg) 5).toNatClampNeg)) 0 + x8_67).toNatClampNeg)).toNatClampNeg * A 69 ((A (72 + 4 * ((mnI (A 25 a1.toNatClampNeg) 5).toNatClampNeg)) ((A 67 a1.toNatClampNeg) * I (71 + 4 * ((mnI (A 25 a1.toNatClampNeg) 5).toNatClampNeg)) 0 + a3).toNatClampNeg) * 5 + (A (72 + 4 * ((mnI (A 25 (a1 + 1).toNatClampNeg) 5).toNatClampNeg)) ((A 67 (a1 + 1).toNatClampNeg) * I_67 (71 + 4 * ((mnI (A 25 (a1 + 1).toNatClampNeg) 5).toNatClampNeg)) 0 + x7_46).toNatClampNeg)).toNatClampNeg))) 29 12) + 0)) < mu67 x7_46 I_46 x8_67 I_67)) ∧ (¬ (A 69 ((A (72 + 4 * ((mnI (A 25 a1.toNatClampNeg) 5).toNatClampNeg)) ((A 67 a1.toNatClampNeg) * I (71 + 4 * ((mnI (A 25 a1.toNatClampNeg) 5).toNatClampNeg)) 0 + a2).toNatClampNeg) * 5 + (A (72 + 4 * ((mnI (A 25 (a1 + 1).toNatClampNeg) 5).toNatClampNeg)) ((A 67 (a1 + 1).toNatClampNeg) * I_67 (71 + 4 * ((mnI (A 25 (a1 + 1).toNatClampNeg) 5).toNatClampNeg)) 0 + x8_67).toNatClampNeg)).toNatClampNeg * A 69 ((A (72 + 4 * ((mnI (A 25 a1.toNatClampNeg) 5).toNatClampNeg)) ((A 67 a1.toNatClampNeg) * I (71 + 4 * ((mnI (A 25 a1.toNatClampNeg) 5).toNatClampNeg)) 0 + a3).toNatClampNeg) * 5 + (A (72 + 4 * ((mnI (A 25 (a1 + 1).toNatClampNeg) 5).toNatClampNeg)) ((A 67 (a1 + 1).toNatClampNeg) * I_67 (71 + 4 * ((mnI (A 25 (a1 + 1).toNatClampNeg) 5).toNatClampNeg)) 0 + x7_46).toNatClampNeg)).toNatClampNeg) ≤ 0 → (Iv67 x7_46 I_46 (x8_67 + 1) (up2 (up2 I_67 29 11 ((I_67 29 11) + (A 69 ((A (72 + 4 * ((mnI (A 25 a1.toNatClampNeg) 5).toNatClampNeg)) ((A 67 a1.toNatClampNeg) * I (71 + 4 * ((mnI (A 25 a1.toNatClampNeg) 5).toNatClampNeg)) 0 + a2).toNatClampNeg) * 5 + (A (72 + 4 * ((mnI (A 25 (a1 + 1).toNatClampNeg) 5).toNatClampNeg)) ((A 67 (a1 + 1).toNatClampNeg) * I_67 (71 + 4 * ((mnI (A 25 (a1 + 1).toNatClampNeg) 5).toNatClampNeg)) 0 + x8_67).toNatClampNeg)).toNatClampNeg * A 69 ((A (72 + 4 * ((mnI (A 25 a1.toNatClampNeg) 5).toNatClampNeg)) ((A 67 a1.toNatClampNeg) * I (71 + 4 * ((mnI (A 25 a1.toNatClampNeg) 5).toNatClampNeg)) 0 + a3).toNatClampNeg) * 5 + (A (72 + 4 * ((mnI (A 25 (a1 + 1).toNatClampNeg) 5).toNatClampNeg)) ((A 67 (a1 + 1).toNatClampNeg) * I_67 (71 + 4 * ((mnI (A 25 (a1 + 1).toNatClampNeg) 5).toNatClampNeg)) 0 + x7_46).toNatClampNeg)).toNatClampNeg))) 29 12 (((up2 I_67 29 11 ((I_67 29 11) + (A 69 ((A (72 + 4 * ((mnI (A 25 a1.toNatClampNeg) 5).toNatClampNeg)) ((A 67 a1.toNatClampNeg) * I (71 + 4 * ((mnI (A 25 a1.toNatClampNeg) 5).toNatClampNeg)) 0 + a2).toNatClampNeg) * 5 + (A (72 + 4 * ((mnI (A 25 (a1 + 1).toNatClampNeg) 5).toNatClampNeg)) ((A 67 (a1 + 1).toNatClampNeg) * I_67 (71 + 4 * ((mnI (A 25 (a1 + 1).toNatClampNeg) 5).toNatClampNeg)) 0 + x8_67).toNatClampNeg)).toNatClampNeg * A 69 ((A (72 + 4 * ((mnI (A 25 a1.toNatClampNeg) 5).toNatClampNeg)) ((A 67 a1.toNatClampNeg) * I (71 + 4 * ((mnI (A 25 a1.toNatClampNeg) 5).toNatClampNeg)) 0 + a3).toNatClampNeg) * 5 + (A (72 + 4 * ((mnI (A 25 (a1 + 1).toNatClampNeg) 5).toNatClampNeg)) ((A 67 (a1 + 1).toNatClampNeg) * I_67 (71 + 4 * ((mnI (A 25 (a1 + 1).toNatClampNeg) 5).toNatClampNeg)) 0 + x7_46).toNatClampNeg)).toNatClampNeg))) 29 12) + 1)) ∧ mu67 x7_46 I_46 (x8_67 + 1) (up2 (up2 I_67 29 11 ((I_67 29 11) + (A 69 ((A (72 + 4 * ((mnI (A 25 a1.toNatClampNeg) 5).toNatClampNeg)) ((A 67 a1.toNatClampNeg) * I (71 + 4 * ((mnI (A 25 a1.toNatClampNeg) 5).toNatClampNeg)) 0 + a2).toNatClampNeg) * 5 + (A (72 + 4 * ((mnI (A 25 (a1 + 1).toNatClampNeg) 5).toNatClampNeg)) ((A 67 (a1 + 1).toNatClampNeg) * I_67 (71 + 4 * ((mnI (A 25 (a1 + 1).toNatClampNeg) 5).toNatClampNeg)) 0 + x8_67).toNatClampNeg)).toNatClampNeg * A 69 ((A (72 + 4 * ((mnI (A 25 a1.toNatClampNeg) 5).toNatClampNeg)) ((A 67 a1.toNatClampNeg) * I (71 + 4 * ((mnI (A 25 a1.toNatClampNeg) 5).toNatClampNeg)) 0 + a3).toNatClampNeg) * 5 + (A (72 + 4 * ((mnI (A 25 (a1 + 1).toNatClampNeg) 5).toNatClampNeg)) ((A 67 (a1 + 1).toNatClampNeg) * I_67 (71 + 4 * ((mnI (A 25 (a1 + 1).toNatClampNeg) 5).toNatClampNeg)) 0 + x7_46).toNatClampNeg)).toNatClampNeg))) 29 12 (((up2 I_67 29 11 ((I_67 29 11) + (A 69 ((A (72 + 4 * ((mnI (A 25 a1.toNatClampNeg) 5).toNatClampNeg)) ((A 67 a1.toNatClampNeg) * I (71 + 4 * ((mnI (A 25 a1.toNatClampNeg) 5).toNatClampNeg)) 0 + a2).toNatClampNeg) * 5 + (A (72 + 4 * ((mnI (A 25 (a1 + 1).toNatClampNeg) 5).toNatClampNeg)) ((A 67 (a1 + 1).toNatClampNeg) * I_67 (71 + 4 * ((mnI (A 25 (a1 + 1).toNatClampNeg) 5).toNatClampNeg)) 0 + x8_67).toNatClampNeg)).toNatClampNeg * A 69 ((A (72 + 4 * ((mnI (A 25 a1.toNatClampNeg) 5).toNatClampNeg)) ((A 67 a1.toNatClampNeg) * I (71 + 4 * ((mnI (A 25 a1.toNatClampNeg) 5).toNatClampNeg)) 0 + a3).toNatClampNeg) * 5 + (A (72 + 4 * ((mnI (A 25 (a1 + 1).toNatClampNeg) 5).toNatClampNeg)) ((A 67 (a1 + 1).toNatClampNeg) * I_67 (71 + 4 * ((mnI (A 25 (a1 + 1).toNatClampNeg) 5).toNatClampNeg)) 0 + x7_46).toNatClampNeg)).toNatClampNeg))) 29 12) + 1)) < mu67 x7_46 I_46 x8_67 I_67)))))))))))))))))))))))) : Ct l yX6_countCrosses cX6_countCrosses 12 none 2 45 D ads shp [.inr (some 29), .inl a1, .inl a2, .inl a3] I A po := by
  refine Ct_of (by decide) (Nat.le_of_ble_eq_true rfl) ?_
  intro p e s m args below meth c hC hr
  replace hC : CX p s m args meth c cX6_countCrosses 12 RX6 (AdS ads s.heap.size) := hC
  show Gm p l e s m args below meth c D ads 2 45 12 po I A 0 [some (.inr (some 29)), some (.inl a1), some (.inl a2), some (.inl a3), none, none, none, none, none, none, none, none] []
  refine g_blk hC _ bX6_countCrosses_0_2 (pc' := 2) (ls' := [some (.inr (some 29)), some (.inl a1), some (.inl a2), some (.inl a3), none, none, none, none, none, none, none, none]) (st' := [.inl a1, .inr (some 29)]) (I' := I) rfl rfl ?_
  obtain ⟨hp1, hv⟩ := hv
  refine g_callV hC (c_X6_changesOf l D ads I A a1 hp1) dX6_countCrosses_2 nm_X6_changesOf rfl rfl wl_X6_96 wi_X6_changesOf ws_X6_changesOf wn_X6 wc_X6_changesOf ⟨by decide, by decide⟩ (as := [.inl a1]) (rest := []) rfl (Nat.le_of_ble_eq_true rfl) ⟨Nat.le_refl _, Nat.le_refl _⟩ (k_qR ?_)
  refine g_blk hC _ bX6_countCrosses_5_10 (pc' := 10) (ls' := [some (.inr (some 29)), some (.inl a1), some (.inl a2), some (.inl a3), none, none, none, none, none, none, none, none]) (st' := [.inl a1, .inr (some 67), .inr (some (71 + 4 * (mnI (A 25 a1.toNatClampNeg) 5).toNatClampNeg))]) (I' := I) rfl rfl ?_
  obtain ⟨hi, hv⟩ := hv
  refine g_iald hC dX6_countCrosses_10 (rfl) hi ?_
  clear hi
  refine g_blk hC _ bX6_countCrosses_11_12 (pc' := 12) (ls' := [some (.inr (some 29)), some (.inl a1), some (.inl a2), some (.inl a3), none, none, none, none, none, none, none, none]) (st' := [.inl a2, .inl (A 67 a1.toNatClampNeg), .inr (some (71 + 4 * (mnI (A 25 a1.toNatClampNeg) 5).toNatClampNeg))]) (I' := I) rfl rfl ?_
  obtain ⟨hp2, hv⟩ := hv
  obtain ⟨fs9, hs9⟩ := ch_sh (chO_lt hp1.2)
  refine g_callV hC (c_X0_thingAt l D ads I A ((mnI (A 25 a1.toNatClampNeg) 5).toNatClampNeg) (A 67 a1.toNatClampNeg) a2 (chO_lt hp1.2) hp2) dX6_countCrosses_12 nm_X0_thingAt hs9 rfl wl_X6_100 wi_X0_thingAt ws_X0_thingAt wn_X0 wc_X0_thingAt ⟨by decide, by decide⟩ (as := [.inl (A 67 a1.toNatClampNeg), .inl a2]) (rest := []) rfl (Nat.le_of_ble_eq_true rfl) ⟨Nat.le_refl _, Nat.le_refl _⟩ (k_qI ?_)
  refine g_blk hC _ bX6_countCrosses_15_19 (pc' := 19) (ls' := [some (.inr (some 29)), some (.inl a1), some (.inl a2), some (.inl a3), some (.inl (A (72 + 4 * ((mnI (A 25 a1.toNatClampNeg) 5).toNatClampNeg)) ((A 67 a1.toNatClampNeg) * I (71 + 4 * ((mnI (A 25 a1.toNatClampNeg) 5).toNatClampNeg)) 0 + a2).toNatClampNeg)), none, none, none, none, none, none, none]) (st' := [.inl a1, .inr (some 29)]) (I' := I) rfl rfl ?_
  obtain ⟨hp3, hv⟩ := hv
  refine g_callV hC (c_X6_changesOf l D ads I A a1 hp3) dX6_countCrosses_19 nm_X6_changesOf rfl rfl wl_X6_96 wi_X6_changesOf ws_X6_changesOf wn_X6 wc_X6_changesOf ⟨by decide, by decide⟩ (as := [.inl a1]) (rest := []) rfl (Nat.le_of_ble_eq_true rfl) ⟨Nat.le_refl _, Nat.le_refl _⟩ (k_qR ?_)
  refine g_blk hC _ bX6_countCrosses_22_27 (pc' := 27) (ls' := [some (.inr (some 29)), some (.inl a1), some (.inl a2), some (.inl a3), some (.inl (A (72 + 4 * ((mnI (A 25 a1.toNatClampNeg) 5).toNatClampNeg)) ((A 67 a1.toNatClampNeg) * I (71 + 4 * ((mnI (A 25 a1.toNatClampNeg) 5).toNatClampNeg)) 0 + a2).toNatClampNeg)), none, none, none, none, none, none, none]) (st' := [.inl a1, .inr (some 67), .inr (some (71 + 4 * (mnI (A 25 a1.toNatClampNeg) 5).toNatClampNeg))]) (I' := I) rfl rfl ?_
  obtain ⟨hi, hv⟩ := hv
  refine g_iald hC dX6_countCrosses_27 (rfl) hi ?_
  clear hi
  refine g_blk hC _ bX6_countCrosses_28_29 (pc' := 29) (ls' := [some (.inr (some 29)), some (.inl a1), some (.inl a2), some (.inl a3), some (.inl (A (72 + 4 * ((mnI (A 25 a1.toNatClampNeg) 5).toNatClampNeg)) ((A 67 a1.toNatClampNeg) * I (71 + 4 * ((mnI (A 25 a1.toNatClampNeg) 5).toNatClampNeg)) 0 + a2).toNatClampNeg)), none, none, none, none, none, none, none]) (st' := [.inl a3, .inl (A 67 a1.toNatClampNeg), .inr (some (71 + 4 * (mnI (A 25 a1.toNatClampNeg) 5).toNatClampNeg))]) (I' := I) rfl rfl ?_
  obtain ⟨hp4, hv⟩ := hv
  obtain ⟨fs9, hs9⟩ := ch_sh (chO_lt hp3.2)
  refine g_callV hC (c_X0_thingAt l D ads I A ((mnI (A 25 a1.toNatClampNeg) 5).toNatClampNeg) (A 67 a1.toNatClampNeg) a3 (chO_lt hp3.2) hp4) dX6_countCrosses_29 nm_X0_thingAt hs9 rfl wl_X6_100 wi_X0_thingAt ws_X0_thingAt wn_X0 wc_X0_thingAt ⟨by decide, by decide⟩ (as := [.inl (A 67 a1.toNatClampNeg), .inl a3]) (rest := []) rfl (Nat.le_of_ble_eq_true rfl) ⟨Nat.le_refl _, Nat.le_refl _⟩ (k_qI ?_)
  refine g_blk hC _ bX6_countCrosses_32_38 (pc' := 38) (ls' := [some (.inr (some 29)), some (.inl a1), some (.inl a2), some (.inl a3), some (.inl (A (72 + 4 * ((mnI (A 25 a1.toNatClampNeg) 5).toNatClampNeg)) ((A 67 a1.toNatClampNeg) * I (71 + 4 * ((mnI (A 25 a1.toNatClampNeg) 5).toNatClampNeg)) 0 + a2).toNatClampNeg)), some (.inl (A (72 + 4 * ((mnI (A 25 a1.toNatClampNeg) 5).toNatClampNeg)) ((A 67 a1.toNatClampNeg) * I (71 + 4 * ((mnI (A 25 a1.toNatClampNeg) 5).toNatClampNeg)) 0 + a3).toNatClampNeg)), none, none, none, none, none, none]) (st' := [.inl (a1 + 1), .inr (some 29)]) (I' := I) rfl rfl ?_
  obtain ⟨hp5, hv⟩ := hv
  refine g_callV hC (c_X6_changesOf l D ads I A (a1 + 1) hp5) dX6_countCrosses_38 nm_X6_changesOf rfl rfl wl_X6_96 wi_X6_changesOf ws_X6_changesOf wn_X6 wc_X6_changesOf ⟨by decide, by decide⟩ (as := [.inl (a1 + 1)]) (rest := []) rfl (Nat.le_of_ble_eq_true rfl) ⟨Nat.le_refl _, Nat.le_refl _⟩ (k_qR ?_)
  refine g_blk hC _ bX6_countCrosses_41_46 (pc' := 46) (ls' := [some (.inr (some 29)), some (.inl a1), some (.inl a2), some (.inl a3), some (.inl (A (72 + 4 * ((mnI (A 25 a1.toNatClampNeg) 5).toNatClampNeg)) ((A 67 a1.toNatClampNeg) * I (71 + 4 * ((mnI (A 25 a1.toNatClampNeg) 5).toNatClampNeg)) 0 + a2).toNatClampNeg)), some (.inl (A (72 + 4 * ((mnI (A 25 a1.toNatClampNeg) 5).toNatClampNeg)) ((A 67 a1.toNatClampNeg) * I (71 + 4 * ((mnI (A 25 a1.toNatClampNeg) 5).toNatClampNeg)) 0 + a3).toNatClampNeg)), some (.inr (some (71 + 4 * (mnI (A 25 (a1 + 1).toNatClampNeg) 5).toNatClampNeg))), some (.inl 0), none, none, none, none]) (st' := []) (I' := I) rfl rfl ?_
  obtain ⟨hi46, hb46⟩ := hv
  have L46 : ∀ (n : Nat) (x7_46 : Int32) (I_46 : HI), Iv46 x7_46 I_46 → mu46 x7_46 I_46 < n → Gm p l e s m args below meth c D ads 2 45 12 po I_46 A 46 [some (.inr (some 29)), some (.inl a1), none, none, some (.inl (A (72 + 4 * ((mnI (A 25 a1.toNatClampNeg) 5).toNatClampNeg)) ((A 67 a1.toNatClampNeg) * I (71 + 4 * ((mnI (A 25 a1.toNatClampNeg) 5).toNatClampNeg)) 0 + a2).toNatClampNeg)), some (.inl (A (72 + 4 * ((mnI (A 25 a1.toNatClampNeg) 5).toNatClampNeg)) ((A 67 a1.toNatClampNeg) * I (71 + 4 * ((mnI (A 25 a1.toNatClampNeg) 5).toNatClampNeg)) 0 + a3).toNatClampNeg)), some (.inr (some (71 + 4 * (mnI (A 25 (a1 + 1).toNatClampNeg) 5).toNatClampNeg))), some (.inl x7_46), none, none, none, none] [] := by
    intro n
    induction n with
    | zero => intro x7_46 I_46 _ hn; exact absurd hn (Nat.not_lt_zero _)
    | succ n ih46 =>
      intro x7_46 I_46 hv hn46
      replace hv := hb46 x7_46 I_46 hv
      skip
      refine g_blk hC _ bX6_countCrosses_46_55 (pc' := 55) (ls' := [some (.inr (some 29)), some (.inl a1), none, none, some (.inl (A (72 + 4 * ((mnI (A 25 a1.toNatClampNeg) 5).toNatClampNeg)) ((A 67 a1.toNatClampNeg) * I (71 + 4 * ((mnI (A 25 a1.toNatClampNeg) 5).toNatClampNeg)) 0 + a2).toNatClampNeg)), some (.inl (A (72 + 4 * ((mnI (A 25 a1.toNatClampNeg) 5).toNatClampNeg)) ((A 67 a1.toNatClampNeg) * I (71 + 4 * ((mnI (A 25 a1.toNatClampNeg) 5).toNatClampNeg)) 0 + a3).toNatClampNeg)), some (.inr (some (71 + 4 * (mnI (A 25 (a1 + 1).toNatClampNeg) 5).toNatClampNeg))), some (.inl x7_46), none, none, none, none]) (st' := [.inl (a1 + 1), .inr (some 13), .inl x7_46]) (I' := I_46) rfl rfl ?_
      obtain ⟨hp6, hv⟩ := hv
      refine g_callV hC (c_X7_countIn l D ads I_46 A (a1 + 1) hp6) dX6_countCrosses_55 nm_X7_countIn rfl rfl wl_X6_90 wi_X7_countIn ws_X7_countIn wn_X7 wc_X7_countIn ⟨by decide, by decide⟩ (as := [.inl (a1 + 1)]) (rest := [.inl x7_46]) rfl (Nat.le_of_ble_eq_true rfl) ⟨Nat.le_refl _, Nat.le_refl _⟩ (k_qI ?_)
      obtain ⟨hv1, hv2⟩ := hv
      refine g_cge hC dX6_countCrosses_58 (tgt := 175) (by decide) (fun hc => ?_) (fun hc => ?_)
      · have hv := hv1 hc
        clear hv1 hv2 hc
        exact g_retv hC hr dX6_countCrosses_175 hv
      · have hv := hv2 hc
        clear hv1 hv2 hc
        refine g_blk hC _ bX6_countCrosses_61_67 (pc' := 67) (ls' := [some (.inr (some 29)), some (.inl a1), none, none, some (.inl (A (72 + 4 * ((mnI (A 25 a1.toNatClampNeg) 5).toNatClampNeg)) ((A 67 a1.toNatClampNeg) * I (71 + 4 * ((mnI (A 25 a1.toNatClampNeg) 5).toNatClampNeg)) 0 + a2).toNatClampNeg)), some (.inl (A (72 + 4 * ((mnI (A 25 a1.toNatClampNeg) 5).toNatClampNeg)) ((A 67 a1.toNatClampNeg) * I (71 + 4 * ((mnI (A 25 a1.toNatClampNeg) 5).toNatClampNeg)) 0 + a3).toNatClampNeg)), some (.inr (some (71 + 4 * (mnI (A 25 (a1 + 1).toNatClampNeg) 5).toNatClampNeg))), some (.inl x7_46), some (.inl (x7_46 + 1)), none, none, none]) (st' := []) (I' := I_46) rfl rfl ?_
        obtain ⟨hi67, hb67⟩ := hv
        have L67 : ∀ (n : Nat) (x8_67 : Int32) (I_67 : HI), Iv67 x7_46 I_46 x8_67 I_67 → mu67 x7_46 I_46 x8_67 I_67 < n → Gm p l e s m args below meth c D ads 2 45 12 po I_67 A 67 [some (.inr (some 29)), some (.inl a1), none, none, some (.inl (A (72 + 4 * ((mnI (A 25 a1.toNatClampNeg) 5).toNatClampNeg)) ((A 67 a1.toNatClampNeg) * I (71 + 4 * ((mnI (A 25 a1.toNatClampNeg) 5).toNatClampNeg)) 0 + a2).toNatClampNeg)), some (.inl (A (72 + 4 * ((mnI (A 25 a1.toNatClampNeg) 5).toNatClampNeg)) ((A 67 a1.toNatClampNeg) * I (71 + 4 * ((mnI (A 25 a1.toNatClampNeg) 5).toNatClampNeg)) 0 + a3).toNatClampNeg)), some (.inr (some (71 + 4 * (mnI (A 25 (a1 + 1).toNatClampNeg) 5).toNatClampNeg))), some (.inl x7_46), some (.inl x8_67), none, none, none] [] := by
          intro n
          induction n with
          | zero => intro x8_67 I_67 _ hn; exact absurd hn (Nat.not_lt_zero _)
          | succ n ih67 =>
            intro x8_67 I_67 hv hn67
            replace hv := hb67 x8_67 I_67 hv
            skip
            refine g_blk hC _ bX6_countCrosses_67_76 (pc' := 76) (ls' := [some (.inr (some 29)), some (.inl a1), none, none, some (.inl (A (72 + 4 * ((mnI (A 25 a1.toNatClampNeg) 5).toNatClampNeg)) ((A 67 a1.toNatClampNeg) * I (71 + 4 * ((mnI (A 25 a1.toNatClampNeg) 5).toNatClampNeg)) 0 + a2).toNatClampNeg)), some (.inl (A (72 + 4 * ((mnI (A 25 a1.toNatClampNeg) 5).toNatClampNeg)) ((A 67 a1.toNatClampNeg) * I (71 + 4 * ((mnI (A 25 a1.toNatClampNeg) 5).toNatClampNeg)) 0 + a3).toNatClampNeg)), some (.inr (some (71 + 4 * (mnI (A 25 (a1 + 1).toNatClampNeg) 5).toNatClampNeg))), some (.inl x7_46), some (.inl x8_67), none, none, none]) (st' := [.inl (a1 + 1), .inr (some 13), .inl x8_67]) (I' := I_67) rfl rfl ?_
            obtain ⟨hp7, hv⟩ := hv
            refine g_callV hC (c_X7_countIn l D ads I_67 A (a1 + 1) hp7) dX6_countCrosses_76 nm_X7_countIn rfl rfl wl_X6_90 wi_X7_countIn ws_X7_countIn wn_X7 wc_X7_countIn ⟨by decide, by decide⟩ (as := [.inl (a1 + 1)]) (rest := [.inl x8_67]) rfl (Nat.le_of_ble_eq_true rfl) ⟨Nat.le_refl _, Nat.le_refl _⟩ (k_qI ?_)
            obtain ⟨hv1, hv2⟩ := hv
            refine g_cge hC dX6_countCrosses_79 (tgt := 169) (by decide) (fun hc => ?_) (fun hc => ?_)
            · have hv := hv1 hc
              clear hv1 hv2 hc
              refine g_blk hC _ bX6_countCrosses_169_172 (pc' := 172) (ls' := [some (.inr (some 29)), some (.inl a1), none, none, some (.inl (A (72 + 4 * ((mnI (A 25 a1.toNatClampNeg) 5).toNatClampNeg)) ((A 67 a1.toNatClampNeg) * I (71 + 4 * ((mnI (A 25 a1.toNatClampNeg) 5).toNatClampNeg)) 0 + a2).toNatClampNeg)), some (.inl (A (72 + 4 * ((mnI (A 25 a1.toNatClampNeg) 5).toNatClampNeg)) ((A 67 a1.toNatClampNeg) * I (71 + 4 * ((mnI (A 25 a1.toNatClampNeg) 5).toNatClampNeg)) 0 + a3).toNatClampNeg)), some (.inr (some (71 + 4 * (mnI (A 25 (a1 + 1).toNatClampNeg) 5).toNatClampNeg))), some (.inl (x7_46 + 1)), some (.inl x8_67), none, none, none]) (st' := []) (I' := I_67) rfl rfl ?_
              refine g_goto hC dX6_countCrosses_172 (tgt := 46) (by decide) ?_
              exact g_weak (ls1 := [some (.inr (some 29)), some (.inl a1), none, none, some (.inl (A (72 + 4 * ((mnI (A 25 a1.toNatClampNeg) 5).toNatClampNeg)) ((A 67 a1.toNatClampNeg) * I (71 + 4 * ((mnI (A 25 a1.toNatClampNeg) 5).toNatClampNeg)) 0 + a2).toNatClampNeg)), some (.inl (A (72 + 4 * ((mnI (A 25 a1.toNatClampNeg) 5).toNatClampNeg)) ((A 67 a1.toNatClampNeg) * I (71 + 4 * ((mnI (A 25 a1.toNatClampNeg) 5).toNatClampNeg)) 0 + a3).toNatClampNeg)), some (.inr (some (71 + 4 * (mnI (A 25 (a1 + 1).toNatClampNeg) 5).toNatClampNeg))), some (.inl (x7_46 + 1)), none, none, none, none]) rfl (And.intro rfl (And.intro rfl (And.intro rfl (And.intro rfl (And.intro rfl (And.intro rfl trivial)))))) (ih46 (x7_46 + 1) I_67 hv.1 (Nat.lt_of_lt_of_le hv.2 (Nat.le_of_lt_succ hn46)))
            · have hv := hv2 hc
              clear hv1 hv2 hc
              refine g_blk hC _ bX6_countCrosses_82_91 (pc' := 91) (ls' := [some (.inr (some 29)), some (.inl a1), none, none, some (.inl (A (72 + 4 * ((mnI (A 25 a1.toNatClampNeg) 5).toNatClampNeg)) ((A 67 a1.toNatClampNeg) * I (71 + 4 * ((mnI (A 25 a1.toNatClampNeg) 5).toNatClampNeg)) 0 + a2).toNatClampNeg)), some (.inl (A (72 + 4 * ((mnI (A 25 a1.toNatClampNeg) 5).toNatClampNeg)) ((A 67 a1.toNatClampNeg) * I (71 + 4 * ((mnI (A 25 a1.toNatClampNeg) 5).toNatClampNeg)) 0 + a3).toNatClampNeg)), some (.inr (some (71 + 4 * (mnI (A 25 (a1 + 1).toNatClampNeg) 5).toNatClampNeg))), some (.inl x7_46), some (.inl x8_67), none, none, none]) (st' := [.inl (a1 + 1), .inr (some 67), .inr (some (71 + 4 * (mnI (A 25 (a1 + 1).toNatClampNeg) 5).toNatClampNeg))]) (I' := I_67) rfl rfl ?_
              obtain ⟨hi, hv⟩ := hv
              refine g_iald hC dX6_countCrosses_91 (rfl) hi ?_
              clear hi
              refine g_blk hC _ bX6_countCrosses_92_94 (pc' := 94) (ls' := [some (.inr (some 29)), some (.inl a1), none, none, some (.inl (A (72 + 4 * ((mnI (A 25 a1.toNatClampNeg) 5).toNatClampNeg)) ((A 67 a1.toNatClampNeg) * I (71 + 4 * ((mnI (A 25 a1.toNatClampNeg) 5).toNatClampNeg)) 0 + a2).toNatClampNeg)), some (.inl (A (72 + 4 * ((mnI (A 25 a1.toNatClampNeg) 5).toNatClampNeg)) ((A 67 a1.toNatClampNeg) * I (71 + 4 * ((mnI (A 25 a1.toNatClampNeg) 5).toNatClampNeg)) 0 + a3).toNatClampNeg)), some (.inr (some (71 + 4 * (mnI (A 25 (a1 + 1).toNatClampNeg) 5).toNatClampNeg))), some (.inl x7_46), some (.inl x8_67), none, none, none]) (st' := [.inl x7_46, .inl (A 67 (a1 + 1).toNatClampNeg), .inr (some (71 + 4 * (mnI (A 25 (a1 + 1).toNatClampNeg) 5).toNatClampNeg))]) (I' := I_67) rfl rfl ?_
              obtain ⟨hp8, hv⟩ := hv
              obtain ⟨fs9, hs9⟩ := ch_sh (chO_lt hp5.2)
              refine g_callV hC (c_X0_thingAt l D ads I_67 A ((mnI (A 25 (a1 + 1).toNatClampNeg) 5).toNatClampNeg) (A 67 (a1 + 1).toNatClampNeg) x7_46 (chO_lt hp5.2) hp8) dX6_countCrosses_94 nm_X0_thingAt hs9 rfl wl_X6_100 wi_X0_thingAt ws_X0_thingAt wn_X0 wc_X0_thingAt ⟨by decide, by decide⟩ (as := [.inl (A 67 (a1 + 1).toNatClampNeg), .inl x7_46]) (rest := []) rfl (Nat.le_of_ble_eq_true rfl) ⟨Nat.le_refl _, Nat.le_refl _⟩ (k_qI ?_)
              refine g_blk hC _ bX6_countCrosses_97_108 (pc' := 108) (ls' := [some (.inr (some 29)), some (.inl a1), none, none, some (.inl (A (72 + 4 * ((mnI (A 25 a1.toNatClampNeg) 5).toNatClampNeg)) ((A 67 a1.toNatClampNeg) * I (71 + 4 * ((mnI (A 25 a1.toNatClampNeg) 5).toNatClampNeg)) 0 + a2).toNatClampNeg)), some (.inl (A (72 + 4 * ((mnI (A 25 a1.toNatClampNeg) 5).toNatClampNeg)) ((A 67 a1.toNatClampNeg) * I (71 + 4 * ((mnI (A 25 a1.toNatClampNeg) 5).toNatClampNeg)) 0 + a3).toNatClampNeg)), some (.inr (some (71 + 4 * (mnI (A 25 (a1 + 1).toNatClampNeg) 5).toNatClampNeg))), some (.inl x7_46), some (.inl x8_67), some (.inl (A (72 + 4 * ((mnI (A 25 (a1 + 1).toNatClampNeg) 5).toNatClampNeg)) ((A 67 (a1 + 1).toNatClampNeg) * I_67 (71 + 4 * ((mnI (A 25 (a1 + 1).toNatClampNeg) 5).toNatClampNeg)) 0 + x7_46).toNatClampNeg)), none, none]) (st' := [.inl (a1 + 1), .inr (some 67), .inr (some (71 + 4 * (mnI (A 25 (a1 + 1).toNatClampNeg) 5).toNatClampNeg))]) (I' := I_67) rfl rfl ?_
              obtain ⟨hi, hv⟩ := hv
              refine g_iald hC dX6_countCrosses_108 (rfl) hi ?_
              clear hi
              refine g_blk hC _ bX6_countCrosses_109_111 (pc' := 111) (ls' := [some (.inr (some 29)), some (.inl a1), none, none, some (.inl (A (72 + 4 * ((mnI (A 25 a1.toNatClampNeg) 5).toNatClampNeg)) ((A 67 a1.toNatClampNeg) * I (71 + 4 * ((mnI (A 25 a1.toNatClampNeg) 5).toNatClampNeg)) 0 + a2).toNatClampNeg)), some (.inl (A (72 + 4 * ((mnI (A 25 a1.toNatClampNeg) 5).toNatClampNeg)) ((A 67 a1.toNatClampNeg) * I (71 + 4 * ((mnI (A 25 a1.toNatClampNeg) 5).toNatClampNeg)) 0 + a3).toNatClampNeg)), some (.inr (some (71 + 4 * (mnI (A 25 (a1 + 1).toNatClampNeg) 5).toNatClampNeg))), some (.inl x7_46), some (.inl x8_67), some (.inl (A (72 + 4 * ((mnI (A 25 (a1 + 1).toNatClampNeg) 5).toNatClampNeg)) ((A 67 (a1 + 1).toNatClampNeg) * I_67 (71 + 4 * ((mnI (A 25 (a1 + 1).toNatClampNeg) 5).toNatClampNeg)) 0 + x7_46).toNatClampNeg)), none, none]) (st' := [.inl x8_67, .inl (A 67 (a1 + 1).toNatClampNeg), .inr (some (71 + 4 * (mnI (A 25 (a1 + 1).toNatClampNeg) 5).toNatClampNeg))]) (I' := I_67) rfl rfl ?_
              obtain ⟨hp9, hv⟩ := hv
              obtain ⟨fs9, hs9⟩ := ch_sh (chO_lt hp5.2)
              refine g_callV hC (c_X0_thingAt l D ads I_67 A ((mnI (A 25 (a1 + 1).toNatClampNeg) 5).toNatClampNeg) (A 67 (a1 + 1).toNatClampNeg) x8_67 (chO_lt hp5.2) hp9) dX6_countCrosses_111 nm_X0_thingAt hs9 rfl wl_X6_100 wi_X0_thingAt ws_X0_thingAt wn_X0 wc_X0_thingAt ⟨by decide, by decide⟩ (as := [.inl (A 67 (a1 + 1).toNatClampNeg), .inl x8_67]) (rest := []) rfl (Nat.le_of_ble_eq_true rfl) ⟨Nat.le_refl _, Nat.le_refl _⟩ (k_qI ?_)
              refine g_blk hC _ bX6_countCrosses_114_128 (pc' := 128) (ls' := [some (.inr (some 29)), some (.inl a1), none, none, some (.inl (A (72 + 4 * ((mnI (A 25 a1.toNatClampNeg) 5).toNatClampNeg)) ((A 67 a1.toNatClampNeg) * I (71 + 4 * ((mnI (A 25 a1.toNatClampNeg) 5).toNatClampNeg)) 0 + a2).toNatClampNeg)), some (.inl (A (72 + 4 * ((mnI (A 25 a1.toNatClampNeg) 5).toNatClampNeg)) ((A 67 a1.toNatClampNeg) * I (71 + 4 * ((mnI (A 25 a1.toNatClampNeg) 5).toNatClampNeg)) 0 + a3).toNatClampNeg)), some (.inr (some (71 + 4 * (mnI (A 25 (a1 + 1).toNatClampNeg) 5).toNatClampNeg))), some (.inl x7_46), some (.inl x8_67), some (.inl (A (72 + 4 * ((mnI (A 25 (a1 + 1).toNatClampNeg) 5).toNatClampNeg)) ((A 67 (a1 + 1).toNatClampNeg) * I_67 (71 + 4 * ((mnI (A 25 (a1 + 1).toNatClampNeg) 5).toNatClampNeg)) 0 + x7_46).toNatClampNeg)), some (.inl (A (72 + 4 * ((mnI (A 25 (a1 + 1).toNatClampNeg) 5).toNatClampNeg)) ((A 67 (a1 + 1).toNatClampNeg) * I_67 (71 + 4 * ((mnI (A 25 (a1 + 1).toNatClampNeg) 5).toNatClampNeg)) 0 + x8_67).toNatClampNeg)), none]) (st' := [.inl (A (72 + 4 * ((mnI (A 25 (a1 + 1).toNatClampNeg) 5).toNatClampNeg)) ((A 67 (a1 + 1).toNatClampNeg) * I_67 (71 + 4 * ((mnI (A 25 (a1 + 1).toNatClampNeg) 5).toNatClampNeg)) 0 + x8_67).toNatClampNeg), .inl (A (72 + 4 * ((mnI (A 25 (a1 + 1).toNatClampNeg) 5).toNatClampNeg)) ((A 67 (a1 + 1).toNatClampNeg) * I_67 (71 + 4 * ((mnI (A 25 (a1 + 1).toNatClampNeg) 5).toNatClampNeg)) 0 + x7_46).toNatClampNeg), .inl (A (72 + 4 * ((mnI (A 25 a1.toNatClampNeg) 5).toNatClampNeg)) ((A 67 a1.toNatClampNeg) * I (71 + 4 * ((mnI (A 25 a1.toNatClampNeg) 5).toNatClampNeg)) 0 + a3).toNatClampNeg), .inl (A (72 + 4 * ((mnI (A 25 a1.toNatClampNeg) 5).toNatClampNeg)) ((A 67 a1.toNatClampNeg) * I (71 + 4 * ((mnI (A 25 a1.toNatClampNeg) 5).toNatClampNeg)) 0 + a2).toNatClampNeg), .inr (some 68)]) (I' := I_67) rfl rfl ?_
              obtain ⟨hp10, hv⟩ := hv
              refine g_callV hC (c_X3_crossing l D ads I_67 A (A (72 + 4 * ((mnI (A 25 a1.toNatClampNeg) 5).toNatClampNeg)) ((A 67 a1.toNatClampNeg) * I (71 + 4 * ((mnI (A 25 a1.toNatClampNeg) 5).toNatClampNeg)) 0 + a2).toNatClampNeg) (A (72 + 4 * ((mnI (A 25 a1.toNatClampNeg) 5).toNatClampNeg)) ((A 67 a1.toNatClampNeg) * I (71 + 4 * ((mnI (A 25 a1.toNatClampNeg) 5).toNatClampNeg)) 0 + a3).toNatClampNeg) (A (72 + 4 * ((mnI (A 25 (a1 + 1).toNatClampNeg) 5).toNatClampNeg)) ((A 67 (a1 + 1).toNatClampNeg) * I_67 (71 + 4 * ((mnI (A 25 (a1 + 1).toNatClampNeg) 5).toNatClampNeg)) 0 + x7_46).toNatClampNeg) (A (72 + 4 * ((mnI (A 25 (a1 + 1).toNatClampNeg) 5).toNatClampNeg)) ((A 67 (a1 + 1).toNatClampNeg) * I_67 (71 + 4 * ((mnI (A 25 (a1 + 1).toNatClampNeg) 5).toNatClampNeg)) 0 + x8_67).toNatClampNeg) hp10) dX6_countCrosses_128 nm_X3_crossing rfl rfl wl_X6_162 wi_X3_crossing ws_X3_crossing wn_X3 wc_X3_crossing ⟨by decide, by decide⟩ (as := [.inl (A (72 + 4 * ((mnI (A 25 a1.toNatClampNeg) 5).toNatClampNeg)) ((A 67 a1.toNatClampNeg) * I (71 + 4 * ((mnI (A 25 a1.toNatClampNeg) 5).toNatClampNeg)) 0 + a2).toNatClampNeg), .inl (A (72 + 4 * ((mnI (A 25 a1.toNatClampNeg) 5).toNatClampNeg)) ((A 67 a1.toNatClampNeg) * I (71 + 4 * ((mnI (A 25 a1.toNatClampNeg) 5).toNatClampNeg)) 0 + a3).toNatClampNeg), .inl (A (72 + 4 * ((mnI (A 25 (a1 + 1).toNatClampNeg) 5).toNatClampNeg)) ((A 67 (a1 + 1).toNatClampNeg) * I_67 (71 + 4 * ((mnI (A 25 (a1 + 1).toNatClampNeg) 5).toNatClampNeg)) 0 + x7_46).toNatClampNeg), .inl (A (72 + 4 * ((mnI (A 25 (a1 + 1).toNatClampNeg) 5).toNatClampNeg)) ((A 67 (a1 + 1).toNatClampNeg) * I_67 (71 + 4 * ((mnI (A 25 (a1 + 1).toNatClampNeg) 5).toNatClampNeg)) 0 + x8_67).toNatClampNeg)]) (rest := []) rfl (Nat.le_of_ble_eq_true rfl) ⟨Nat.le_refl _, Nat.le_refl _⟩ (k_qI ?_)
              refine g_blk hC _ bX6_countCrosses_131_151 (pc' := 151) (ls' := [some (.inr (some 29)), some (.inl a1), none, none, some (.inl (A (72 + 4 * ((mnI (A 25 a1.toNatClampNeg) 5).toNatClampNeg)) ((A 67 a1.toNatClampNeg) * I (71 + 4 * ((mnI (A 25 a1.toNatClampNeg) 5).toNatClampNeg)) 0 + a2).toNatClampNeg)), some (.inl (A (72 + 4 * ((mnI (A 25 a1.toNatClampNeg) 5).toNatClampNeg)) ((A 67 a1.toNatClampNeg) * I (71 + 4 * ((mnI (A 25 a1.toNatClampNeg) 5).toNatClampNeg)) 0 + a3).toNatClampNeg)), some (.inr (some (71 + 4 * (mnI (A 25 (a1 + 1).toNatClampNeg) 5).toNatClampNeg))), some (.inl x7_46), some (.inl x8_67), some (.inl (A (72 + 4 * ((mnI (A 25 (a1 + 1).toNatClampNeg) 5).toNatClampNeg)) ((A 67 (a1 + 1).toNatClampNeg) * I_67 (71 + 4 * ((mnI (A 25 (a1 + 1).toNatClampNeg) 5).toNatClampNeg)) 0 + x7_46).toNatClampNeg)), some (.inl (A (72 + 4 * ((mnI (A 25 (a1 + 1).toNatClampNeg) 5).toNatClampNeg)) ((A 67 (a1 + 1).toNatClampNeg) * I_67 (71 + 4 * ((mnI (A 25 (a1 + 1).toNatClampNeg) 5).toNatClampNeg)) 0 + x8_67).toNatClampNeg)), some (.inl (A 69 ((A (72 + 4 * ((mnI (A 25 a1.toNatClampNeg) 5).toNatClampNeg)) ((A 67 a1.toNatClampNeg) * I (71 + 4 * ((mnI (A 25 a1.toNatClampNeg) 5).toNatClampNeg)) 0 + a2).toNatClampNeg) * 5 + (A (72 + 4 * ((mnI (A 25 (a1 + 1).toNatClampNeg) 5).toNatClampNeg)) ((A 67 (a1 + 1).toNatClampNeg) * I_67 (71 + 4 * ((mnI (A 25 (a1 + 1).toNatClampNeg) 5).toNatClampNeg)) 0 + x8_67).toNatClampNeg)).toNatClampNeg * A 69 ((A (72 + 4 * ((mnI (A 25 a1.toNatClampNeg) 5).toNatClampNeg)) ((A 67 a1.toNatClampNeg) * I (71 + 4 * ((mnI (A 25 a1.toNatClampNeg) 5).toNatClampNeg)) 0 + a3).toNatClampNeg) * 5 + (A (72 + 4 * ((mnI (A 25 (a1 + 1).toNatClampNeg) 5).toNatClampNeg)) ((A 67 (a1 + 1).toNatClampNeg) * I_67 (71 + 4 * ((mnI (A 25 (a1 + 1).toNatClampNeg) 5).toNatClampNeg)) 0 + x7_46).toNatClampNeg)).toNatClampNeg))]) (st' := [.inl (A 69 ((A (72 + 4 * ((mnI (A 25 a1.toNatClampNeg) 5).toNatClampNeg)) ((A 67 a1.toNatClampNeg) * I (71 + 4 * ((mnI (A 25 a1.toNatClampNeg) 5).toNatClampNeg)) 0 + a2).toNatClampNeg) * 5 + (A (72 + 4 * ((mnI (A 25 (a1 + 1).toNatClampNeg) 5).toNatClampNeg)) ((A 67 (a1 + 1).toNatClampNeg) * I_67 (71 + 4 * ((mnI (A 25 (a1 + 1).toNatClampNeg) 5).toNatClampNeg)) 0 + x8_67).toNatClampNeg)).toNatClampNeg * A 69 ((A (72 + 4 * ((mnI (A 25 a1.toNatClampNeg) 5).toNatClampNeg)) ((A 67 a1.toNatClampNeg) * I (71 + 4 * ((mnI (A 25 a1.toNatClampNeg) 5).toNatClampNeg)) 0 + a3).toNatClampNeg) * 5 + (A (72 + 4 * ((mnI (A 25 (a1 + 1).toNatClampNeg) 5).toNatClampNeg)) ((A 67 (a1 + 1).toNatClampNeg) * I_67 (71 + 4 * ((mnI (A 25 (a1 + 1).toNatClampNeg) 5).toNatClampNeg)) 0 + x7_46).toNatClampNeg)).toNatClampNeg), .inl ((up2 I_67 29 11 ((I_67 29 11) + (A 69 ((A (72 + 4 * ((mnI (A 25 a1.toNatClampNeg) 5).toNatClampNeg)) ((A 67 a1.toNatClampNeg) * I (71 + 4 * ((mnI (A 25 a1.toNatClampNeg) 5).toNatClampNeg)) 0 + a2).toNatClampNeg) * 5 + (A (72 + 4 * ((mnI (A 25 (a1 + 1).toNatClampNeg) 5).toNatClampNeg)) ((A 67 (a1 + 1).toNatClampNeg) * I_67 (71 + 4 * ((mnI (A 25 (a1 + 1).toNatClampNeg) 5).toNatClampNeg)) 0 + x8_67).toNatClampNeg)).toNatClampNeg * A 69 ((A (72 + 4 * ((mnI (A 25 a1.toNatClampNeg) 5).toNatClampNeg)) ((A 67 a1.toNatClampNeg) * I (71 + 4 * ((mnI (A 25 a1.toNatClampNeg) 5).toNatClampNeg)) 0 + a3).toNatClampNeg) * 5 + (A (72 + 4 * ((mnI (A 25 (a1 + 1).toNatClampNeg) 5).toNatClampNeg)) ((A 67 (a1 + 1).toNatClampNeg) * I_67 (71 + 4 * ((mnI (A 25 (a1 + 1).toNatClampNeg) 5).toNatClampNeg)) 0 + x7_46).toNatClampNeg)).toNatClampNeg))) 29 12), .inr (some 29)]) (I' := up2 I_67 29 11 ((I_67 29 11) + (A 69 ((A (72 + 4 * ((mnI (A 25 a1.toNatClampNeg) 5).toNatClampNeg)) ((A 67 a1.toNatClampNeg) * I (71 + 4 * ((mnI (A 25 a1.toNatClampNeg) 5).toNatClampNeg)) 0 + a2).toNatClampNeg) * 5 + (A (72 + 4 * ((mnI (A 25 (a1 + 1).toNatClampNeg) 5).toNatClampNeg)) ((A 67 (a1 + 1).toNatClampNeg) * I_67 (71 + 4 * ((mnI (A 25 (a1 + 1).toNatClampNeg) 5).toNatClampNeg)) 0 + x8_67).toNatClampNeg)).toNatClampNeg * A 69 ((A (72 + 4 * ((mnI (A 25 a1.toNatClampNeg) 5).toNatClampNeg)) ((A 67 a1.toNatClampNeg) * I (71 + 4 * ((mnI (A 25 a1.toNatClampNeg) 5).toNatClampNeg)) 0 + a3).toNatClampNeg) * 5 + (A (72 + 4 * ((mnI (A 25 (a1 + 1).toNatClampNeg) 5).toNatClampNeg)) ((A 67 (a1 + 1).toNatClampNeg) * I_67 (71 + 4 * ((mnI (A 25 (a1 + 1).toNatClampNeg) 5).toNatClampNeg)) 0 + x7_46).toNatClampNeg)).toNatClampNeg))) rfl rfl ?_
              obtain ⟨hv1, hv2⟩ := hv
              refine g_ifle hC dX6_countCrosses_151 (tgt := 158) (by decide) (fun hc => ?_) (fun hc => ?_)
              · have hv := hv1 hc
                clear hv1 hv2 hc
                refine g_blk hC _ bX6_countCrosses_158_166 (pc' := 166) (ls' := [some (.inr (some 29)), some (.inl a1), none, none, some (.inl (A (72 + 4 * ((mnI (A 25 a1.toNatClampNeg) 5).toNatClampNeg)) ((A 67 a1.toNatClampNeg) * I (71 + 4 * ((mnI (A 25 a1.toNatClampNeg) 5).toNatClampNeg)) 0 + a2).toNatClampNeg)), some (.inl (A (72 + 4 * ((mnI (A 25 a1.toNatClampNeg) 5).toNatClampNeg)) ((A 67 a1.toNatClampNeg) * I (71 + 4 * ((mnI (A 25 a1.toNatClampNeg) 5).toNatClampNeg)) 0 + a3).toNatClampNeg)), some (.inr (some (71 + 4 * (mnI (A 25 (a1 + 1).toNatClampNeg) 5).toNatClampNeg))), some (.inl x7_46), some (.inl (x8_67 + 1)), some (.inl (A (72 + 4 * ((mnI (A 25 (a1 + 1).toNatClampNeg) 5).toNatClampNeg)) ((A 67 (a1 + 1).toNatClampNeg) * I_67 (71 + 4 * ((mnI (A 25 (a1 + 1).toNatClampNeg) 5).toNatClampNeg)) 0 + x7_46).toNatClampNeg)), some (.inl (A (72 + 4 * ((mnI (A 25 (a1 + 1).toNatClampNeg) 5).toNatClampNeg)) ((A 67 (a1 + 1).toNatClampNeg) * I_67 (71 + 4 * ((mnI (A 25 (a1 + 1).toNatClampNeg) 5).toNatClampNeg)) 0 + x8_67).toNatClampNeg)), some (.inl (A 69 ((A (72 + 4 * ((mnI (A 25 a1.toNatClampNeg) 5).toNatClampNeg)) ((A 67 a1.toNatClampNeg) * I (71 + 4 * ((mnI (A 25 a1.toNatClampNeg) 5).toNatClampNeg)) 0 + a2).toNatClampNeg) * 5 + (A (72 + 4 * ((mnI (A 25 (a1 + 1).toNatClampNeg) 5).toNatClampNeg)) ((A 67 (a1 + 1).toNatClampNeg) * I_67 (71 + 4 * ((mnI (A 25 (a1 + 1).toNatClampNeg) 5).toNatClampNeg)) 0 + x8_67).toNatClampNeg)).toNatClampNeg * A 69 ((A (72 + 4 * ((mnI (A 25 a1.toNatClampNeg) 5).toNatClampNeg)) ((A 67 a1.toNatClampNeg) * I (71 + 4 * ((mnI (A 25 a1.toNatClampNeg) 5).toNatClampNeg)) 0 + a3).toNatClampNeg) * 5 + (A (72 + 4 * ((mnI (A 25 (a1 + 1).toNatClampNeg) 5).toNatClampNeg)) ((A 67 (a1 + 1).toNatClampNeg) * I_67 (71 + 4 * ((mnI (A 25 (a1 + 1).toNatClampNeg) 5).toNatClampNeg)) 0 + x7_46).toNatClampNeg)).toNatClampNeg))]) (st' := []) (I' := up2 (up2 I_67 29 11 ((I_67 29 11) + (A 69 ((A (72 + 4 * ((mnI (A 25 a1.toNatClampNeg) 5).toNatClampNeg)) ((A 67 a1.toNatClampNeg) * I (71 + 4 * ((mnI (A 25 a1.toNatClampNeg) 5).toNatClampNeg)) 0 + a2).toNatClampNeg) * 5 + (A (72 + 4 * ((mnI (A 25 (a1 + 1).toNatClampNeg) 5).toNatClampNeg)) ((A 67 (a1 + 1).toNatClampNeg) * I_67 (71 + 4 * ((mnI (A 25 (a1 + 1).toNatClampNeg) 5).toNatClampNeg)) 0 + x8_67).toNatClampNeg)).toNatClampNeg * A 69 ((A (72 + 4 * ((mnI (A 25 a1.toNatClampNeg) 5).toNatClampNeg)) ((A 67 a1.toNatClampNeg) * I (71 + 4 * ((mnI (A 25 a1.toNatClampNeg) 5).toNatClampNeg)) 0 + a3).toNatClampNeg) * 5 + (A (72 + 4 * ((mnI (A 25 (a1 + 1).toNatClampNeg) 5).toNatClampNeg)) ((A 67 (a1 + 1).toNatClampNeg) * I_67 (71 + 4 * ((mnI (A 25 (a1 + 1).toNatClampNeg) 5).toNatClampNeg)) 0 + x7_46).toNatClampNeg)).toNatClampNeg))) 29 12 (((up2 I_67 29 11 ((I_67 29 11) + (A 69 ((A (72 + 4 * ((mnI (A 25 a1.toNatClampNeg) 5).toNatClampNeg)) ((A 67 a1.toNatClampNeg) * I (71 + 4 * ((mnI (A 25 a1.toNatClampNeg) 5).toNatClampNeg)) 0 + a2).toNatClampNeg) * 5 + (A (72 + 4 * ((mnI (A 25 (a1 + 1).toNatClampNeg) 5).toNatClampNeg)) ((A 67 (a1 + 1).toNatClampNeg) * I_67 (71 + 4 * ((mnI (A 25 (a1 + 1).toNatClampNeg) 5).toNatClampNeg)) 0 + x8_67).toNatClampNeg)).toNatClampNeg * A 69 ((A (72 + 4 * ((mnI (A 25 a1.toNatClampNeg) 5).toNatClampNeg)) ((A 67 a1.toNatClampNeg) * I (71 + 4 * ((mnI (A 25 a1.toNatClampNeg) 5).toNatClampNeg)) 0 + a3).toNatClampNeg) * 5 + (A (72 + 4 * ((mnI (A 25 (a1 + 1).toNatClampNeg) 5).toNatClampNeg)) ((A 67 (a1 + 1).toNatClampNeg) * I_67 (71 + 4 * ((mnI (A 25 (a1 + 1).toNatClampNeg) 5).toNatClampNeg)) 0 + x7_46).toNatClampNeg)).toNatClampNeg))) 29 12) + 0)) rfl rfl ?_
                refine g_goto hC dX6_countCrosses_166 (tgt := 67) (by decide) ?_
                exact g_weak (ls1 := [some (.inr (some 29)), some (.inl a1), none, none, some (.inl (A (72 + 4 * ((mnI (A 25 a1.toNatClampNeg) 5).toNatClampNeg)) ((A 67 a1.toNatClampNeg) * I (71 + 4 * ((mnI (A 25 a1.toNatClampNeg) 5).toNatClampNeg)) 0 + a2).toNatClampNeg)), some (.inl (A (72 + 4 * ((mnI (A 25 a1.toNatClampNeg) 5).toNatClampNeg)) ((A 67 a1.toNatClampNeg) * I (71 + 4 * ((mnI (A 25 a1.toNatClampNeg) 5).toNatClampNeg)) 0 + a3).toNatClampNeg)), some (.inr (some (71 + 4 * (mnI (A 25 (a1 + 1).toNatClampNeg) 5).toNatClampNeg))), some (.inl x7_46), some (.inl (x8_67 + 1)), none, none, none]) rfl (And.intro rfl (And.intro rfl (And.intro rfl (And.intro rfl (And.intro rfl (And.intro rfl (And.intro rfl trivial))))))) (ih67 (x8_67 + 1) (up2 (up2 I_67 29 11 ((I_67 29 11) + (A 69 ((A (72 + 4 * ((mnI (A 25 a1.toNatClampNeg) 5).toNatClampNeg)) ((A 67 a1.toNatClampNeg) * I (71 + 4 * ((mnI (A 25 a1.toNatClampNeg) 5).toNatClampNeg)) 0 + a2).toNatClampNeg) * 5 + (A (72 + 4 * ((mnI (A 25 (a1 + 1).toNatClampNeg) 5).toNatClampNeg)) ((A 67 (a1 + 1).toNatClampNeg) * I_67 (71 + 4 * ((mnI (A 25 (a1 + 1).toNatClampNeg) 5).toNatClampNeg)) 0 + x8_67).toNatClampNeg)).toNatClampNeg * A 69 ((A (72 + 4 * ((mnI (A 25 a1.toNatClampNeg) 5).toNatClampNeg)) ((A 67 a1.toNatClampNeg) * I (71 + 4 * ((mnI (A 25 a1.toNatClampNeg) 5).toNatClampNeg)) 0 + a3).toNatClampNeg) * 5 + (A (72 + 4 * ((mnI (A 25 (a1 + 1).toNatClampNeg) 5).toNatClampNeg)) ((A 67 (a1 + 1).toNatClampNeg) * I_67 (71 + 4 * ((mnI (A 25 (a1 + 1).toNatClampNeg) 5).toNatClampNeg)) 0 + x7_46).toNatClampNeg)).toNatClampNeg))) 29 12 (((up2 I_67 29 11 ((I_67 29 11) + (A 69 ((A (72 + 4 * ((mnI (A 25 a1.toNatClampNeg) 5).toNatClampNeg)) ((A 67 a1.toNatClampNeg) * I (71 + 4 * ((mnI (A 25 a1.toNatClampNeg) 5).toNatClampNeg)) 0 + a2).toNatClampNeg) * 5 + (A (72 + 4 * ((mnI (A 25 (a1 + 1).toNatClampNeg) 5).toNatClampNeg)) ((A 67 (a1 + 1).toNatClampNeg) * I_67 (71 + 4 * ((mnI (A 25 (a1 + 1).toNatClampNeg) 5).toNatClampNeg)) 0 + x8_67).toNatClampNeg)).toNatClampNeg * A 69 ((A (72 + 4 * ((mnI (A 25 a1.toNatClampNeg) 5).toNatClampNeg)) ((A 67 a1.toNatClampNeg) * I (71 + 4 * ((mnI (A 25 a1.toNatClampNeg) 5).toNatClampNeg)) 0 + a3).toNatClampNeg) * 5 + (A (72 + 4 * ((mnI (A 25 (a1 + 1).toNatClampNeg) 5).toNatClampNeg)) ((A 67 (a1 + 1).toNatClampNeg) * I_67 (71 + 4 * ((mnI (A 25 (a1 + 1).toNatClampNeg) 5).toNatClampNeg)) 0 + x7_46).toNatClampNeg)).toNatClampNeg))) 29 12) + 0)) hv.1 (Nat.lt_of_lt_of_le hv.2 (Nat.le_of_lt_succ hn67)))
              · have hv := hv2 hc
                clear hv1 hv2 hc
                refine g_blk hC _ bX6_countCrosses_154_155 (pc' := 155) (ls' := [some (.inr (some 29)), some (.inl a1), none, none, some (.inl (A (72 + 4 * ((mnI (A 25 a1.toNatClampNeg) 5).toNatClampNeg)) ((A 67 a1.toNatClampNeg) * I (71 + 4 * ((mnI (A 25 a1.toNatClampNeg) 5).toNatClampNeg)) 0 + a2).toNatClampNeg)), some (.inl (A (72 + 4 * ((mnI (A 25 a1.toNatClampNeg) 5).toNatClampNeg)) ((A 67 a1.toNatClampNeg) * I (71 + 4 * ((mnI (A 25 a1.toNatClampNeg) 5).toNatClampNeg)) 0 + a3).toNatClampNeg)), some (.inr (some (71 + 4 * (mnI (A 25 (a1 + 1).toNatClampNeg) 5).toNatClampNeg))), some (.inl x7_46), some (.inl x8_67), some (.inl (A (72 + 4 * ((mnI (A 25 (a1 + 1).toNatClampNeg) 5).toNatClampNeg)) ((A 67 (a1 + 1).toNatClampNeg) * I_67 (71 + 4 * ((mnI (A 25 (a1 + 1).toNatClampNeg) 5).toNatClampNeg)) 0 + x7_46).toNatClampNeg)), some (.inl (A (72 + 4 * ((mnI (A 25 (a1 + 1).toNatClampNeg) 5).toNatClampNeg)) ((A 67 (a1 + 1).toNatClampNeg) * I_67 (71 + 4 * ((mnI (A 25 (a1 + 1).toNatClampNeg) 5).toNatClampNeg)) 0 + x8_67).toNatClampNeg)), some (.inl (A 69 ((A (72 + 4 * ((mnI (A 25 a1.toNatClampNeg) 5).toNatClampNeg)) ((A 67 a1.toNatClampNeg) * I (71 + 4 * ((mnI (A 25 a1.toNatClampNeg) 5).toNatClampNeg)) 0 + a2).toNatClampNeg) * 5 + (A (72 + 4 * ((mnI (A 25 (a1 + 1).toNatClampNeg) 5).toNatClampNeg)) ((A 67 (a1 + 1).toNatClampNeg) * I_67 (71 + 4 * ((mnI (A 25 (a1 + 1).toNatClampNeg) 5).toNatClampNeg)) 0 + x8_67).toNatClampNeg)).toNatClampNeg * A 69 ((A (72 + 4 * ((mnI (A 25 a1.toNatClampNeg) 5).toNatClampNeg)) ((A 67 a1.toNatClampNeg) * I (71 + 4 * ((mnI (A 25 a1.toNatClampNeg) 5).toNatClampNeg)) 0 + a3).toNatClampNeg) * 5 + (A (72 + 4 * ((mnI (A 25 (a1 + 1).toNatClampNeg) 5).toNatClampNeg)) ((A 67 (a1 + 1).toNatClampNeg) * I_67 (71 + 4 * ((mnI (A 25 (a1 + 1).toNatClampNeg) 5).toNatClampNeg)) 0 + x7_46).toNatClampNeg)).toNatClampNeg))]) (st' := [.inl 1, .inl ((up2 I_67 29 11 ((I_67 29 11) + (A 69 ((A (72 + 4 * ((mnI (A 25 a1.toNatClampNeg) 5).toNatClampNeg)) ((A 67 a1.toNatClampNeg) * I (71 + 4 * ((mnI (A 25 a1.toNatClampNeg) 5).toNatClampNeg)) 0 + a2).toNatClampNeg) * 5 + (A (72 + 4 * ((mnI (A 25 (a1 + 1).toNatClampNeg) 5).toNatClampNeg)) ((A 67 (a1 + 1).toNatClampNeg) * I_67 (71 + 4 * ((mnI (A 25 (a1 + 1).toNatClampNeg) 5).toNatClampNeg)) 0 + x8_67).toNatClampNeg)).toNatClampNeg * A 69 ((A (72 + 4 * ((mnI (A 25 a1.toNatClampNeg) 5).toNatClampNeg)) ((A 67 a1.toNatClampNeg) * I (71 + 4 * ((mnI (A 25 a1.toNatClampNeg) 5).toNatClampNeg)) 0 + a3).toNatClampNeg) * 5 + (A (72 + 4 * ((mnI (A 25 (a1 + 1).toNatClampNeg) 5).toNatClampNeg)) ((A 67 (a1 + 1).toNatClampNeg) * I_67 (71 + 4 * ((mnI (A 25 (a1 + 1).toNatClampNeg) 5).toNatClampNeg)) 0 + x7_46).toNatClampNeg)).toNatClampNeg))) 29 12), .inr (some 29)]) (I' := up2 I_67 29 11 ((I_67 29 11) + (A 69 ((A (72 + 4 * ((mnI (A 25 a1.toNatClampNeg) 5).toNatClampNeg)) ((A 67 a1.toNatClampNeg) * I (71 + 4 * ((mnI (A 25 a1.toNatClampNeg) 5).toNatClampNeg)) 0 + a2).toNatClampNeg) * 5 + (A (72 + 4 * ((mnI (A 25 (a1 + 1).toNatClampNeg) 5).toNatClampNeg)) ((A 67 (a1 + 1).toNatClampNeg) * I_67 (71 + 4 * ((mnI (A 25 (a1 + 1).toNatClampNeg) 5).toNatClampNeg)) 0 + x8_67).toNatClampNeg)).toNatClampNeg * A 69 ((A (72 + 4 * ((mnI (A 25 a1.toNatClampNeg) 5).toNatClampNeg)) ((A 67 a1.toNatClampNeg) * I (71 + 4 * ((mnI (A 25 a1.toNatClampNeg) 5).toNatClampNeg)) 0 + a3).toNatClampNeg) * 5 + (A (72 + 4 * ((mnI (A 25 (a1 + 1).toNatClampNeg) 5).toNatClampNeg)) ((A 67 (a1 + 1).toNatClampNeg) * I_67 (71 + 4 * ((mnI (A 25 (a1 + 1).toNatClampNeg) 5).toNatClampNeg)) 0 + x7_46).toNatClampNeg)).toNatClampNeg))) rfl rfl ?_
                refine g_goto hC dX6_countCrosses_155 (tgt := 159) (by decide) ?_
                refine g_blk hC _ bX6_countCrosses_159_166 (pc' := 166) (ls' := [some (.inr (some 29)), some (.inl a1), none, none, some (.inl (A (72 + 4 * ((mnI (A 25 a1.toNatClampNeg) 5).toNatClampNeg)) ((A 67 a1.toNatClampNeg) * I (71 + 4 * ((mnI (A 25 a1.toNatClampNeg) 5).toNatClampNeg)) 0 + a2).toNatClampNeg)), some (.inl (A (72 + 4 * ((mnI (A 25 a1.toNatClampNeg) 5).toNatClampNeg)) ((A 67 a1.toNatClampNeg) * I (71 + 4 * ((mnI (A 25 a1.toNatClampNeg) 5).toNatClampNeg)) 0 + a3).toNatClampNeg)), some (.inr (some (71 + 4 * (mnI (A 25 (a1 + 1).toNatClampNeg) 5).toNatClampNeg))), some (.inl x7_46), some (.inl (x8_67 + 1)), some (.inl (A (72 + 4 * ((mnI (A 25 (a1 + 1).toNatClampNeg) 5).toNatClampNeg)) ((A 67 (a1 + 1).toNatClampNeg) * I_67 (71 + 4 * ((mnI (A 25 (a1 + 1).toNatClampNeg) 5).toNatClampNeg)) 0 + x7_46).toNatClampNeg)), some (.inl (A (72 + 4 * ((mnI (A 25 (a1 + 1).toNatClampNeg) 5).toNatClampNeg)) ((A 67 (a1 + 1).toNatClampNeg) * I_67 (71 + 4 * ((mnI (A 25 (a1 + 1).toNatClampNeg) 5).toNatClampNeg)) 0 + x8_67).toNatClampNeg)), some (.inl (A 69 ((A (72 + 4 * ((mnI (A 25 a1.toNatClampNeg) 5).toNatClampNeg)) ((A 67 a1.toNatClampNeg) * I (71 + 4 * ((mnI (A 25 a1.toNatClampNeg) 5).toNatClampNeg)) 0 + a2).toNatClampNeg) * 5 + (A (72 + 4 * ((mnI (A 25 (a1 + 1).toNatClampNeg) 5).toNatClampNeg)) ((A 67 (a1 + 1).toNatClampNeg) * I_67 (71 + 4 * ((mnI (A 25 (a1 + 1).toNatClampNeg) 5).toNatClampNeg)) 0 + x8_67).toNatClampNeg)).toNatClampNeg * A 69 ((A (72 + 4 * ((mnI (A 25 a1.toNatClampNeg) 5).toNatClampNeg)) ((A 67 a1.toNatClampNeg) * I (71 + 4 * ((mnI (A 25 a1.toNatClampNeg) 5).toNatClampNeg)) 0 + a3).toNatClampNeg) * 5 + (A (72 + 4 * ((mnI (A 25 (a1 + 1).toNatClampNeg) 5).toNatClampNeg)) ((A 67 (a1 + 1).toNatClampNeg) * I_67 (71 + 4 * ((mnI (A 25 (a1 + 1).toNatClampNeg) 5).toNatClampNeg)) 0 + x7_46).toNatClampNeg)).toNatClampNeg))]) (st' := []) (I' := up2 (up2 I_67 29 11 ((I_67 29 11) + (A 69 ((A (72 + 4 * ((mnI (A 25 a1.toNatClampNeg) 5).toNatClampNeg)) ((A 67 a1.toNatClampNeg) * I (71 + 4 * ((mnI (A 25 a1.toNatClampNeg) 5).toNatClampNeg)) 0 + a2).toNatClampNeg) * 5 + (A (72 + 4 * ((mnI (A 25 (a1 + 1).toNatClampNeg) 5).toNatClampNeg)) ((A 67 (a1 + 1).toNatClampNeg) * I_67 (71 + 4 * ((mnI (A 25 (a1 + 1).toNatClampNeg) 5).toNatClampNeg)) 0 + x8_67).toNatClampNeg)).toNatClampNeg * A 69 ((A (72 + 4 * ((mnI (A 25 a1.toNatClampNeg) 5).toNatClampNeg)) ((A 67 a1.toNatClampNeg) * I (71 + 4 * ((mnI (A 25 a1.toNatClampNeg) 5).toNatClampNeg)) 0 + a3).toNatClampNeg) * 5 + (A (72 + 4 * ((mnI (A 25 (a1 + 1).toNatClampNeg) 5).toNatClampNeg)) ((A 67 (a1 + 1).toNatClampNeg) * I_67 (71 + 4 * ((mnI (A 25 (a1 + 1).toNatClampNeg) 5).toNatClampNeg)) 0 + x7_46).toNatClampNeg)).toNatClampNeg))) 29 12 (((up2 I_67 29 11 ((I_67 29 11) + (A 69 ((A (72 + 4 * ((mnI (A 25 a1.toNatClampNeg) 5).toNatClampNeg)) ((A 67 a1.toNatClampNeg) * I (71 + 4 * ((mnI (A 25 a1.toNatClampNeg) 5).toNatClampNeg)) 0 + a2).toNatClampNeg) * 5 + (A (72 + 4 * ((mnI (A 25 (a1 + 1).toNatClampNeg) 5).toNatClampNeg)) ((A 67 (a1 + 1).toNatClampNeg) * I_67 (71 + 4 * ((mnI (A 25 (a1 + 1).toNatClampNeg) 5).toNatClampNeg)) 0 + x8_67).toNatClampNeg)).toNatClampNeg * A 69 ((A (72 + 4 * ((mnI (A 25 a1.toNatClampNeg) 5).toNatClampNeg)) ((A 67 a1.toNatClampNeg) * I (71 + 4 * ((mnI (A 25 a1.toNatClampNeg) 5).toNatClampNeg)) 0 + a3).toNatClampNeg) * 5 + (A (72 + 4 * ((mnI (A 25 (a1 + 1).toNatClampNeg) 5).toNatClampNeg)) ((A 67 (a1 + 1).toNatClampNeg) * I_67 (71 + 4 * ((mnI (A 25 (a1 + 1).toNatClampNeg) 5).toNatClampNeg)) 0 + x7_46).toNatClampNeg)).toNatClampNeg))) 29 12) + 1)) rfl rfl ?_
                refine g_goto hC dX6_countCrosses_166 (tgt := 67) (by decide) ?_
                exact g_weak (ls1 := [some (.inr (some 29)), some (.inl a1), none, none, some (.inl (A (72 + 4 * ((mnI (A 25 a1.toNatClampNeg) 5).toNatClampNeg)) ((A 67 a1.toNatClampNeg) * I (71 + 4 * ((mnI (A 25 a1.toNatClampNeg) 5).toNatClampNeg)) 0 + a2).toNatClampNeg)), some (.inl (A (72 + 4 * ((mnI (A 25 a1.toNatClampNeg) 5).toNatClampNeg)) ((A 67 a1.toNatClampNeg) * I (71 + 4 * ((mnI (A 25 a1.toNatClampNeg) 5).toNatClampNeg)) 0 + a3).toNatClampNeg)), some (.inr (some (71 + 4 * (mnI (A 25 (a1 + 1).toNatClampNeg) 5).toNatClampNeg))), some (.inl x7_46), some (.inl (x8_67 + 1)), none, none, none]) rfl (And.intro rfl (And.intro rfl (And.intro rfl (And.intro rfl (And.intro rfl (And.intro rfl (And.intro rfl trivial))))))) (ih67 (x8_67 + 1) (up2 (up2 I_67 29 11 ((I_67 29 11) + (A 69 ((A (72 + 4 * ((mnI (A 25 a1.toNatClampNeg) 5).toNatClampNeg)) ((A 67 a1.toNatClampNeg) * I (71 + 4 * ((mnI (A 25 a1.toNatClampNeg) 5).toNatClampNeg)) 0 + a2).toNatClampNeg) * 5 + (A (72 + 4 * ((mnI (A 25 (a1 + 1).toNatClampNeg) 5).toNatClampNeg)) ((A 67 (a1 + 1).toNatClampNeg) * I_67 (71 + 4 * ((mnI (A 25 (a1 + 1).toNatClampNeg) 5).toNatClampNeg)) 0 + x8_67).toNatClampNeg)).toNatClampNeg * A 69 ((A (72 + 4 * ((mnI (A 25 a1.toNatClampNeg) 5).toNatClampNeg)) ((A 67 a1.toNatClampNeg) * I (71 + 4 * ((mnI (A 25 a1.toNatClampNeg) 5).toNatClampNeg)) 0 + a3).toNatClampNeg) * 5 + (A (72 + 4 * ((mnI (A 25 (a1 + 1).toNatClampNeg) 5).toNatClampNeg)) ((A 67 (a1 + 1).toNatClampNeg) * I_67 (71 + 4 * ((mnI (A 25 (a1 + 1).toNatClampNeg) 5).toNatClampNeg)) 0 + x7_46).toNatClampNeg)).toNatClampNeg))) 29 12 (((up2 I_67 29 11 ((I_67 29 11) + (A 69 ((A (72 + 4 * ((mnI (A 25 a1.toNatClampNeg) 5).toNatClampNeg)) ((A 67 a1.toNatClampNeg) * I (71 + 4 * ((mnI (A 25 a1.toNatClampNeg) 5).toNatClampNeg)) 0 + a2).toNatClampNeg) * 5 + (A (72 + 4 * ((mnI (A 25 (a1 + 1).toNatClampNeg) 5).toNatClampNeg)) ((A 67 (a1 + 1).toNatClampNeg) * I_67 (71 + 4 * ((mnI (A 25 (a1 + 1).toNatClampNeg) 5).toNatClampNeg)) 0 + x8_67).toNatClampNeg)).toNatClampNeg * A 69 ((A (72 + 4 * ((mnI (A 25 a1.toNatClampNeg) 5).toNatClampNeg)) ((A 67 a1.toNatClampNeg) * I (71 + 4 * ((mnI (A 25 a1.toNatClampNeg) 5).toNatClampNeg)) 0 + a3).toNatClampNeg) * 5 + (A (72 + 4 * ((mnI (A 25 (a1 + 1).toNatClampNeg) 5).toNatClampNeg)) ((A 67 (a1 + 1).toNatClampNeg) * I_67 (71 + 4 * ((mnI (A 25 (a1 + 1).toNatClampNeg) 5).toNatClampNeg)) 0 + x7_46).toNatClampNeg)).toNatClampNeg))) 29 12) + 1)) hv.1 (Nat.lt_of_lt_of_le hv.2 (Nat.le_of_lt_succ hn67)))
        exact g_weak (ls1 := [some (.inr (some 29)), some (.inl a1), none, none, some (.inl (A (72 + 4 * ((mnI (A 25 a1.toNatClampNeg) 5).toNatClampNeg)) ((A 67 a1.toNatClampNeg) * I (71 + 4 * ((mnI (A 25 a1.toNatClampNeg) 5).toNatClampNeg)) 0 + a2).toNatClampNeg)), some (.inl (A (72 + 4 * ((mnI (A 25 a1.toNatClampNeg) 5).toNatClampNeg)) ((A 67 a1.toNatClampNeg) * I (71 + 4 * ((mnI (A 25 a1.toNatClampNeg) 5).toNatClampNeg)) 0 + a3).toNatClampNeg)), some (.inr (some (71 + 4 * (mnI (A 25 (a1 + 1).toNatClampNeg) 5).toNatClampNeg))), some (.inl x7_46), some (.inl (x7_46 + 1)), none, none, none]) rfl (And.intro rfl (And.intro rfl (And.intro rfl (And.intro rfl (And.intro rfl (And.intro rfl (And.intro rfl trivial))))))) (L67 _ (x7_46 + 1) I_46 hi67 (Nat.lt_succ_self _))
  exact g_weak (ls1 := [some (.inr (some 29)), some (.inl a1), none, none, some (.inl (A (72 + 4 * ((mnI (A 25 a1.toNatClampNeg) 5).toNatClampNeg)) ((A 67 a1.toNatClampNeg) * I (71 + 4 * ((mnI (A 25 a1.toNatClampNeg) 5).toNatClampNeg)) 0 + a2).toNatClampNeg)), some (.inl (A (72 + 4 * ((mnI (A 25 a1.toNatClampNeg) 5).toNatClampNeg)) ((A 67 a1.toNatClampNeg) * I (71 + 4 * ((mnI (A 25 a1.toNatClampNeg) 5).toNatClampNeg)) 0 + a3).toNatClampNeg)), some (.inr (some (71 + 4 * (mnI (A 25 (a1 + 1).toNatClampNeg) 5).toNatClampNeg))), some (.inl 0), none, none, none, none]) rfl (And.intro rfl (And.intro rfl (And.intro rfl (And.intro rfl (And.intro rfl (And.intro rfl trivial)))))) (L46 _ 0 I hi46 (Nat.lt_succ_self _))
set_option maxHeartbeats 4000000 in
set_option maxRecDepth 100000 in
theorem c_X6_countCrosses (l : Launch) (D : va_G) (ads : AD) (I A : HI) (a1 : Int32) (a2 : Int32) (a3 : Int32) (hp : cCr0 I A a1 a2 a3) : Ct l yX6_countCrosses cX6_countCrosses 12 none 2 45 D ads shp [.inr (some 29), .inl a1, .inl a2, .inl a3] I A (qV (fun I' A' => A' = A ∧ cCr I A a1 a2 a3 I')) := by
  sorry
theorem bX6_countParts_0_17 : okB cX6_countParts RX6 0 [(5, 0, 0, 0, 0), (0, 0, 0, 0, 0), (24, 39, 6, 11, 0), (5, 0, 0, 0, 0), (0, 0, 0, 0, 0), (24, 42, 6, 12, 0), (5, 0, 0, 0, 0), (0, 0, 0, 0, 0), (24, 45, 6, 13, 0), (0, 0, 0, 0, 0), (7, 2, 0, 0, 0)] := And.intro ⟨_, dX6_countParts_0, rfl⟩ (And.intro ⟨_, dX6_countParts_1, by decide⟩ (And.intro ⟨dX6_countParts_2, fl_X6_39, rfl, rfl⟩ (And.intro ⟨_, dX6_countParts_5, rfl⟩ (And.intro ⟨_, dX6_countParts_6, by decide⟩ (And.intro ⟨dX6_countParts_7, fl_X6_42, rfl, rfl⟩ (And.intro ⟨_, dX6_countParts_10, rfl⟩ (And.intro ⟨_, dX6_countParts_11, by decide⟩ (And.intro ⟨dX6_countParts_12, fl_X6_45, rfl, rfl⟩ (And.intro ⟨_, dX6_countParts_15, by decide⟩ (And.intro ⟨_, dX6_countParts_16, rfl⟩ trivial))))))))))
theorem bX6_countParts_17_19 : okB cX6_countParts RX6 17 [(3, 2, 0, 0, 0), (3, 1, 0, 0, 0)] := And.intro ⟨_, dX6_countParts_17, rfl⟩ (And.intro ⟨_, dX6_countParts_18, rfl⟩ trivial)
theorem bX6_countParts_22_27 : okB cX6_countParts RX6 22 [(5, 0, 0, 0, 0), (23, 65, 6, 3, 0), (3, 2, 0, 0, 0)] := And.intro ⟨_, dX6_countParts_22, rfl⟩ (And.intro ⟨dX6_countParts_23, fl_X6_65⟩ (And.intro ⟨_, dX6_countParts_26, rfl⟩ trivial))
theorem bX6_countParts_30_32 : okB cX6_countParts RX6 30 [(0, 0, 0, 0, 0), (7, 3, 0, 0, 0)] := And.intro ⟨_, dX6_countParts_30, by decide⟩ (And.intro ⟨_, dX6_countParts_31, rfl⟩ trivial)
theorem bX6_countParts_32_38 : okB cX6_countParts RX6 32 [(3, 3, 0, 0, 0), (5, 0, 0, 0, 0), (23, 52, 6, 1, 0), (3, 2, 0, 0, 0)] := And.intro ⟨_, dX6_countParts_32, rfl⟩ (And.intro ⟨_, dX6_countParts_33, rfl⟩ (And.intro ⟨dX6_countParts_34, fl_X6_52⟩ (And.intro ⟨_, dX6_countParts_37, rfl⟩ trivial)))
theorem bX6_countParts_111_114 : okB cX6_countParts RX6 111 [(11, 2, 0, 0, 1)] := And.intro ⟨_, dX6_countParts_111, by decide⟩ trivial
theorem bX6_countParts_44_49 : okB cX6_countParts RX6 44 [(3, 3, 0, 0, 0), (0, 0, 0, 0, 1), (12, 0, 0, 0, 0), (8, 4, 0, 0, 0)] := And.intro ⟨_, dX6_countParts_44, rfl⟩ (And.intro ⟨_, dX6_countParts_45, by decide⟩ (And.intro dX6_countParts_46 (And.intro dX6_countParts_47 trivial)))
theorem bX6_countParts_49_56 : okB cX6_countParts RX6 49 [(4, 4, 0, 0, 0), (5, 0, 0, 0, 0), (23, 52, 6, 1, 0), (3, 2, 0, 0, 0)] := And.intro dX6_countParts_49 (And.intro ⟨_, dX6_countParts_51, rfl⟩ (And.intro ⟨dX6_countParts_52, fl_X6_52⟩ (And.intro ⟨_, dX6_countParts_55, rfl⟩ trivial)))
theorem bX6_countParts_105_108 : okB cX6_countParts RX6 105 [(11, 3, 0, 0, 1)] := And.intro ⟨_, dX6_countParts_105, by decide⟩ trivial
theorem bX6_countParts_62_74 : okB cX6_countParts RX6 62 [(5, 0, 0, 0, 0), (20, 0, 0, 0, 0), (23, 45, 6, 13, 0), (5, 0, 0, 0, 0), (23, 56, 6, 2, 0), (5, 0, 0, 0, 0), (3, 2, 0, 0, 0), (3, 3, 0, 0, 0)] := And.intro ⟨_, dX6_countParts_62, rfl⟩ (And.intro dX6_countParts_63 (And.intro ⟨dX6_countParts_64, fl_X6_45⟩ (And.intro ⟨_, dX6_countParts_67, rfl⟩ (And.intro ⟨dX6_countParts_68, fl_X6_56⟩ (And.intro ⟨_, dX6_countParts_71, rfl⟩ (And.intro ⟨_, dX6_countParts_72, rfl⟩ (And.intro ⟨_, dX6_countParts_73, rfl⟩ trivial)))))))
theorem bX6_countParts_77_81 : okB cX6_countParts RX6 77 [(5, 0, 0, 0, 0), (3, 2, 0, 0, 0), (4, 4, 0, 0, 0)] := And.intro ⟨_, dX6_countParts_77, rfl⟩ (And.intro ⟨_, dX6_countParts_78, rfl⟩ (And.intro dX6_countParts_79 trivial))
theorem bX6_countParts_87_96 : okB cX6_countParts RX6 87 [(12, 0, 0, 0, 0), (24, 45, 6, 13, 0), (5, 0, 0, 0, 0), (3, 2, 0, 0, 0), (3, 3, 0, 0, 0), (4, 4, 0, 0, 0)] := And.intro dX6_countParts_87 (And.intro ⟨dX6_countParts_88, fl_X6_45, rfl, rfl⟩ (And.intro ⟨_, dX6_countParts_91, rfl⟩ (And.intro ⟨_, dX6_countParts_92, rfl⟩ (And.intro ⟨_, dX6_countParts_93, rfl⟩ (And.intro dX6_countParts_94 trivial)))))
theorem bX6_countParts_99_102 : okB cX6_countParts RX6 99 [(11, 4, 0, 0, 1)] := And.intro ⟨_, dX6_countParts_99, by decide⟩ trivial
set_option maxHeartbeats 4000000 in
set_option maxRecDepth 100000 in
theorem k_X6_countParts (l : Launch) (D : va_G) (ads : AD) (I A : HI) (a1 : Int32) (po : Option AV → HI → HI → Prop) (Iv17 : Int32 → HI → HI → Prop) (mu17 : Int32 → HI → HI → Nat) (Iv32 : Int32 → HI → HI → HI → HI → Int32 → HI → HI → Prop) (mu32 : Int32 → HI → HI → HI → HI → Int32 → HI → HI → Nat) (Iv49 : Int32 → HI → HI → HI → HI → Int32 → HI → HI → Int32 → HI → HI → Prop) (mu49 : Int32 → HI → HI → HI → HI → Int32 → HI → HI → Int32 → HI → HI → Nat)
    (hv : (Iv17 0 (up2 (up2 (up2 I 29 11 0) 29 12 0) 29 13 0) A ∧ ∀ (x2_17 : Int32) (I_17 : HI) (A_17 : HI), Iv17 x2_17 I_17 A_17 → ((a1 ≤ x2_17 → po none I_17 A_17) ∧ (¬ a1 ≤ x2_17 → ((gLi0 A_17 x2_17) ∧ (∀ (I2 A2 : HI), I2 = I_17 ∧ gLi A_17 x2_17 A2 → (Iv32 x2_17 I_17 A_17 I2 A2 0 I2 A2 ∧ ∀ (x3_32 : Int32) (I_32 : HI) (A_32 : HI), Iv32 x2_17 I_17 A_17 I2 A2 x3_32 I_32 A_32 → ((vp_in x2_17 11) ∧ (((A_32 25 x2_17.toNatClampNeg) ≤ x3_32 → (Iv17 (x2_17 + 1) I_32 A_32 ∧ mu17 (x2_17 + 1) I_32 A_32 < mu17 x2_17 I_17 A_17)) ∧ (¬ (A_32 25 x2_17.toNatClampNeg) ≤ x3_32 → (Iv49 x2_17 I_17 A_17 I2 A2 x3_32 I_32 A_32 (x3_32 + 1) I_32 A_32 ∧ ∀ (x4_49 : Int32) (I_49 : HI) (A_49 : HI), Iv49 x2_17 I_17 A_17 I2 A2 x3_32 I_32 A_32 x4_49 I_49 A_49 → ((vp_in x2_17 11) ∧ (((A_49 25 x2_17.toNatClampNeg) ≤ x4_49 → (Iv32 x2_17 I_17 A_17 I2 A2 (x3_32 + 1) I_49 A_49 ∧ mu32 x2_17 I_17 A_17 I2 A2 (x3_32 + 1) I_49 A_49 < mu32 x2_17 I_17 A_17 I2 A2 x3_32 I_32 A_32)) ∧ (¬ (A_49 25 x2_17.toNatClampNeg) ≤ x4_49 → ((shO0 I_49 A_49 x2_17 x3_32) ∧ ((shO0 I_49 A_49 x2_17 x4_49) ∧ ((cCr0 (up2 I_49 29 13 ((I_49 29 13) + (mvI (A_49 27) (A_49 28) (shO I_49 A_49 x2_17 x3_32) (shO I_49 A_49 x2_17 x4_49)))) A_49 x2_17 x3_32 x4_49) ∧ (∀ (I9 A9 : HI), A9 = A_49 ∧ cCr (up2 I_49 29 13 ((I_49 29 13) + (mvI (A_49 27) (A_49 28) (shO I_49 A_49 x2_17 x3_32) (shO I_49 A_49 x2_17 x4_49)))) A_49 x2_17 x3_32 x4_49 I9 → (Iv49 x2_17 I_17 A_17 I2 A2 x3_32 I_32 A_32 (x4_49 + 1) I9 A9 ∧ mu49 x2_17 I_17 A_17 I2 A2 x3_32 I_32 A_32 (x4_49 + 1) I9 A9 < mu49 x2_17 I_17 A_17 I2 A2 x3_32 I_32 A_32 x4_49 I_49 A_49))))))))))))))))))) : Ct l yX6_countParts cX6_countParts 5 none 3 76 D ads shp [.inr (some 29), .inl a1] I A po := by
  refine Ct_of (by decide) (Nat.le_of_ble_eq_true rfl) ?_
  intro p e s m args below meth c hC hr
  replace hC : CX p s m args meth c cX6_countParts 5 RX6 (AdS ads s.heap.size) := hC
  show Gm p l e s m args below meth c D ads 3 76 5 po I A 0 [some (.inr (some 29)), some (.inl a1), none, none, none] []
  refine g_blk hC _ bX6_countParts_0_17 (pc' := 17) (ls' := [some (.inr (some 29)), some (.inl a1), some (.inl 0), none, none]) (st' := []) (I' := up2 (up2 (up2 I 29 11 0) 29 12 0) 29 13 0) rfl rfl ?_
  obtain ⟨hi17, hb17⟩ := hv
  have L17 : ∀ (n : Nat) (x2_17 : Int32) (I_17 : HI) (A_17 : HI), Iv17 x2_17 I_17 A_17 → mu17 x2_17 I_17 A_17 < n → Gm p l e s m args below meth c D ads 3 76 5 po I_17 A_17 17 [some (.inr (some 29)), some (.inl a1), some (.inl x2_17), none, none] [] := by
    intro n
    induction n with
    | zero => intro x2_17 I_17 A_17 _ hn; exact absurd hn (Nat.not_lt_zero _)
    | succ n ih17 =>
      intro x2_17 I_17 A_17 hv hn17
      replace hv := hb17 x2_17 I_17 A_17 hv
      skip
      refine g_blk hC _ bX6_countParts_17_19 (pc' := 19) (ls' := [some (.inr (some 29)), some (.inl a1), some (.inl x2_17), none, none]) (st' := [.inl a1, .inl x2_17]) (I' := I_17) rfl rfl ?_
      obtain ⟨hv1, hv2⟩ := hv
      refine g_cge hC dX6_countParts_19 (tgt := 117) (by decide) (fun hc => ?_) (fun hc => ?_)
      · have hv := hv1 hc
        clear hv1 hv2 hc
        exact g_retv hC hr dX6_countParts_117 hv
      · have hv := hv2 hc
        clear hv1 hv2 hc
        refine g_blk hC _ bX6_countParts_22_27 (pc' := 27) (ls' := [some (.inr (some 29)), some (.inl a1), some (.inl x2_17), none, none]) (st' := [.inl x2_17, .inr (some 68)]) (I' := I_17) rfl rfl ?_
        obtain ⟨hp1, hv⟩ := hv
        refine g_callV hC (c_X3_gatherLinks l D ads I_17 A_17 x2_17 hp1) dX6_countParts_27 nm_X3_gatherLinks rfl rfl wl_X6_115 wi_X3_gatherLinks ws_X3_gatherLinks wn_X3 wc_X3_gatherLinks ⟨by decide, by decide⟩ (as := [.inl x2_17]) (rest := []) rfl (Nat.le_of_ble_eq_true rfl) ⟨Nat.le_refl _, Nat.le_refl _⟩ (k_qV ?_)
        intro I2 A2 hq2
        replace hv := hv I2 A2 hq2
        refine g_blk hC _ bX6_countParts_30_32 (pc' := 32) (ls' := [some (.inr (some 29)), some (.inl a1), some (.inl x2_17), some (.inl 0), none]) (st' := []) (I' := I2) rfl rfl ?_
        obtain ⟨hi32, hb32⟩ := hv
        have L32 : ∀ (n : Nat) (x3_32 : Int32) (I_32 : HI) (A_32 : HI), Iv32 x2_17 I_17 A_17 I2 A2 x3_32 I_32 A_32 → mu32 x2_17 I_17 A_17 I2 A2 x3_32 I_32 A_32 < n → Gm p l e s m args below meth c D ads 3 76 5 po I_32 A_32 32 [some (.inr (some 29)), some (.inl a1), some (.inl x2_17), some (.inl x3_32), none] [] := by
          intro n
          induction n with
          | zero => intro x3_32 I_32 A_32 _ hn; exact absurd hn (Nat.not_lt_zero _)
          | succ n ih32 =>
            intro x3_32 I_32 A_32 hv hn32
            replace hv := hb32 x3_32 I_32 A_32 hv
            skip
            refine g_blk hC _ bX6_countParts_32_38 (pc' := 38) (ls' := [some (.inr (some 29)), some (.inl a1), some (.inl x2_17), some (.inl x3_32), none]) (st' := [.inl x2_17, .inr (some 13), .inl x3_32]) (I' := I_32) rfl rfl ?_
            obtain ⟨hp3, hv⟩ := hv
            refine g_callV hC (c_X7_countIn l D ads I_32 A_32 x2_17 hp3) dX6_countParts_38 nm_X7_countIn rfl rfl wl_X6_90 wi_X7_countIn ws_X7_countIn wn_X7 wc_X7_countIn ⟨by decide, by decide⟩ (as := [.inl x2_17]) (rest := [.inl x3_32]) rfl (Nat.le_of_ble_eq_true rfl) ⟨Nat.le_refl _, Nat.le_refl _⟩ (k_qI ?_)
            obtain ⟨hv1, hv2⟩ := hv
            refine g_cge hC dX6_countParts_41 (tgt := 111) (by decide) (fun hc => ?_) (fun hc => ?_)
            · have hv := hv1 hc
              clear hv1 hv2 hc
              refine g_blk hC _ bX6_countParts_111_114 (pc' := 114) (ls' := [some (.inr (some 29)), some (.inl a1), some (.inl (x2_17 + 1)), some (.inl x3_32), none]) (st' := []) (I' := I_32) rfl rfl ?_
              refine g_goto hC dX6_countParts_114 (tgt := 17) (by decide) ?_
              exact g_weak (ls1 := [some (.inr (some 29)), some (.inl a1), some (.inl (x2_17 + 1)), none, none]) rfl (And.intro rfl (And.intro rfl (And.intro rfl trivial))) (ih17 (x2_17 + 1) I_32 A_32 hv.1 (Nat.lt_of_lt_of_le hv.2 (Nat.le_of_lt_succ hn17)))
            · have hv := hv2 hc
              clear hv1 hv2 hc
              refine g_blk hC _ bX6_countParts_44_49 (pc' := 49) (ls' := [some (.inr (some 29)), some (.inl a1), some (.inl x2_17), some (.inl x3_32), some (.inl (x3_32 + 1))]) (st' := []) (I' := I_32) rfl rfl ?_
              obtain ⟨hi49, hb49⟩ := hv
              have L49 : ∀ (n : Nat) (x4_49 : Int32) (I_49 : HI) (A_49 : HI), Iv49 x2_17 I_17 A_17 I2 A2 x3_32 I_32 A_32 x4_49 I_49 A_49 → mu49 x2_17 I_17 A_17 I2 A2 x3_32 I_32 A_32 x4_49 I_49 A_49 < n → Gm p l e s m args below meth c D ads 3 76 5 po I_49 A_49 49 [some (.inr (some 29)), some (.inl a1), some (.inl x2_17), some (.inl x3_32), some (.inl x4_49)] [] := by
                intro n
                induction n with
                | zero => intro x4_49 I_49 A_49 _ hn; exact absurd hn (Nat.not_lt_zero _)
                | succ n ih49 =>
                  intro x4_49 I_49 A_49 hv hn49
                  replace hv := hb49 x4_49 I_49 A_49 hv
                  skip
                  refine g_blk hC _ bX6_countParts_49_56 (pc' := 56) (ls' := [some (.inr (some 29)), some (.inl a1), some (.inl x2_17), some (.inl x3_32), some (.inl x4_49)]) (st' := [.inl x2_17, .inr (some 13), .inl x4_49]) (I' := I_49) rfl rfl ?_
                  obtain ⟨hp4, hv⟩ := hv
                  refine g_callV hC (c_X7_countIn l D ads I_49 A_49 x2_17 hp4) dX6_countParts_56 nm_X7_countIn rfl rfl wl_X6_90 wi_X7_countIn ws_X7_countIn wn_X7 wc_X7_countIn ⟨by decide, by decide⟩ (as := [.inl x2_17]) (rest := [.inl x4_49]) rfl (Nat.le_of_ble_eq_true rfl) ⟨Nat.le_refl _, Nat.le_refl _⟩ (k_qI ?_)
                  obtain ⟨hv1, hv2⟩ := hv
                  refine g_cge hC dX6_countParts_59 (tgt := 105) (by decide) (fun hc => ?_) (fun hc => ?_)
                  · have hv := hv1 hc
                    clear hv1 hv2 hc
                    refine g_blk hC _ bX6_countParts_105_108 (pc' := 108) (ls' := [some (.inr (some 29)), some (.inl a1), some (.inl x2_17), some (.inl (x3_32 + 1)), some (.inl x4_49)]) (st' := []) (I' := I_49) rfl rfl ?_
                    refine g_goto hC dX6_countParts_108 (tgt := 32) (by decide) ?_
                    exact g_weak (ls1 := [some (.inr (some 29)), some (.inl a1), some (.inl x2_17), some (.inl (x3_32 + 1)), none]) rfl (And.intro rfl (And.intro rfl (And.intro rfl (And.intro rfl trivial)))) (ih32 (x3_32 + 1) I_49 A_49 hv.1 (Nat.lt_of_lt_of_le hv.2 (Nat.le_of_lt_succ hn32)))
                  · have hv := hv2 hc
                    clear hv1 hv2 hc
                    refine g_blk hC _ bX6_countParts_62_74 (pc' := 74) (ls' := [some (.inr (some 29)), some (.inl a1), some (.inl x2_17), some (.inl x3_32), some (.inl x4_49)]) (st' := [.inl x3_32, .inl x2_17, .inr (some 29), .inr (some 26), .inl (I_49 29 13), .inr (some 29)]) (I' := I_49) rfl rfl ?_
                    obtain ⟨hp5, hv⟩ := hv
                    refine g_callV hC (c_X6_shownAt l D ads I_49 A_49 x2_17 x3_32 hp5) dX6_countParts_74 nm_X6_shownAt rfl rfl wl_X6_107 wi_X6_shownAt ws_X6_shownAt wn_X6 wc_X6_shownAt ⟨by decide, by decide⟩ (as := [.inl x2_17, .inl x3_32]) (rest := [.inr (some 26), .inl (I_49 29 13), .inr (some 29)]) rfl (Nat.le_of_ble_eq_true rfl) ⟨Nat.le_refl _, Nat.le_refl _⟩ (k_qI ?_)
                    refine g_blk hC _ bX6_countParts_77_81 (pc' := 81) (ls' := [some (.inr (some 29)), some (.inl a1), some (.inl x2_17), some (.inl x3_32), some (.inl x4_49)]) (st' := [.inl x4_49, .inl x2_17, .inr (some 29), .inl (shO I_49 A_49 x2_17 x3_32), .inr (some 26), .inl (I_49 29 13), .inr (some 29)]) (I' := I_49) rfl rfl ?_
                    obtain ⟨hp6, hv⟩ := hv
                    refine g_callV hC (c_X6_shownAt l D ads I_49 A_49 x2_17 x4_49 hp6) dX6_countParts_81 nm_X6_shownAt rfl rfl wl_X6_107 wi_X6_shownAt ws_X6_shownAt wn_X6 wc_X6_shownAt ⟨by decide, by decide⟩ (as := [.inl x2_17, .inl x4_49]) (rest := [.inl (shO I_49 A_49 x2_17 x3_32), .inr (some 26), .inl (I_49 29 13), .inr (some 29)]) rfl (Nat.le_of_ble_eq_true rfl) ⟨Nat.le_refl _, Nat.le_refl _⟩ (k_qI ?_)
                    refine g_callV hC (c_X4_moves l D ads I_49 A_49 (shO I_49 A_49 x2_17 x3_32) (shO I_49 A_49 x2_17 x4_49)) dX6_countParts_84 nm_X4_moves rfl rfl wl_X6_153 wi_X4_moves ws_X4_moves wn_X4 wc_X4_moves ⟨by decide, by decide⟩ (as := [.inl (shO I_49 A_49 x2_17 x3_32), .inl (shO I_49 A_49 x2_17 x4_49)]) (rest := [.inl (I_49 29 13), .inr (some 29)]) rfl (Nat.le_of_ble_eq_true rfl) ⟨Nat.le_refl _, Nat.le_refl _⟩ (k_qI ?_)
                    refine g_blk hC _ bX6_countParts_87_96 (pc' := 96) (ls' := [some (.inr (some 29)), some (.inl a1), some (.inl x2_17), some (.inl x3_32), some (.inl x4_49)]) (st' := [.inl x4_49, .inl x3_32, .inl x2_17, .inr (some 29)]) (I' := up2 I_49 29 13 ((I_49 29 13) + (mvI (A_49 27) (A_49 28) (shO I_49 A_49 x2_17 x3_32) (shO I_49 A_49 x2_17 x4_49)))) rfl rfl ?_
                    obtain ⟨hp8, hv⟩ := hv
                    refine g_callV hC (c_X6_countCrosses l D ads (up2 I_49 29 13 ((I_49 29 13) + (mvI (A_49 27) (A_49 28) (shO I_49 A_49 x2_17 x3_32) (shO I_49 A_49 x2_17 x4_49)))) A_49 x2_17 x3_32 x4_49 hp8) dX6_countParts_96 nm_X6_countCrosses rfl rfl wl_X6_158 wi_X6_countCrosses ws_X6_countCrosses wn_X6 wc_X6_countCrosses ⟨by decide, by decide⟩ (as := [.inl x2_17, .inl x3_32, .inl x4_49]) (rest := []) rfl (Nat.le_of_ble_eq_true rfl) ⟨Nat.le_refl _, Nat.le_refl _⟩ (k_qV ?_)
                    intro I9 A9 hq9
                    replace hv := hv I9 A9 hq9
                    refine g_blk hC _ bX6_countParts_99_102 (pc' := 102) (ls' := [some (.inr (some 29)), some (.inl a1), some (.inl x2_17), some (.inl x3_32), some (.inl (x4_49 + 1))]) (st' := []) (I' := I9) rfl rfl ?_
                    refine g_goto hC dX6_countParts_102 (tgt := 49) (by decide) ?_
                    exact g_weak (ls1 := [some (.inr (some 29)), some (.inl a1), some (.inl x2_17), some (.inl x3_32), some (.inl (x4_49 + 1))]) rfl (And.intro rfl (And.intro rfl (And.intro rfl (And.intro rfl (And.intro rfl trivial))))) (ih49 (x4_49 + 1) I9 A9 hv.1 (Nat.lt_of_lt_of_le hv.2 (Nat.le_of_lt_succ hn49)))
              exact g_weak (ls1 := [some (.inr (some 29)), some (.inl a1), some (.inl x2_17), some (.inl x3_32), some (.inl (x3_32 + 1))]) rfl (And.intro rfl (And.intro rfl (And.intro rfl (And.intro rfl (And.intro rfl trivial))))) (L49 _ (x3_32 + 1) I_32 A_32 hi49 (Nat.lt_succ_self _))
        exact g_weak (ls1 := [some (.inr (some 29)), some (.inl a1), some (.inl x2_17), some (.inl 0), none]) rfl (And.intro rfl (And.intro rfl (And.intro rfl (And.intro rfl trivial)))) (L32 _ 0 I2 A2 hi32 (Nat.lt_succ_self _))
  exact g_weak (ls1 := [some (.inr (some 29)), some (.inl a1), some (.inl 0), none, none]) rfl (And.intro rfl (And.intro rfl (And.intro rfl trivial))) (L17 _ 0 (up2 (up2 (up2 I 29 11 0) 29 12 0) 29 13 0) A hi17 (Nat.lt_succ_self _))
set_option maxHeartbeats 4000000 in
set_option maxRecDepth 100000 in
theorem c_X6_countParts (l : Launch) (D : va_G) (ads : AD) (I A : HI) (a1 : Int32) (hp : cPa0 I A a1) : Ct l yX6_countParts cX6_countParts 5 none 3 76 D ads shp [.inr (some 29), .inl a1] I A (qV (fun I' A' => cPa I A a1 I' A')) := by
  sorry
theorem bX6_solve_0_4 : okB cX6_solve RX6 0 [(5, 0, 0, 0, 0), (23, 48, 6, 0, 0)] := And.intro ⟨_, dX6_solve_0, rfl⟩ (And.intro ⟨dX6_solve_1, fl_X6_48⟩ trivial)
theorem bX6_solve_7_13 : okB cX6_solve RX6 7 [(7, 2, 0, 0, 0), (5, 0, 0, 0, 0), (23, 19, 6, 5, 0), (3, 2, 0, 0, 0)] := And.intro ⟨_, dX6_solve_7, rfl⟩ (And.intro ⟨_, dX6_solve_8, rfl⟩ (And.intro ⟨dX6_solve_9, fl_X6_19⟩ (And.intro ⟨_, dX6_solve_12, rfl⟩ trivial)))
theorem bX6_solve_14_16 : okB cX6_solve RX6 14 [(0, 0, 0, 0, 0), (0, 0, 0, 0, 0)] := And.intro ⟨_, dX6_solve_14, by decide⟩ (And.intro ⟨_, dX6_solve_15, by decide⟩ trivial)
theorem bX6_solve_17_22 : okB cX6_solve RX6 17 [(5, 0, 0, 0, 0), (23, 22, 6, 6, 0), (3, 2, 0, 0, 0)] := And.intro ⟨_, dX6_solve_17, rfl⟩ (And.intro ⟨dX6_solve_18, fl_X6_22⟩ (And.intro ⟨_, dX6_solve_21, rfl⟩ trivial))
theorem bX6_solve_23_25 : okB cX6_solve RX6 23 [(0, 0, 0, 0, 0), (0, 0, 0, 0, 1)] := And.intro ⟨_, dX6_solve_23, by decide⟩ (And.intro ⟨_, dX6_solve_24, by decide⟩ trivial)
theorem bX6_solve_26_30 : okB cX6_solve RX6 26 [(3, 2, 0, 0, 0), (0, 0, 0, 0, 1), (13, 0, 0, 0, 0), (7, 3, 0, 0, 0)] := And.intro ⟨_, dX6_solve_26, rfl⟩ (And.intro ⟨_, dX6_solve_27, by decide⟩ (And.intro dX6_solve_28 (And.intro ⟨_, dX6_solve_29, rfl⟩ trivial)))
theorem bX6_solve_30_31 : okB cX6_solve RX6 30 [(3, 3, 0, 0, 0)] := And.intro ⟨_, dX6_solve_30, rfl⟩ trivial
theorem bX6_solve_46_47 : okB cX6_solve RX6 46 [(5, 0, 0, 0, 0)] := And.intro ⟨_, dX6_solve_46, rfl⟩ trivial
theorem bX6_solve_50_52 : okB cX6_solve RX6 50 [(0, 0, 0, 0, 0), (7, 3, 0, 0, 0)] := And.intro ⟨_, dX6_solve_50, by decide⟩ (And.intro ⟨_, dX6_solve_51, rfl⟩ trivial)
theorem bX6_solve_52_54 : okB cX6_solve RX6 52 [(3, 3, 0, 0, 0), (3, 2, 0, 0, 0)] := And.intro ⟨_, dX6_solve_52, rfl⟩ (And.intro ⟨_, dX6_solve_53, rfl⟩ trivial)
theorem bX6_solve_84_86 : okB cX6_solve RX6 84 [(5, 0, 0, 0, 0), (3, 2, 0, 0, 0)] := And.intro ⟨_, dX6_solve_84, rfl⟩ (And.intro ⟨_, dX6_solve_85, rfl⟩ trivial)
theorem bX6_solve_57_69 : okB cX6_solve RX6 57 [(5, 0, 0, 0, 0), (23, 28, 6, 8, 0), (3, 3, 0, 0, 0), (0, 0, 0, 0, 1), (12, 0, 0, 0, 0), (5, 0, 0, 0, 0), (23, 25, 6, 7, 0), (3, 3, 0, 0, 0)] := And.intro ⟨_, dX6_solve_57, rfl⟩ (And.intro ⟨dX6_solve_58, fl_X6_28⟩ (And.intro ⟨_, dX6_solve_61, rfl⟩ (And.intro ⟨_, dX6_solve_62, by decide⟩ (And.intro dX6_solve_63 (And.intro ⟨_, dX6_solve_64, rfl⟩ (And.intro ⟨dX6_solve_65, fl_X6_25⟩ (And.intro ⟨_, dX6_solve_68, rfl⟩ trivial)))))))
theorem bX6_solve_70_75 : okB cX6_solve RX6 70 [(5, 0, 0, 0, 0), (23, 28, 6, 8, 0), (3, 3, 0, 0, 0)] := And.intro ⟨_, dX6_solve_70, rfl⟩ (And.intro ⟨dX6_solve_71, fl_X6_28⟩ (And.intro ⟨_, dX6_solve_74, rfl⟩ trivial))
theorem bX6_solve_78_81 : okB cX6_solve RX6 78 [(11, 3, 0, 0, 1)] := And.intro ⟨_, dX6_solve_78, by decide⟩ trivial
theorem bX6_solve_34_37 : okB cX6_solve RX6 34 [(5, 0, 0, 0, 0), (3, 3, 0, 0, 0), (3, 1, 0, 0, 0)] := And.intro ⟨_, dX6_solve_34, rfl⟩ (And.intro ⟨_, dX6_solve_35, rfl⟩ (And.intro ⟨_, dX6_solve_36, rfl⟩ trivial))
theorem bX6_solve_40_43 : okB cX6_solve RX6 40 [(11, 3, 0, 0, (-1))] := And.intro ⟨_, dX6_solve_40, by decide⟩ trivial
set_option maxHeartbeats 4000000 in
set_option maxRecDepth 100000 in
theorem k_X6_solve (l : Launch) (D : va_G) (ads : AD) (I A : HI) (a1 : Int32) (po : Option AV → HI → HI → Prop) (Iv30 : Int32 → HI → HI → Prop) (mu30 : Int32 → HI → HI → Nat) (Iv52 : Int32 → HI → HI → HI → HI → Int32 → HI → Prop) (mu52 : Int32 → HI → HI → HI → HI → Int32 → HI → Nat)
    (hv : (vp_in (I 3 11) 11 ∧ (vp_in (0 : Int32) 120 ∧ (vp_in (I 3 11) 11 ∧ (vp_in (0 : Int32) 120 ∧ (Iv30 ((I 3 11) - 1) I (up2 (up2 A (32 + (I 3 11).toNatClampNeg) (0 : Int32).toNatClampNeg 0) (44 + (I 3 11).toNatClampNeg) (0 : Int32).toNatClampNeg 1) ∧ ∀ (x3_30 : Int32) (I_30 : HI) (A_30 : HI), Iv30 x3_30 I_30 A_30 → ((x3_30 < 0 → ((chF0 I_30 A_30) ∧ (∀ (I5 A5 : HI), chF I_30 A_30 I5 A5 → (Iv52 x3_30 I_30 A_30 I5 A5 0 A5 ∧ ∀ (x3_52 : Int32) (A_52 : HI), Iv52 x3_30 I_30 A_30 I5 A5 x3_52 A_52 → (((I 3 11) ≤ x3_52 → ((cPa0 I5 A_52 (I 3 11)) ∧ (∀ (I7 A7 : HI), cPa I5 A_52 (I 3 11) I7 A7 → po none I7 A7))) ∧ (¬ (I 3 11) ≤ x3_52 → (vp_in x3_52 11 ∧ (vp_in x3_52 11 ∧ (vp_in (A_52 67 x3_52.toNatClampNeg) 120 ∧ (vp_in (x3_52 + 1) 11 ∧ (Iv52 x3_30 I_30 A_30 I5 A5 (x3_52 + 1) (up2 A_52 67 (x3_52 + 1).toNatClampNeg (A_52 (56 + x3_52.toNatClampNeg) (A_52 67 x3_52.toNatClampNeg).toNatClampNeg)) ∧ mu52 x3_30 I_30 A_30 I5 A5 (x3_52 + 1) (up2 A_52 67 (x3_52 + 1).toNatClampNeg (A_52 (56 + x3_52.toNatClampNeg) (A_52 67 x3_52.toNatClampNeg).toNatClampNeg)) < mu52 x3_30 I_30 A_30 I5 A5 x3_52 A_52))))))))))) ∧ (¬ x3_30 < 0 → ((sLa0 I_30 A_30 x3_30) ∧ (∀ (I10 A10 : HI), sLa I_30 A_30 x3_30 a1 I10 A10 → (Iv30 (x3_30 + (-1)) I10 A10 ∧ mu30 (x3_30 + (-1)) I10 A10 < mu30 x3_30 I_30 A_30))))))))))) : Ct l yX6_solve cX6_solve 4 none 4 101 D ads shp [.inr (some 29), .inl a1] I A po := by
  refine Ct_of (by decide) (Nat.le_of_ble_eq_true rfl) ?_
  intro p e s m args below meth c hC hr
  replace hC : CX p s m args meth c cX6_solve 4 RX6 (AdS ads s.heap.size) := hC
  show Gm p l e s m args below meth c D ads 4 101 4 po I A 0 [some (.inr (some 29)), some (.inl a1), none, none] []
  refine g_blk hC _ bX6_solve_0_4 (pc' := 4) (ls' := [some (.inr (some 29)), some (.inl a1), none, none]) (st' := [.inr (some 3)]) (I' := I) rfl rfl ?_
  refine g_callV hC (c_X5_layers l D ads I A ) dX6_solve_4 nm_X5_layers rfl rfl wl_X6_73 wi_X5_layers ws_X5_layers wn_X5 wc_X5_layers ⟨by decide, by decide⟩ (as := []) (rest := []) rfl (Nat.le_of_ble_eq_true rfl) ⟨Nat.le_refl _, Nat.le_refl _⟩ (k_qI ?_)
  refine g_blk hC _ bX6_solve_7_13 (pc' := 13) (ls' := [some (.inr (some 29)), some (.inl a1), some (.inl (I 3 11)), none]) (st' := [.inl (I 3 11), .inr (some 31)]) (I' := I) rfl rfl ?_
  obtain ⟨hr2, hv⟩ := hv
  refine g_aald hC dX6_solve_13 (f := _) rfl hr2 (ra_31 (vin_lt hr2)) ?_
  refine g_blk hC _ bX6_solve_14_16 (pc' := 16) (ls' := [some (.inr (some 29)), some (.inl a1), some (.inl (I 3 11)), none]) (st' := [.inl 0, .inl 0, .inr (some (32 + (I 3 11).toNatClampNeg))]) (I' := I) rfl rfl ?_
  obtain ⟨hi, hv⟩ := hv
  refine g_iast hC dX6_solve_16 (rw_31 (vin_lt hr2)) hi ?_
  clear hi
  refine g_blk hC _ bX6_solve_17_22 (pc' := 22) (ls' := [some (.inr (some 29)), some (.inl a1), some (.inl (I 3 11)), none]) (st' := [.inl (I 3 11), .inr (some 43)]) (I' := I) rfl rfl ?_
  obtain ⟨hr3, hv⟩ := hv
  refine g_aald hC dX6_solve_22 (f := _) rfl hr3 (ra_43 (vin_lt hr3)) ?_
  refine g_blk hC _ bX6_solve_23_25 (pc' := 25) (ls' := [some (.inr (some 29)), some (.inl a1), some (.inl (I 3 11)), none]) (st' := [.inl 1, .inl 0, .inr (some (44 + (I 3 11).toNatClampNeg))]) (I' := I) rfl rfl ?_
  obtain ⟨hi, hv⟩ := hv
  refine g_iast hC dX6_solve_25 (rw_43 (vin_lt hr3)) hi ?_
  clear hi
  refine g_blk hC _ bX6_solve_26_30 (pc' := 30) (ls' := [some (.inr (some 29)), some (.inl a1), some (.inl (I 3 11)), some (.inl ((I 3 11) - 1))]) (st' := []) (I' := I) rfl rfl ?_
  obtain ⟨hi30, hb30⟩ := hv
  have L30 : ∀ (n : Nat) (x3_30 : Int32) (I_30 : HI) (A_30 : HI), Iv30 x3_30 I_30 A_30 → mu30 x3_30 I_30 A_30 < n → Gm p l e s m args below meth c D ads 4 101 4 po I_30 A_30 30 [some (.inr (some 29)), some (.inl a1), some (.inl (I 3 11)), some (.inl x3_30)] [] := by
    intro n
    induction n with
    | zero => intro x3_30 I_30 A_30 _ hn; exact absurd hn (Nat.not_lt_zero _)
    | succ n ih30 =>
      intro x3_30 I_30 A_30 hv hn30
      replace hv := hb30 x3_30 I_30 A_30 hv
      skip
      refine g_blk hC _ bX6_solve_30_31 (pc' := 31) (ls' := [some (.inr (some 29)), some (.inl a1), some (.inl (I 3 11)), some (.inl x3_30)]) (st' := [.inl x3_30]) (I' := I_30) rfl rfl ?_
      obtain ⟨hv1, hv2⟩ := hv
      refine g_iflt hC dX6_solve_31 (tgt := 46) (by decide) (fun hc => ?_) (fun hc => ?_)
      · have hv := hv1 hc
        clear hv1 hv2 hc
        refine g_blk hC _ bX6_solve_46_47 (pc' := 47) (ls' := [some (.inr (some 29)), some (.inl a1), some (.inl (I 3 11)), some (.inl x3_30)]) (st' := [.inr (some 29)]) (I' := I_30) rfl rfl ?_
        obtain ⟨hp4, hv⟩ := hv
        refine g_callV hC (c_X6_chooseFirst l D ads I_30 A_30  hp4) dX6_solve_47 nm_X6_chooseFirst rfl rfl wl_X6_83 wi_X6_chooseFirst ws_X6_chooseFirst wn_X6 wc_X6_chooseFirst ⟨by decide, by decide⟩ (as := []) (rest := []) rfl (Nat.le_of_ble_eq_true rfl) ⟨Nat.le_refl _, Nat.le_refl _⟩ (k_qV ?_)
        intro I5 A5 hq5
        replace hv := hv I5 A5 hq5
        refine g_blk hC _ bX6_solve_50_52 (pc' := 52) (ls' := [some (.inr (some 29)), some (.inl a1), some (.inl (I 3 11)), some (.inl 0)]) (st' := []) (I' := I5) rfl rfl ?_
        obtain ⟨hi52, hb52⟩ := hv
        have L52 : ∀ (n : Nat) (x3_52 : Int32) (A_52 : HI), Iv52 x3_30 I_30 A_30 I5 A5 x3_52 A_52 → mu52 x3_30 I_30 A_30 I5 A5 x3_52 A_52 < n → Gm p l e s m args below meth c D ads 4 101 4 po I5 A_52 52 [some (.inr (some 29)), none, some (.inl (I 3 11)), some (.inl x3_52)] [] := by
          intro n
          induction n with
          | zero => intro x3_52 A_52 _ hn; exact absurd hn (Nat.not_lt_zero _)
          | succ n ih52 =>
            intro x3_52 A_52 hv hn52
            replace hv := hb52 x3_52 A_52 hv
            skip
            refine g_blk hC _ bX6_solve_52_54 (pc' := 54) (ls' := [some (.inr (some 29)), none, some (.inl (I 3 11)), some (.inl x3_52)]) (st' := [.inl (I 3 11), .inl x3_52]) (I' := I5) rfl rfl ?_
            obtain ⟨hv1, hv2⟩ := hv
            refine g_cge hC dX6_solve_54 (tgt := 84) (by decide) (fun hc => ?_) (fun hc => ?_)
            · have hv := hv1 hc
              clear hv1 hv2 hc
              refine g_blk hC _ bX6_solve_84_86 (pc' := 86) (ls' := [some (.inr (some 29)), none, some (.inl (I 3 11)), some (.inl x3_52)]) (st' := [.inl (I 3 11), .inr (some 29)]) (I' := I5) rfl rfl ?_
              obtain ⟨hp6, hv⟩ := hv
              refine g_callV hC (c_X6_countParts l D ads I5 A_52 (I 3 11) hp6) dX6_solve_86 nm_X6_countParts rfl rfl wl_X6_86 wi_X6_countParts ws_X6_countParts wn_X6 wc_X6_countParts ⟨by decide, by decide⟩ (as := [.inl (I 3 11)]) (rest := []) rfl (Nat.le_of_ble_eq_true rfl) ⟨Nat.le_refl _, Nat.le_refl _⟩ (k_qV ?_)
              intro I7 A7 hq7
              replace hv := hv I7 A7 hq7
              exact g_retv hC hr dX6_solve_89 hv
            · have hv := hv2 hc
              clear hv1 hv2 hc
              refine g_blk hC _ bX6_solve_57_69 (pc' := 69) (ls' := [some (.inr (some 29)), none, some (.inl (I 3 11)), some (.inl x3_52)]) (st' := [.inl x3_52, .inr (some 55), .inl (x3_52 + 1), .inr (some 67)]) (I' := I5) rfl rfl ?_
              obtain ⟨hr8, hv⟩ := hv
              refine g_aald hC dX6_solve_69 (f := _) rfl hr8 (ra_55 (vin_lt hr8)) ?_
              refine g_blk hC _ bX6_solve_70_75 (pc' := 75) (ls' := [some (.inr (some 29)), none, some (.inl (I 3 11)), some (.inl x3_52)]) (st' := [.inl x3_52, .inr (some 67), .inr (some (56 + x3_52.toNatClampNeg)), .inl (x3_52 + 1), .inr (some 67)]) (I' := I5) rfl rfl ?_
              obtain ⟨hi, hv⟩ := hv
              refine g_iald hC dX6_solve_75 (rfl) hi ?_
              clear hi
              obtain ⟨hi, hv⟩ := hv
              refine g_iald hC dX6_solve_76 (rw_55 (vin_lt hr8)) hi ?_
              clear hi
              obtain ⟨hi, hv⟩ := hv
              refine g_iast hC dX6_solve_77 (rfl) hi ?_
              clear hi
              refine g_blk hC _ bX6_solve_78_81 (pc' := 81) (ls' := [some (.inr (some 29)), none, some (.inl (I 3 11)), some (.inl (x3_52 + 1))]) (st' := []) (I' := I5) rfl rfl ?_
              refine g_goto hC dX6_solve_81 (tgt := 52) (by decide) ?_
              exact g_weak (ls1 := [some (.inr (some 29)), none, some (.inl (I 3 11)), some (.inl (x3_52 + 1))]) rfl (And.intro rfl (And.intro rfl (And.intro rfl trivial))) (ih52 (x3_52 + 1) (up2 A_52 67 (x3_52 + 1).toNatClampNeg (A_52 (56 + x3_52.toNatClampNeg) (A_52 67 x3_52.toNatClampNeg).toNatClampNeg)) hv.1 (Nat.lt_of_lt_of_le hv.2 (Nat.le_of_lt_succ hn52)))
        exact g_weak (ls1 := [some (.inr (some 29)), none, some (.inl (I 3 11)), some (.inl 0)]) rfl (And.intro rfl (And.intro rfl (And.intro rfl trivial))) (L52 _ 0 A5 hi52 (Nat.lt_succ_self _))
      · have hv := hv2 hc
        clear hv1 hv2 hc
        refine g_blk hC _ bX6_solve_34_37 (pc' := 37) (ls' := [some (.inr (some 29)), some (.inl a1), some (.inl (I 3 11)), some (.inl x3_30)]) (st' := [.inl a1, .inl x3_30, .inr (some 29)]) (I' := I_30) rfl rfl ?_
        obtain ⟨hp9, hv⟩ := hv
        refine g_callV hC (c_X6_searchLayer l D ads I_30 A_30 x3_30 a1 hp9) dX6_solve_37 nm_X6_searchLayer rfl rfl wl_X6_79 wi_X6_searchLayer ws_X6_searchLayer wn_X6 wc_X6_searchLayer ⟨by decide, by decide⟩ (as := [.inl x3_30, .inl a1]) (rest := []) rfl (Nat.le_of_ble_eq_true rfl) ⟨Nat.le_refl _, Nat.le_refl _⟩ (k_qV ?_)
        intro I10 A10 hq10
        replace hv := hv I10 A10 hq10
        refine g_blk hC _ bX6_solve_40_43 (pc' := 43) (ls' := [some (.inr (some 29)), some (.inl a1), some (.inl (I 3 11)), some (.inl (x3_30 + (-1)))]) (st' := []) (I' := I10) rfl rfl ?_
        refine g_goto hC dX6_solve_43 (tgt := 30) (by decide) ?_
        exact g_weak (ls1 := [some (.inr (some 29)), some (.inl a1), some (.inl (I 3 11)), some (.inl (x3_30 + (-1)))]) rfl (And.intro rfl (And.intro rfl (And.intro rfl (And.intro rfl trivial)))) (ih30 (x3_30 + (-1)) I10 A10 hv.1 (Nat.lt_of_lt_of_le hv.2 (Nat.le_of_lt_succ hn30)))
  exact g_weak (ls1 := [some (.inr (some 29)), some (.inl a1), some (.inl (I 3 11)), some (.inl ((I 3 11) - 1))]) rfl (And.intro rfl (And.intro rfl (And.intro rfl (And.intro rfl trivial)))) (L30 _ ((I 3 11) - 1) I (up2 (up2 A (32 + (I 3 11).toNatClampNeg) (0 : Int32).toNatClampNeg 0) (44 + (I 3 11).toNatClampNeg) (0 : Int32).toNatClampNeg 1) hi30 (Nat.lt_succ_self _))
set_option maxHeartbeats 4000000 in
set_option maxRecDepth 100000 in
theorem c_X6_solve (l : Launch) (D : va_G) (ads : AD) (I A : HI) (a1 : Int32) (hp : sol0 I A) : Ct l yX6_solve cX6_solve 4 none 4 101 D ads shp [.inr (some 29), .inl a1] I A (qV (fun I' A' => sol I A a1 I' A')) := by
  sorry
