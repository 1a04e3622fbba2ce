/-! RibbonSetterModel -/
def cnI (f : Nat → Int32) : Nat → Int32
  | 0 => 0
  | n + 1 => if 0 < f n then cnI f n + 1 else cnI f n
def flT (w : Nat → Int32) (p q : Int32) : Int32 := 0
def uBt (u p : Int32) : Int32 := if (u >>> (p &&& 31)) &&& 1 = 1 then 1 else 0
def isF (w : Nat → Int32) (a b : Int32) : Int32 := if zP a = 0 ∨ zP b = 0 then 0 else if 0 < w (10 * a + b).toNatClampNeg then 1 else 0
def isS (w sp : Nat → Int32) (a b : Int32) : Int32 := if 0 < w (10 * a + b).toNatClampNeg ∧ trnI sp a b = 0 then 1 else 0
def fnd0 (f : Nat → Int32) (l x : Int32) : Prop := True
def fnd (f : Nat → Int32) (l x : Int32) : Int32 := 0
def puts0 (A : HI) (l x : Int32) : Prop := True
def puts (A : HI) (l x : Int32) (A' : HI) : Prop := True
def facI (n : Int32) : Int32 := 0
def stO0 (mn : Nat → Int32) (l k x : Int32) : Prop := True
def stO (mn sd : Nat → Int32) (l k x : Int32) : Int32 := sd (600 * mn l.toNatClampNeg + 5 * k + x).toNatClampNeg
def fRo (I A I' A' : HI) : Prop := True
def fIt (I A I' A' : HI) : Prop := True
def mRo0 (I A : HI) : Prop := True
def mRo (I A I' A' : HI) : Prop := True
def crs0 (I A : HI) (l k m : Int32) : Prop := True
def crs (I A : HI) (l k m r : Int32) (I' : HI) : Prop := True
def mov0 (A : HI) (l k : Int32) : Prop := True
def mov (A : HI) (l k : Int32) : Int32 := 0
def MOK (I A : HI) : Prop := True
def fOr (I A I' A' : HI) : Prop := True
def itA0 (A : HI) (l i : Int32) : Prop := True
def itA (A : HI) (l i : Int32) : Int32 := 0
def szM0 (A : HI) (x : Int32) : Prop := True
def szM (A : HI) (x : Int32) : Int32 := 0
def tpM0 (I A : HI) (l x : Int32) : Prop := True
def tpM (I A : HI) (l x : Int32) : Int32 := 0
def m_flow (I A : HI) (a1 a2 a3 r : Int32) (I' A' : HI) : Prop := True
def m_clear (I A : HI) (I' A' : HI) : Prop := True
def m_set (I A : HI) (a1 a2 r : Int32) (I' A' : HI) : Prop := True
def m_about (I A : HI) (a1 r : Int32) (I' A' : HI) : Prop := True
def m_width (I A : HI) (a1 a2 r : Int32) (I' A' : HI) : Prop := True
def m_turned (I A : HI) (a1 a2 r : Int32) (I' A' : HI) : Prop := True
def m_row (I A : HI) (a1 r : Int32) (I' A' : HI) : Prop := True
def m_layer (I A : HI) (a1 r : Int32) (I' A' : HI) : Prop := True
def m_rest (I A : HI) (a1 r : Int32) (I' A' : HI) : Prop := True
def m_cost (I A : HI) (r : Int32) (I' A' : HI) : Prop := True
def m_part (I A : HI) (a1 r : Int32) (I' A' : HI) : Prop := True
def m_items (I A : HI) (a1 r : Int32) (I' A' : HI) : Prop := True
def m_item (I A : HI) (a1 a2 r : Int32) (I' A' : HI) : Prop := True
def m_place (I A : HI) (a1 a2 r : Int32) (I' A' : HI) : Prop := True
def m_point (I A : HI) (a1 a2 a3 a4 r : Int32) (I' A' : HI) : Prop := True
def m_keep (I A : HI) (r : Int32) (I' A' : HI) : Prop := True
def m_forget (I A : HI) (I' A' : HI) : Prop := True
def m_orders (I A : HI) (r : Int32) (I' A' : HI) : Prop := True
theorem bX9_isPlace_0_1 : okB cX9_isPlace RX9 0 [(3, 1, 0, 0, 0)] := And.intro ⟨_, dX9_isPlace_0, rfl⟩ trivial
theorem bX9_isPlace_14_15 : okB cX9_isPlace RX9 14 [(0, 0, 0, 0, 0)] := And.intro ⟨_, dX9_isPlace_14, by decide⟩ trivial
theorem bX9_isPlace_4_7 : okB cX9_isPlace RX9 4 [(3, 1, 0, 0, 0), (1, 0, 0, 0, 10)] := And.intro ⟨_, dX9_isPlace_4, rfl⟩ (And.intro ⟨_, dX9_isPlace_5, by decide⟩ trivial)
theorem bX9_isPlace_10_11 : okB cX9_isPlace RX9 10 [(0, 0, 0, 0, 1)] := And.intro ⟨_, dX9_isPlace_10, by decide⟩ trivial
set_option maxHeartbeats 4000000 in
set_option maxRecDepth 100000 in
theorem k_X9_isPlace (l : Launch) (D : va_G) (ads : AD) (I A : HI) (a1 : Int32) (po : Option AV → HI → HI → Prop)
    (hv : ((a1 < 0 → po (some (.inl 0)) I A) ∧ (¬ a1 < 0 → ((10 ≤ a1 → po (some (.inl 0)) I A) ∧ (¬ 10 ≤ a1 → po (some (.inl 1)) I A))))) : Ct l yX9_isPlace cX9_isPlace 2 (some .boolean) 0 0 D ads shp [.inr (some 96), .inl a1] I A po := by
  refine Ct_of (by decide) (Nat.le_of_ble_eq_true rfl) ?_
  intro p e s m args below meth c hC hr
  replace hC : CX p s m args meth c cX9_isPlace 2 RX9 (AdS ads s.heap.size) := hC
  show Gm p l e s m args below meth c D ads 0 0 2 po I A 0 [some (.inr (some 96)), some (.inl a1)] []
  refine g_blk hC _ bX9_isPlace_0_1 (pc' := 1) (ls' := [some (.inr (some 96)), some (.inl a1)]) (st' := [.inl a1]) (I' := I) rfl rfl ?_
  obtain ⟨hv1, hv2⟩ := hv
  refine g_iflt hC dX9_isPlace_1 (tgt := 14) (by decide) (fun hc => ?_) (fun hc => ?_)
  · have hv := hv1 hc
    clear hv1 hv2 hc
    refine g_blk hC _ bX9_isPlace_14_15 (pc' := 15) (ls' := [some (.inr (some 96)), some (.inl a1)]) (st' := [.inl 0]) (I' := I) rfl rfl ?_
    exact g_reti hC hr (by decide) dX9_isPlace_15 hv
  · have hv := hv2 hc
    clear hv1 hv2 hc
    refine g_blk hC _ bX9_isPlace_4_7 (pc' := 7) (ls' := [some (.inr (some 96)), some (.inl a1)]) (st' := [.inl 10, .inl a1]) (I' := I) rfl rfl ?_
    obtain ⟨hv1, hv2⟩ := hv
    refine g_cge hC dX9_isPlace_7 (tgt := 14) (by decide) (fun hc => ?_) (fun hc => ?_)
    · have hv := hv1 hc
      clear hv1 hv2 hc
      refine g_blk hC _ bX9_isPlace_14_15 (pc' := 15) (ls' := [some (.inr (some 96)), some (.inl a1)]) (st' := [.inl 0]) (I' := I) rfl rfl ?_
      exact g_reti hC hr (by decide) dX9_isPlace_15 hv
    · have hv := hv2 hc
      clear hv1 hv2 hc
      refine g_blk hC _ bX9_isPlace_10_11 (pc' := 11) (ls' := [some (.inr (some 96)), some (.inl a1)]) (st' := [.inl 1]) (I' := I) rfl rfl ?_
      refine g_goto hC dX9_isPlace_11 (tgt := 15) (by decide) ?_
      exact g_reti hC hr (by decide) dX9_isPlace_15 hv
set_option maxHeartbeats 4000000 in
set_option maxRecDepth 100000 in
theorem c_X9_isPlace (l : Launch) (D : va_G) (ads : AD) (I A : HI) (a1 : Int32) : Ct l yX9_isPlace cX9_isPlace 2 (some .boolean) 0 0 D ads shp [.inr (some 96), .inl a1] I A (qI (zP a1) I A) := by
  sorry
theorem bX9_flows_0_4 : okB cX9_flows RX9 0 [(0, 0, 0, 0, 0), (7, 1, 0, 0, 0), (0, 0, 0, 0, 0), (7, 2, 0, 0, 0)] := And.intro ⟨_, dX9_flows_0, by decide⟩ (And.intro ⟨_, dX9_flows_1, rfl⟩ (And.intro ⟨_, dX9_flows_2, by decide⟩ (And.intro ⟨_, dX9_flows_3, rfl⟩ trivial)))
theorem bX9_flows_4_7 : okB cX9_flows RX9 4 [(3, 2, 0, 0, 0), (1, 0, 0, 0, 100)] := And.intro ⟨_, dX9_flows_4, rfl⟩ (And.intro ⟨_, dX9_flows_5, by decide⟩ trivial)
theorem bX9_flows_29_30 : okB cX9_flows RX9 29 [(3, 1, 0, 0, 0)] := And.intro ⟨_, dX9_flows_29, rfl⟩ trivial
theorem bX9_flows_10_15 : okB cX9_flows RX9 10 [(5, 0, 0, 0, 0), (23, 7, 9, 1, 0), (3, 2, 0, 0, 0)] := And.intro ⟨_, dX9_flows_10, rfl⟩ (And.intro ⟨dX9_flows_11, fl_X9_7⟩ (And.intro ⟨_, dX9_flows_14, rfl⟩ trivial))
theorem bX9_flows_23_26 : okB cX9_flows RX9 23 [(11, 2, 0, 0, 1)] := And.intro ⟨_, dX9_flows_23, by decide⟩ trivial
theorem bX9_flows_19_26 : okB cX9_flows RX9 19 [(3, 1, 0, 0, 0), (0, 0, 0, 0, 1), (12, 0, 0, 0, 0), (7, 1, 0, 0, 0), (11, 2, 0, 0, 1)] := And.intro ⟨_, dX9_flows_19, rfl⟩ (And.intro ⟨_, dX9_flows_20, by decide⟩ (And.intro dX9_flows_21 (And.intro ⟨_, dX9_flows_22, rfl⟩ (And.intro ⟨_, dX9_flows_23, by decide⟩ trivial))))
set_option maxHeartbeats 4000000 in
set_option maxRecDepth 100000 in
theorem k_X9_flows (l : Launch) (D : va_G) (ads : AD) (I A : HI) (po : Option AV → HI → HI → Prop) (Iv4 : Int32 → Int32 → Prop) (mu4 : Int32 → Int32 → Nat)
    (hv : (Iv4 0 0 ∧ ∀ (x1_4 : Int32) (x2_4 : Int32), Iv4 x1_4 x2_4 → ((100 ≤ x2_4 → po (some (.inl x1_4)) I A) ∧ (¬ 100 ≤ x2_4 → (vp_in x2_4 100 ∧ (((A 97 x2_4.toNatClampNeg) ≤ 0 → (Iv4 x1_4 (x2_4 + 1) ∧ mu4 x1_4 (x2_4 + 1) < mu4 x1_4 x2_4)) ∧ (¬ (A 97 x2_4.toNatClampNeg) ≤ 0 → (Iv4 (x1_4 + 1) (x2_4 + 1) ∧ mu4 (x1_4 + 1) (x2_4 + 1) < mu4 x1_4 x2_4)))))))) : Ct l yX9_flows cX9_flows 3 (some .int) 0 0 D ads shp [.inr (some 96)] I A po := by
  refine Ct_of (by decide) (Nat.le_of_ble_eq_true rfl) ?_
  intro p e s m args below meth c hC hr
  replace hC : CX p s m args meth c cX9_flows 3 RX9 (AdS ads s.heap.size) := hC
  show Gm p l e s m args below meth c D ads 0 0 3 po I A 0 [some (.inr (some 96)), none, none] []
  refine g_blk hC _ bX9_flows_0_4 (pc' := 4) (ls' := [some (.inr (some 96)), some (.inl 0), some (.inl 0)]) (st' := []) (I' := I) rfl rfl ?_
  obtain ⟨hi4, hb4⟩ := hv
  have L4 : ∀ (n : Nat) (x1_4 : Int32) (x2_4 : Int32), Iv4 x1_4 x2_4 → mu4 x1_4 x2_4 < n → Gm p l e s m args below meth c D ads 0 0 3 po I A 4 [some (.inr (some 96)), some (.inl x1_4), some (.inl x2_4)] [] := by
    intro n
    induction n with
    | zero => intro x1_4 x2_4 _ hn; exact absurd hn (Nat.not_lt_zero _)
    | succ n ih4 =>
      intro x1_4 x2_4 hv hn4
      replace hv := hb4 x1_4 x2_4 hv
      skip
      refine g_blk hC _ bX9_flows_4_7 (pc' := 7) (ls' := [some (.inr (some 96)), some (.inl x1_4), some (.inl x2_4)]) (st' := [.inl 100, .inl x2_4]) (I' := I) rfl rfl ?_
      obtain ⟨hv1, hv2⟩ := hv
      refine g_cge hC dX9_flows_7 (tgt := 29) (by decide) (fun hc => ?_) (fun hc => ?_)
      · have hv := hv1 hc
        clear hv1 hv2 hc
        refine g_blk hC _ bX9_flows_29_30 (pc' := 30) (ls' := [some (.inr (some 96)), some (.inl x1_4), some (.inl x2_4)]) (st' := [.inl x1_4]) (I' := I) rfl rfl ?_
        exact g_reti hC hr rfl dX9_flows_30 hv
      · have hv := hv2 hc
        clear hv1 hv2 hc
        refine g_blk hC _ bX9_flows_10_15 (pc' := 15) (ls' := [some (.inr (some 96)), some (.inl x1_4), some (.inl x2_4)]) (st' := [.inl x2_4, .inr (some 97)]) (I' := I) rfl rfl ?_
        obtain ⟨hi, hv⟩ := hv
        refine g_iald hC dX9_flows_15 (rfl) hi ?_
        clear hi
        obtain ⟨hv1, hv2⟩ := hv
        refine g_ifle hC dX9_flows_16 (tgt := 23) (by decide) (fun hc => ?_) (fun hc => ?_)
        · have hv := hv1 hc
          clear hv1 hv2 hc
          refine g_blk hC _ bX9_flows_23_26 (pc' := 26) (ls' := [some (.inr (some 96)), some (.inl x1_4), some (.inl (x2_4 + 1))]) (st' := []) (I' := I) rfl rfl ?_
          refine g_goto hC dX9_flows_26 (tgt := 4) (by decide) ?_
          exact g_weak (ls1 := [some (.inr (some 96)), some (.inl x1_4), some (.inl (x2_4 + 1))]) rfl (And.intro rfl (And.intro rfl (And.intro rfl trivial))) (ih4 x1_4 (x2_4 + 1) hv.1 (Nat.lt_of_lt_of_le hv.2 (Nat.le_of_lt_succ hn4)))
        · have hv := hv2 hc
          clear hv1 hv2 hc
          refine g_blk hC _ bX9_flows_19_26 (pc' := 26) (ls' := [some (.inr (some 96)), some (.inl (x1_4 + 1)), some (.inl (x2_4 + 1))]) (st' := []) (I' := I) rfl rfl ?_
          refine g_goto hC dX9_flows_26 (tgt := 4) (by decide) ?_
          exact g_weak (ls1 := [some (.inr (some 96)), some (.inl (x1_4 + 1)), some (.inl (x2_4 + 1))]) rfl (And.intro rfl (And.intro rfl (And.intro rfl trivial))) (ih4 (x1_4 + 1) (x2_4 + 1) hv.1 (Nat.lt_of_lt_of_le hv.2 (Nat.le_of_lt_succ hn4)))
  exact g_weak (ls1 := [some (.inr (some 96)), some (.inl 0), some (.inl 0)]) rfl (And.intro rfl (And.intro rfl (And.intro rfl trivial))) (L4 _ 0 0 hi4 (Nat.lt_succ_self _))
set_option maxHeartbeats 4000000 in
set_option maxRecDepth 100000 in
theorem c_X9_flows (l : Launch) (D : va_G) (ads : AD) (I A : HI) : Ct l yX9_flows cX9_flows 3 (some .int) 0 0 D ads shp [.inr (some 96)] I A (qI (cnI (A 97) 100) I A) := by
  sorry
theorem bX9_flowsTo_0_5 : okB cX9_flowsTo RX9 0 [(0, 0, 0, 0, 0), (7, 3, 0, 0, 0), (0, 0, 0, 0, 0), (8, 4, 0, 0, 0)] := And.intro ⟨_, dX9_flowsTo_0, by decide⟩ (And.intro ⟨_, dX9_flowsTo_1, rfl⟩ (And.intro ⟨_, dX9_flowsTo_2, by decide⟩ (And.intro dX9_flowsTo_3 trivial)))
theorem bX9_flowsTo_5_9 : okB cX9_flowsTo RX9 5 [(4, 4, 0, 0, 0), (1, 0, 0, 0, 10)] := And.intro dX9_flowsTo_5 (And.intro ⟨_, dX9_flowsTo_7, by decide⟩ trivial)
theorem bX9_flowsTo_43_44 : okB cX9_flowsTo RX9 43 [(3, 3, 0, 0, 0)] := And.intro ⟨_, dX9_flowsTo_43, rfl⟩ trivial
theorem bX9_flowsTo_12_19 : okB cX9_flowsTo RX9 12 [(3, 2, 0, 0, 0), (4, 4, 0, 0, 0), (19, 0, 0, 0, 0), (0, 0, 0, 0, 1), (15, 0, 0, 0, 0), (0, 0, 0, 0, 1)] := And.intro ⟨_, dX9_flowsTo_12, rfl⟩ (And.intro dX9_flowsTo_13 (And.intro dX9_flowsTo_15 (And.intro ⟨_, dX9_flowsTo_16, by decide⟩ (And.intro dX9_flowsTo_17 (And.intro ⟨_, dX9_flowsTo_18, by decide⟩ trivial)))))
theorem bX9_flowsTo_37_40 : okB cX9_flowsTo RX9 37 [(11, 4, 0, 0, 1)] := And.intro ⟨_, dX9_flowsTo_37, by decide⟩ trivial
theorem bX9_flowsTo_22_34 : okB cX9_flowsTo RX9 22 [(3, 3, 0, 0, 0), (5, 0, 0, 0, 0), (23, 7, 9, 1, 0), (1, 0, 0, 0, 10), (3, 1, 0, 0, 0), (14, 0, 0, 0, 0), (4, 4, 0, 0, 0), (12, 0, 0, 0, 0)] := And.intro ⟨_, dX9_flowsTo_22, rfl⟩ (And.intro ⟨_, dX9_flowsTo_23, rfl⟩ (And.intro ⟨dX9_flowsTo_24, fl_X9_7⟩ (And.intro ⟨_, dX9_flowsTo_27, by decide⟩ (And.intro ⟨_, dX9_flowsTo_29, rfl⟩ (And.intro dX9_flowsTo_30 (And.intro dX9_flowsTo_31 (And.intro dX9_flowsTo_33 trivial)))))))
theorem bX9_flowsTo_35_40 : okB cX9_flowsTo RX9 35 [(12, 0, 0, 0, 0), (7, 3, 0, 0, 0), (11, 4, 0, 0, 1)] := And.intro dX9_flowsTo_35 (And.intro ⟨_, dX9_flowsTo_36, rfl⟩ (And.intro ⟨_, dX9_flowsTo_37, by decide⟩ trivial))
set_option maxHeartbeats 4000000 in
set_option maxRecDepth 100000 in
theorem k_X9_flowsTo (l : Launch) (D : va_G) (ads : AD) (I A : HI) (a1 : Int32) (a2 : Int32) (po : Option AV → HI → HI → Prop) (Iv5 : Int32 → Int32 → Prop) (mu5 : Int32 → Int32 → Nat)
    (hv : (Iv5 0 0 ∧ ∀ (x3_5 : Int32) (x4_5 : Int32), Iv5 x3_5 x4_5 → ((10 ≤ x4_5 → po (some (.inl x3_5)) I A) ∧ (¬ 10 ≤ x4_5 → ((¬ ((a2 >>> (x4_5 &&& 31)) &&& 1) = 1 → (Iv5 x3_5 (x4_5 + 1) ∧ mu5 x3_5 (x4_5 + 1) < mu5 x3_5 x4_5)) ∧ (((a2 >>> (x4_5 &&& 31)) &&& 1) = 1 → (vp_in ((10 * a1) + x4_5) 100 ∧ (Iv5 (x3_5 + (A 97 ((10 * a1) + x4_5).toNatClampNeg)) (x4_5 + 1) ∧ mu5 (x3_5 + (A 97 ((10 * a1) + x4_5).toNatClampNeg)) (x4_5 + 1) < mu5 x3_5 x4_5)))))))) : Ct l yX9_flowsTo cX9_flowsTo 5 (some .int) 0 0 D ads shp [.inr (some 96), .inl a1, .inl a2] I A po := by
  refine Ct_of (by decide) (Nat.le_of_ble_eq_true rfl) ?_
  intro p e s m args below meth c hC hr
  replace hC : CX p s m args meth c cX9_flowsTo 5 RX9 (AdS ads s.heap.size) := hC
  show Gm p l e s m args below meth c D ads 0 0 5 po I A 0 [some (.inr (some 96)), some (.inl a1), some (.inl a2), none, none] []
  refine g_blk hC _ bX9_flowsTo_0_5 (pc' := 5) (ls' := [some (.inr (some 96)), some (.inl a1), some (.inl a2), some (.inl 0), some (.inl 0)]) (st' := []) (I' := I) rfl rfl ?_
  obtain ⟨hi5, hb5⟩ := hv
  have L5 : ∀ (n : Nat) (x3_5 : Int32) (x4_5 : Int32), Iv5 x3_5 x4_5 → mu5 x3_5 x4_5 < n → Gm p l e s m args below meth c D ads 0 0 5 po I A 5 [some (.inr (some 96)), some (.inl a1), some (.inl a2), some (.inl x3_5), some (.inl x4_5)] [] := by
    intro n
    induction n with
    | zero => intro x3_5 x4_5 _ hn; exact absurd hn (Nat.not_lt_zero _)
    | succ n ih5 =>
      intro x3_5 x4_5 hv hn5
      replace hv := hb5 x3_5 x4_5 hv
      skip
      refine g_blk hC _ bX9_flowsTo_5_9 (pc' := 9) (ls' := [some (.inr (some 96)), some (.inl a1), some (.inl a2), some (.inl x3_5), some (.inl x4_5)]) (st' := [.inl 10, .inl x4_5]) (I' := I) rfl rfl ?_
      obtain ⟨hv1, hv2⟩ := hv
      refine g_cge hC dX9_flowsTo_9 (tgt := 43) (by decide) (fun hc => ?_) (fun hc => ?_)
      · have hv := hv1 hc
        clear hv1 hv2 hc
        refine g_blk hC _ bX9_flowsTo_43_44 (pc' := 44) (ls' := [some (.inr (some 96)), some (.inl a1), some (.inl a2), some (.inl x3_5), some (.inl x4_5)]) (st' := [.inl x3_5]) (I' := I) rfl rfl ?_
        exact g_reti hC hr rfl dX9_flowsTo_44 hv
      · have hv := hv2 hc
        clear hv1 hv2 hc
        refine g_blk hC _ bX9_flowsTo_12_19 (pc' := 19) (ls' := [some (.inr (some 96)), some (.inl a1), some (.inl a2), some (.inl x3_5), some (.inl x4_5)]) (st' := [.inl 1, .inl ((a2 >>> (x4_5 &&& 31)) &&& 1)]) (I' := I) rfl rfl ?_
        obtain ⟨hv1, hv2⟩ := hv
        refine g_cne hC dX9_flowsTo_19 (tgt := 37) (by decide) (fun hc => ?_) (fun hc => ?_)
        · have hv := hv1 hc
          clear hv1 hv2 hc
          refine g_blk hC _ bX9_flowsTo_37_40 (pc' := 40) (ls' := [some (.inr (some 96)), some (.inl a1), some (.inl a2), some (.inl x3_5), some (.inl (x4_5 + 1))]) (st' := []) (I' := I) rfl rfl ?_
          refine g_goto hC dX9_flowsTo_40 (tgt := 5) (by decide) ?_
          exact g_weak (ls1 := [some (.inr (some 96)), some (.inl a1), some (.inl a2), some (.inl x3_5), some (.inl (x4_5 + 1))]) rfl (And.intro rfl (And.intro rfl (And.intro rfl (And.intro rfl (And.intro rfl trivial))))) (ih5 x3_5 (x4_5 + 1) hv.1 (Nat.lt_of_lt_of_le hv.2 (Nat.le_of_lt_succ hn5)))
        · have hv := hv2 hc
          clear hv1 hv2 hc
          refine g_blk hC _ bX9_flowsTo_22_34 (pc' := 34) (ls' := [some (.inr (some 96)), some (.inl a1), some (.inl a2), some (.inl x3_5), some (.inl x4_5)]) (st' := [.inl ((10 * a1) + x4_5), .inr (some 97), .inl x3_5]) (I' := I) rfl rfl ?_
          obtain ⟨hi, hv⟩ := hv
          refine g_iald hC dX9_flowsTo_34 (rfl) hi ?_
          clear hi
          refine g_blk hC _ bX9_flowsTo_35_40 (pc' := 40) (ls' := [some (.inr (some 96)), some (.inl a1), some (.inl a2), some (.inl (x3_5 + (A 97 ((10 * a1) + x4_5).toNatClampNeg))), some (.inl (x4_5 + 1))]) (st' := []) (I' := I) rfl rfl ?_
          refine g_goto hC dX9_flowsTo_40 (tgt := 5) (by decide) ?_
          exact g_weak (ls1 := [some (.inr (some 96)), some (.inl a1), some (.inl a2), some (.inl (x3_5 + (A 97 ((10 * a1) + x4_5).toNatClampNeg))), some (.inl (x4_5 + 1))]) rfl (And.intro rfl (And.intro rfl (And.intro rfl (And.intro rfl (And.intro rfl trivial))))) (ih5 (x3_5 + (A 97 ((10 * a1) + x4_5).toNatClampNeg)) (x4_5 + 1) hv.1 (Nat.lt_of_lt_of_le hv.2 (Nat.le_of_lt_succ hn5)))
  exact g_weak (ls1 := [some (.inr (some 96)), some (.inl a1), some (.inl a2), some (.inl 0), some (.inl 0)]) rfl (And.intro rfl (And.intro rfl (And.intro rfl (And.intro rfl (And.intro rfl trivial))))) (L5 _ 0 0 hi5 (Nat.lt_succ_self _))
set_option maxHeartbeats 4000000 in
set_option maxRecDepth 100000 in
theorem c_X9_flowsTo (l : Launch) (D : va_G) (ads : AD) (I A : HI) (a1 : Int32) (a2 : Int32) (hp : vp_in a1 10) : Ct l yX9_flowsTo cX9_flowsTo 5 (some .int) 0 0 D ads shp [.inr (some 96), .inl a1, .inl a2] I A (qI (flT (A 97) a1 a2) I A) := by
  sorry
theorem bX9_isUsed_0_9 : okB cX9_isUsed RX9 0 [(5, 0, 0, 0, 0), (23, 79, 9, 7, 0), (3, 1, 0, 0, 0), (19, 0, 0, 0, 0), (0, 0, 0, 0, 1), (15, 0, 0, 0, 0), (0, 0, 0, 0, 1)] := And.intro ⟨_, dX9_isUsed_0, rfl⟩ (And.intro ⟨dX9_isUsed_1, fl_X9_79⟩ (And.intro ⟨_, dX9_isUsed_4, rfl⟩ (And.intro dX9_isUsed_5 (And.intro ⟨_, dX9_isUsed_6, by decide⟩ (And.intro dX9_isUsed_7 (And.intro ⟨_, dX9_isUsed_8, by decide⟩ trivial))))))
theorem bX9_isUsed_16_17 : okB cX9_isUsed RX9 16 [(0, 0, 0, 0, 0)] := And.intro ⟨_, dX9_isUsed_16, by decide⟩ trivial
theorem bX9_isUsed_12_13 : okB cX9_isUsed RX9 12 [(0, 0, 0, 0, 1)] := And.intro ⟨_, dX9_isUsed_12, by decide⟩ trivial
set_option maxHeartbeats 4000000 in
set_option maxRecDepth 100000 in
theorem k_X9_isUsed (l : Launch) (D : va_G) (ads : AD) (I A : HI) (a1 : Int32) (po : Option AV → HI → HI → Prop)
    (hv : ((¬ (((I 96 7) >>> (a1 &&& 31)) &&& 1) = 1 → po (some (.inl 0)) I A) ∧ ((((I 96 7) >>> (a1 &&& 31)) &&& 1) = 1 → po (some (.inl 1)) I A))) : Ct l yX9_isUsed cX9_isUsed 2 (some .boolean) 0 0 D ads shp [.inr (some 96), .inl a1] I A po := by
  refine Ct_of (by decide) (Nat.le_of_ble_eq_true rfl) ?_
  intro p e s m args below meth c hC hr
  replace hC : CX p s m args meth c cX9_isUsed 2 RX9 (AdS ads s.heap.size) := hC
  show Gm p l e s m args below meth c D ads 0 0 2 po I A 0 [some (.inr (some 96)), some (.inl a1)] []
  refine g_blk hC _ bX9_isUsed_0_9 (pc' := 9) (ls' := [some (.inr (some 96)), some (.inl a1)]) (st' := [.inl 1, .inl (((I 96 7) >>> (a1 &&& 31)) &&& 1)]) (I' := I) rfl rfl ?_
  obtain ⟨hv1, hv2⟩ := hv
  refine g_cne hC dX9_isUsed_9 (tgt := 16) (by decide) (fun hc => ?_) (fun hc => ?_)
  · have hv := hv1 hc
    clear hv1 hv2 hc
    refine g_blk hC _ bX9_isUsed_16_17 (pc' := 17) (ls' := [some (.inr (some 96)), some (.inl a1)]) (st' := [.inl 0]) (I' := I) rfl rfl ?_
    exact g_reti hC hr (by decide) dX9_isUsed_17 hv
  · have hv := hv2 hc
    clear hv1 hv2 hc
    refine g_blk hC _ bX9_isUsed_12_13 (pc' := 13) (ls' := [some (.inr (some 96)), some (.inl a1)]) (st' := [.inl 1]) (I' := I) rfl rfl ?_
    refine g_goto hC dX9_isUsed_13 (tgt := 17) (by decide) ?_
    exact g_reti hC hr (by decide) dX9_isUsed_17 hv
set_option maxHeartbeats 4000000 in
set_option maxRecDepth 100000 in
theorem c_X9_isUsed (l : Launch) (D : va_G) (ads : AD) (I A : HI) (a1 : Int32) : Ct l yX9_isUsed cX9_isUsed 2 (some .boolean) 0 0 D ads shp [.inr (some 96), .inl a1] I A (qI (uBt (I 96 7) a1) I A) := by
  sorry
theorem bX9_isTurned_0_5 : okB cX9_isTurned RX9 0 [(5, 0, 0, 0, 0), (23, 26, 9, 10, 0), (3, 1, 0, 0, 0)] := And.intro ⟨_, dX9_isTurned_0, rfl⟩ (And.intro ⟨dX9_isTurned_1, fl_X9_26⟩ (And.intro ⟨_, dX9_isTurned_4, rfl⟩ trivial))
theorem bX9_isTurned_6_11 : okB cX9_isTurned RX9 6 [(5, 0, 0, 0, 0), (23, 26, 9, 10, 0), (3, 2, 0, 0, 0)] := And.intro ⟨_, dX9_isTurned_6, rfl⟩ (And.intro ⟨dX9_isTurned_7, fl_X9_26⟩ (And.intro ⟨_, dX9_isTurned_10, rfl⟩ trivial))
theorem bX9_isTurned_19_20 : okB cX9_isTurned RX9 19 [(0, 0, 0, 0, 0)] := And.intro ⟨_, dX9_isTurned_19, by decide⟩ trivial
theorem bX9_isTurned_15_16 : okB cX9_isTurned RX9 15 [(0, 0, 0, 0, 1)] := And.intro ⟨_, dX9_isTurned_15, by decide⟩ trivial
set_option maxHeartbeats 4000000 in
set_option maxRecDepth 100000 in
theorem k_X9_isTurned (l : Launch) (D : va_G) (ads : AD) (I A : HI) (a1 : Int32) (a2 : Int32) (po : Option AV → HI → HI → Prop)
    (hv : (vp_in a1 10 ∧ (vp_in a2 10 ∧ (((A 101 a1.toNatClampNeg) ≤ (A 101 a2.toNatClampNeg) → po (some (.inl 0)) I A) ∧ (¬ (A 101 a1.toNatClampNeg) ≤ (A 101 a2.toNatClampNeg) → po (some (.inl 1)) I A))))) : Ct l yX9_isTurned cX9_isTurned 3 (some .boolean) 0 0 D ads shp [.inr (some 96), .inl a1, .inl a2] I A po := by
  refine Ct_of (by decide) (Nat.le_of_ble_eq_true rfl) ?_
  intro p e s m args below meth c hC hr
  replace hC : CX p s m args meth c cX9_isTurned 3 RX9 (AdS ads s.heap.size) := hC
  show Gm p l e s m args below meth c D ads 0 0 3 po I A 0 [some (.inr (some 96)), some (.inl a1), some (.inl a2)] []
  refine g_blk hC _ bX9_isTurned_0_5 (pc' := 5) (ls' := [some (.inr (some 96)), some (.inl a1), some (.inl a2)]) (st' := [.inl a1, .inr (some 101)]) (I' := I) rfl rfl ?_
  obtain ⟨hi, hv⟩ := hv
  refine g_iald hC dX9_isTurned_5 (rfl) hi ?_
  clear hi
  refine g_blk hC _ bX9_isTurned_6_11 (pc' := 11) (ls' := [some (.inr (some 96)), some (.inl a1), some (.inl a2)]) (st' := [.inl a2, .inr (some 101), .inl (A 101 a1.toNatClampNeg)]) (I' := I) rfl rfl ?_
  obtain ⟨hi, hv⟩ := hv
  refine g_iald hC dX9_isTurned_11 (rfl) hi ?_
  clear hi
  obtain ⟨hv1, hv2⟩ := hv
  refine g_cle hC dX9_isTurned_12 (tgt := 19) (by decide) (fun hc => ?_) (fun hc => ?_)
  · have hv := hv1 hc
    clear hv1 hv2 hc
    refine g_blk hC _ bX9_isTurned_19_20 (pc' := 20) (ls' := [some (.inr (some 96)), some (.inl a1), some (.inl a2)]) (st' := [.inl 0]) (I' := I) rfl rfl ?_
    exact g_reti hC hr (by decide) dX9_isTurned_20 hv
  · have hv := hv2 hc
    clear hv1 hv2 hc
    refine g_blk hC _ bX9_isTurned_15_16 (pc' := 16) (ls' := [some (.inr (some 96)), some (.inl a1), some (.inl a2)]) (st' := [.inl 1]) (I' := I) rfl rfl ?_
    refine g_goto hC dX9_isTurned_16 (tgt := 20) (by decide) ?_
    exact g_reti hC hr (by decide) dX9_isTurned_20 hv
set_option maxHeartbeats 4000000 in
set_option maxRecDepth 100000 in
theorem c_X9_isTurned (l : Launch) (D : va_G) (ads : AD) (I A : HI) (a1 : Int32) (a2 : Int32) (hp : vp_in a1 10 ∧ vp_in a2 10) : Ct l yX9_isTurned cX9_isTurned 3 (some .boolean) 0 0 D ads shp [.inr (some 96), .inl a1, .inl a2] I A (qI (trnI (A 101) a1 a2) I A) := by
  sorry
theorem bX9_isFlow_0_2 : okB cX9_isFlow RX9 0 [(5, 0, 0, 0, 0), (3, 1, 0, 0, 0)] := And.intro ⟨_, dX9_isFlow_0, rfl⟩ (And.intro ⟨_, dX9_isFlow_1, rfl⟩ trivial)
theorem bX9_isFlow_34_35 : okB cX9_isFlow RX9 34 [(0, 0, 0, 0, 0)] := And.intro ⟨_, dX9_isFlow_34, by decide⟩ trivial
theorem bX9_isFlow_8_10 : okB cX9_isFlow RX9 8 [(5, 0, 0, 0, 0), (3, 2, 0, 0, 0)] := And.intro ⟨_, dX9_isFlow_8, rfl⟩ (And.intro ⟨_, dX9_isFlow_9, rfl⟩ trivial)
theorem bX9_isFlow_16_26 : okB cX9_isFlow RX9 16 [(5, 0, 0, 0, 0), (23, 7, 9, 1, 0), (1, 0, 0, 0, 10), (3, 1, 0, 0, 0), (14, 0, 0, 0, 0), (3, 2, 0, 0, 0), (12, 0, 0, 0, 0)] := And.intro ⟨_, dX9_isFlow_16, rfl⟩ (And.intro ⟨dX9_isFlow_17, fl_X9_7⟩ (And.intro ⟨_, dX9_isFlow_20, by decide⟩ (And.intro ⟨_, dX9_isFlow_22, rfl⟩ (And.intro dX9_isFlow_23 (And.intro ⟨_, dX9_isFlow_24, rfl⟩ (And.intro dX9_isFlow_25 trivial))))))
theorem bX9_isFlow_30_31 : okB cX9_isFlow RX9 30 [(0, 0, 0, 0, 1)] := And.intro ⟨_, dX9_isFlow_30, by decide⟩ trivial
set_option maxHeartbeats 4000000 in
set_option maxRecDepth 100000 in
theorem k_X9_isFlow (l : Launch) (D : va_G) (ads : AD) (I A : HI) (a1 : Int32) (a2 : Int32) (po : Option AV → HI → HI → Prop)
    (hv : (((zP a1) = 0 → po (some (.inl 0)) I A) ∧ (¬ (zP a1) = 0 → (((zP a2) = 0 → po (some (.inl 0)) I A) ∧ (¬ (zP a2) = 0 → (vp_in ((10 * a1) + a2) 100 ∧ (((A 97 ((10 * a1) + a2).toNatClampNeg) ≤ 0 → po (some (.inl 0)) I A) ∧ (¬ (A 97 ((10 * a1) + a2).toNatClampNeg) ≤ 0 → po (some (.inl 1)) I A)))))))) : Ct l yX9_isFlow cX9_isFlow 3 (some .boolean) 1 21 D ads shp [.inr (some 96), .inl a1, .inl a2] I A po := by
  refine Ct_of (by decide) (Nat.le_of_ble_eq_true rfl) ?_
  intro p e s m args below meth c hC hr
  replace hC : CX p s m args meth c cX9_isFlow 3 RX9 (AdS ads s.heap.size) := hC
  show Gm p l e s m args below meth c D ads 1 21 3 po I A 0 [some (.inr (some 96)), some (.inl a1), some (.inl a2)] []
  refine g_blk hC _ bX9_isFlow_0_2 (pc' := 2) (ls' := [some (.inr (some 96)), some (.inl a1), some (.inl a2)]) (st' := [.inl a1, .inr (some 96)]) (I' := I) rfl rfl ?_
  refine g_callV hC (c_X9_isPlace l D ads I A a1) dX9_isFlow_2 nm_X9_isPlace rfl rfl wl_X9_68 wi_X9_isPlace ws_X9_isPlace wn_X9 wc_X9_isPlace ⟨by decide, by decide⟩ (as := [.inl a1]) (rest := []) rfl (Nat.le_of_ble_eq_true rfl) ⟨Nat.le_refl _, Nat.le_refl _⟩ (k_qI ?_)
  obtain ⟨hv1, hv2⟩ := hv
  refine g_ifeq hC dX9_isFlow_5 (tgt := 34) (by decide) (fun hc => ?_) (fun hc => ?_)
  · have hv := hv1 hc
    clear hv1 hv2 hc
    refine g_blk hC _ bX9_isFlow_34_35 (pc' := 35) (ls' := [some (.inr (some 96)), some (.inl a1), some (.inl a2)]) (st' := [.inl 0]) (I' := I) rfl rfl ?_
    exact g_reti hC hr (by decide) dX9_isFlow_35 hv
  · have hv := hv2 hc
    clear hv1 hv2 hc
    refine g_blk hC _ bX9_isFlow_8_10 (pc' := 10) (ls' := [some (.inr (some 96)), some (.inl a1), some (.inl a2)]) (st' := [.inl a2, .inr (some 96)]) (I' := I) rfl rfl ?_
    refine g_callV hC (c_X9_isPlace l D ads I A a2) dX9_isFlow_10 nm_X9_isPlace rfl rfl wl_X9_68 wi_X9_isPlace ws_X9_isPlace wn_X9 wc_X9_isPlace ⟨by decide, by decide⟩ (as := [.inl a2]) (rest := []) rfl (Nat.le_of_ble_eq_true rfl) ⟨Nat.le_refl _, Nat.le_refl _⟩ (k_qI ?_)
    obtain ⟨hv1, hv2⟩ := hv
    refine g_ifeq hC dX9_isFlow_13 (tgt := 34) (by decide) (fun hc => ?_) (fun hc => ?_)
    · have hv := hv1 hc
      clear hv1 hv2 hc
      refine g_blk hC _ bX9_isFlow_34_35 (pc' := 35) (ls' := [some (.inr (some 96)), some (.inl a1), some (.inl a2)]) (st' := [.inl 0]) (I' := I) rfl rfl ?_
      exact g_reti hC hr (by decide) dX9_isFlow_35 hv
    · have hv := hv2 hc
      clear hv1 hv2 hc
      refine g_blk hC _ bX9_isFlow_16_26 (pc' := 26) (ls' := [some (.inr (some 96)), some (.inl a1), some (.inl a2)]) (st' := [.inl ((10 * a1) + a2), .inr (some 97)]) (I' := I) rfl rfl ?_
      obtain ⟨hi, hv⟩ := hv
      refine g_iald hC dX9_isFlow_26 (rfl) hi ?_
      clear hi
      obtain ⟨hv1, hv2⟩ := hv
      refine g_ifle hC dX9_isFlow_27 (tgt := 34) (by decide) (fun hc => ?_) (fun hc => ?_)
      · have hv := hv1 hc
        clear hv1 hv2 hc
        refine g_blk hC _ bX9_isFlow_34_35 (pc' := 35) (ls' := [some (.inr (some 96)), some (.inl a1), some (.inl a2)]) (st' := [.inl 0]) (I' := I) rfl rfl ?_
        exact g_reti hC hr (by decide) dX9_isFlow_35 hv
      · have hv := hv2 hc
        clear hv1 hv2 hc
        refine g_blk hC _ bX9_isFlow_30_31 (pc' := 31) (ls' := [some (.inr (some 96)), some (.inl a1), some (.inl a2)]) (st' := [.inl 1]) (I' := I) rfl rfl ?_
        refine g_goto hC dX9_isFlow_31 (tgt := 35) (by decide) ?_
        exact g_reti hC hr (by decide) dX9_isFlow_35 hv
set_option maxHeartbeats 4000000 in
set_option maxRecDepth 100000 in
theorem c_X9_isFlow (l : Launch) (D : va_G) (ads : AD) (I A : HI) (a1 : Int32) (a2 : Int32) : Ct l yX9_isFlow cX9_isFlow 3 (some .boolean) 1 21 D ads shp [.inr (some 96), .inl a1, .inl a2] I A (qI (isF (A 97) a1 a2) I A) := by
  sorry
theorem bX9_isStraight_0_10 : okB cX9_isStraight RX9 0 [(5, 0, 0, 0, 0), (23, 7, 9, 1, 0), (1, 0, 0, 0, 10), (3, 1, 0, 0, 0), (14, 0, 0, 0, 0), (3, 2, 0, 0, 0), (12, 0, 0, 0, 0)] := And.intro ⟨_, dX9_isStraight_0, rfl⟩ (And.intro ⟨dX9_isStraight_1, fl_X9_7⟩ (And.intro ⟨_, dX9_isStraight_4, by decide⟩ (And.intro ⟨_, dX9_isStraight_6, rfl⟩ (And.intro dX9_isStraight_7 (And.intro ⟨_, dX9_isStraight_8, rfl⟩ (And.intro dX9_isStraight_9 trivial))))))
theorem bX9_isStraight_27_28 : okB cX9_isStraight RX9 27 [(0, 0, 0, 0, 0)] := And.intro ⟨_, dX9_isStraight_27, by decide⟩ trivial
theorem bX9_isStraight_14_17 : okB cX9_isStraight RX9 14 [(5, 0, 0, 0, 0), (3, 1, 0, 0, 0), (3, 2, 0, 0, 0)] := And.intro ⟨_, dX9_isStraight_14, rfl⟩ (And.intro ⟨_, dX9_isStraight_15, rfl⟩ (And.intro ⟨_, dX9_isStraight_16, rfl⟩ trivial))
theorem bX9_isStraight_23_24 : okB cX9_isStraight RX9 23 [(0, 0, 0, 0, 1)] := And.intro ⟨_, dX9_isStraight_23, by decide⟩ trivial
set_option maxHeartbeats 4000000 in
set_option maxRecDepth 100000 in
theorem k_X9_isStraight (l : Launch) (D : va_G) (ads : AD) (I A : HI) (a1 : Int32) (a2 : Int32) (po : Option AV → HI → HI → Prop)
    (hv : (vp_in ((10 * a1) + a2) 100 ∧ (((A 97 ((10 * a1) + a2).toNatClampNeg) ≤ 0 → po (some (.inl 0)) I A) ∧ (¬ (A 97 ((10 * a1) + a2).toNatClampNeg) ≤ 0 → ((vp_in a1 10 ∧ vp_in a2 10) ∧ ((¬ (trnI (A 101) a1 a2) = 0 → po (some (.inl 0)) I A) ∧ ((trnI (A 101) a1 a2) = 0 → po (some (.inl 1)) I A))))))) : Ct l yX9_isStraight cX9_isStraight 3 (some .boolean) 1 22 D ads shp [.inr (some 96), .inl a1, .inl a2] I A po := by
  refine Ct_of (by decide) (Nat.le_of_ble_eq_true rfl) ?_
  intro p e s m args below meth c hC hr
  replace hC : CX p s m args meth c cX9_isStraight 3 RX9 (AdS ads s.heap.size) := hC
  show Gm p l e s m args below meth c D ads 1 22 3 po I A 0 [some (.inr (some 96)), some (.inl a1), some (.inl a2)] []
  refine g_blk hC _ bX9_isStraight_0_10 (pc' := 10) (ls' := [some (.inr (some 96)), some (.inl a1), some (.inl a2)]) (st' := [.inl ((10 * a1) + a2), .inr (some 97)]) (I' := I) rfl rfl ?_
  obtain ⟨hi, hv⟩ := hv
  refine g_iald hC dX9_isStraight_10 (rfl) hi ?_
  clear hi
  obtain ⟨hv1, hv2⟩ := hv
  refine g_ifle hC dX9_isStraight_11 (tgt := 27) (by decide) (fun hc => ?_) (fun hc => ?_)
  · have hv := hv1 hc
    clear hv1 hv2 hc
    refine g_blk hC _ bX9_isStraight_27_28 (pc' := 28) (ls' := [some (.inr (some 96)), some (.inl a1), some (.inl a2)]) (st' := [.inl 0]) (I' := I) rfl rfl ?_
    exact g_reti hC hr (by decide) dX9_isStraight_28 hv
  · have hv := hv2 hc
    clear hv1 hv2 hc
    refine g_blk hC _ bX9_isStraight_14_17 (pc' := 17) (ls' := [some (.inr (some 96)), some (.inl a1), some (.inl a2)]) (st' := [.inl a2, .inl a1, .inr (some 96)]) (I' := I) rfl rfl ?_
    obtain ⟨hp1, hv⟩ := hv
    refine g_callV hC (c_X9_isTurned l D ads I A a1 a2 hp1) dX9_isStraight_17 nm_X9_isTurned rfl rfl wl_X9_93 wi_X9_isTurned ws_X9_isTurned wn_X9 wc_X9_isTurned ⟨by decide, by decide⟩ (as := [.inl a1, .inl a2]) (rest := []) rfl (Nat.le_of_ble_eq_true rfl) ⟨Nat.le_refl _, Nat.le_refl _⟩ (k_qI ?_)
    obtain ⟨hv1, hv2⟩ := hv
    refine g_ifne hC dX9_isStraight_20 (tgt := 27) (by decide) (fun hc => ?_) (fun hc => ?_)
    · have hv := hv1 hc
      clear hv1 hv2 hc
      refine g_blk hC _ bX9_isStraight_27_28 (pc' := 28) (ls' := [some (.inr (some 96)), some (.inl a1), some (.inl a2)]) (st' := [.inl 0]) (I' := I) rfl rfl ?_
      exact g_reti hC hr (by decide) dX9_isStraight_28 hv
    · have hv := hv2 hc
      clear hv1 hv2 hc
      refine g_blk hC _ bX9_isStraight_23_24 (pc' := 24) (ls' := [some (.inr (some 96)), some (.inl a1), some (.inl a2)]) (st' := [.inl 1]) (I' := I) rfl rfl ?_
      refine g_goto hC dX9_isStraight_24 (tgt := 28) (by decide) ?_
      exact g_reti hC hr (by decide) dX9_isStraight_28 hv
set_option maxHeartbeats 4000000 in
set_option maxRecDepth 100000 in
theorem c_X9_isStraight (l : Launch) (D : va_G) (ads : AD) (I A : HI) (a1 : Int32) (a2 : Int32) (hp : vp_in a1 10 ∧ vp_in a2 10) : Ct l yX9_isStraight cX9_isStraight 3 (some .boolean) 1 22 D ads shp [.inr (some 96), .inl a1, .inl a2] I A (qI (isS (A 97) (A 101) a1 a2) I A) := by
  sorry
theorem bX9_idOf_0_6 : okB cX9_idOf RX9 0 [(3, 3, 0, 0, 0), (5, 0, 0, 0, 0), (23, 29, 9, 11, 0), (3, 1, 0, 0, 0)] := And.intro ⟨_, dX9_idOf_0, rfl⟩ (And.intro ⟨_, dX9_idOf_1, rfl⟩ (And.intro ⟨dX9_idOf_2, fl_X9_29⟩ (And.intro ⟨_, dX9_idOf_5, rfl⟩ trivial)))
theorem bX9_idOf_14_20 : okB cX9_idOf RX9 14 [(3, 3, 0, 0, 0), (5, 0, 0, 0, 0), (23, 29, 9, 11, 0), (3, 2, 0, 0, 0)] := And.intro ⟨_, dX9_idOf_14, rfl⟩ (And.intro ⟨_, dX9_idOf_15, rfl⟩ (And.intro ⟨dX9_idOf_16, fl_X9_29⟩ (And.intro ⟨_, dX9_idOf_19, rfl⟩ trivial)))
theorem bX9_idOf_28_37 : okB cX9_idOf RX9 28 [(1, 0, 0, 0, 100), (1, 0, 0, 0, 10), (3, 1, 0, 0, 0), (14, 0, 0, 0, 0), (12, 0, 0, 0, 0), (3, 2, 0, 0, 0), (12, 0, 0, 0, 0)] := And.intro ⟨_, dX9_idOf_28, by decide⟩ (And.intro ⟨_, dX9_idOf_30, by decide⟩ (And.intro ⟨_, dX9_idOf_32, rfl⟩ (And.intro dX9_idOf_33 (And.intro dX9_idOf_34 (And.intro ⟨_, dX9_idOf_35, rfl⟩ (And.intro dX9_idOf_36 trivial))))))
theorem bX9_idOf_24_25 : okB cX9_idOf RX9 24 [(3, 2, 0, 0, 0)] := And.intro ⟨_, dX9_idOf_24, rfl⟩ trivial
theorem bX9_idOf_10_11 : okB cX9_idOf RX9 10 [(3, 1, 0, 0, 0)] := And.intro ⟨_, dX9_idOf_10, rfl⟩ trivial
set_option maxHeartbeats 4000000 in
set_option maxRecDepth 100000 in
theorem k_X9_idOf (l : Launch) (D : va_G) (ads : AD) (I A : HI) (a1 : Int32) (a2 : Int32) (a3 : Int32) (po : Option AV → HI → HI → Prop)
    (hv : (vp_in a1 10 ∧ ((¬ a3 = (A 102 a1.toNatClampNeg) → (vp_in a2 10 ∧ ((¬ a3 = (A 102 a2.toNatClampNeg) → po (some (.inl ((100 + (10 * a1)) + a2))) I A) ∧ (a3 = (A 102 a2.toNatClampNeg) → po (some (.inl a2)) I A)))) ∧ (a3 = (A 102 a1.toNatClampNeg) → po (some (.inl a1)) I A)))) : Ct l yX9_idOf cX9_idOf 4 (some .int) 0 0 D ads shp [.inr (some 96), .inl a1, .inl a2, .inl a3] I A po := by
  refine Ct_of (by decide) (Nat.le_of_ble_eq_true rfl) ?_
  intro p e s m args below meth c hC hr
  replace hC : CX p s m args meth c cX9_idOf 4 RX9 (AdS ads s.heap.size) := hC
  show Gm p l e s m args below meth c D ads 0 0 4 po I A 0 [some (.inr (some 96)), some (.inl a1), some (.inl a2), some (.inl a3)] []
  refine g_blk hC _ bX9_idOf_0_6 (pc' := 6) (ls' := [some (.inr (some 96)), some (.inl a1), some (.inl a2), some (.inl a3)]) (st' := [.inl a1, .inr (some 102), .inl a3]) (I' := I) rfl rfl ?_
  obtain ⟨hi, hv⟩ := hv
  refine g_iald hC dX9_idOf_6 (rfl) hi ?_
  clear hi
  obtain ⟨hv1, hv2⟩ := hv
  refine g_cne hC dX9_idOf_7 (tgt := 14) (by decide) (fun hc => ?_) (fun hc => ?_)
  · have hv := hv1 hc
    clear hv1 hv2 hc
    refine g_blk hC _ bX9_idOf_14_20 (pc' := 20) (ls' := [some (.inr (some 96)), some (.inl a1), some (.inl a2), some (.inl a3)]) (st' := [.inl a2, .inr (some 102), .inl a3]) (I' := I) rfl rfl ?_
    obtain ⟨hi, hv⟩ := hv
    refine g_iald hC dX9_idOf_20 (rfl) hi ?_
    clear hi
    obtain ⟨hv1, hv2⟩ := hv
    refine g_cne hC dX9_idOf_21 (tgt := 28) (by decide) (fun hc => ?_) (fun hc => ?_)
    · have hv := hv1 hc
      clear hv1 hv2 hc
      refine g_blk hC _ bX9_idOf_28_37 (pc' := 37) (ls' := [some (.inr (some 96)), some (.inl a1), some (.inl a2), some (.inl a3)]) (st' := [.inl ((100 + (10 * a1)) + a2)]) (I' := I) rfl rfl ?_
      exact g_reti hC hr rfl dX9_idOf_37 hv
    · have hv := hv2 hc
      clear hv1 hv2 hc
      refine g_blk hC _ bX9_idOf_24_25 (pc' := 25) (ls' := [some (.inr (some 96)), some (.inl a1), some (.inl a2), some (.inl a3)]) (st' := [.inl a2]) (I' := I) rfl rfl ?_
      refine g_goto hC dX9_idOf_25 (tgt := 37) (by decide) ?_
      exact g_reti hC hr rfl dX9_idOf_37 hv
  · have hv := hv2 hc
    clear hv1 hv2 hc
    refine g_blk hC _ bX9_idOf_10_11 (pc' := 11) (ls' := [some (.inr (some 96)), some (.inl a1), some (.inl a2), some (.inl a3)]) (st' := [.inl a1]) (I' := I) rfl rfl ?_
    refine g_goto hC dX9_idOf_11 (tgt := 37) (by decide) ?_
    exact g_reti hC hr rfl dX9_idOf_37 hv
set_option maxHeartbeats 4000000 in
set_option maxRecDepth 100000 in
theorem c_X9_idOf (l : Launch) (D : va_G) (ads : AD) (I A : HI) (a1 : Int32) (a2 : Int32) (a3 : Int32) (hp : vp_in a1 10 ∧ vp_in a2 10) : Ct l yX9_idOf cX9_idOf 4 (some .int) 0 0 D ads shp [.inr (some 96), .inl a1, .inl a2, .inl a3] I A (qI (itmI (A 102) a1 a2 a3) I A) := by
  sorry
theorem bX9_find_0_2 : okB cX9_find RX9 0 [(0, 0, 0, 0, 0), (7, 3, 0, 0, 0)] := And.intro ⟨_, dX9_find_0, by decide⟩ (And.intro ⟨_, dX9_find_1, rfl⟩ trivial)
theorem bX9_find_2_12 : okB cX9_find RX9 2 [(5, 0, 0, 0, 0), (23, 38, 9, 16, 0), (1, 0, 0, 0, 30), (3, 1, 0, 0, 0), (14, 0, 0, 0, 0), (3, 3, 0, 0, 0), (12, 0, 0, 0, 0)] := And.intro ⟨_, dX9_find_2, rfl⟩ (And.intro ⟨dX9_find_3, fl_X9_38⟩ (And.intro ⟨_, dX9_find_6, by decide⟩ (And.intro ⟨_, dX9_find_8, rfl⟩ (And.intro dX9_find_9 (And.intro ⟨_, dX9_find_10, rfl⟩ (And.intro dX9_find_11 trivial))))))
theorem bX9_find_13_14 : okB cX9_find RX9 13 [(3, 2, 0, 0, 0)] := And.intro ⟨_, dX9_find_13, rfl⟩ trivial
theorem bX9_find_24_25 : okB cX9_find RX9 24 [(3, 3, 0, 0, 0)] := And.intro ⟨_, dX9_find_24, rfl⟩ trivial
theorem bX9_find_17_21 : okB cX9_find RX9 17 [(3, 3, 0, 0, 0), (0, 0, 0, 0, 1), (12, 0, 0, 0, 0), (7, 3, 0, 0, 0)] := And.intro ⟨_, dX9_find_17, rfl⟩ (And.intro ⟨_, dX9_find_18, by decide⟩ (And.intro dX9_find_19 (And.intro ⟨_, dX9_find_20, rfl⟩ trivial)))
set_option maxHeartbeats 4000000 in
set_option maxRecDepth 100000 in
theorem k_X9_find (l : Launch) (D : va_G) (ads : AD) (I A : HI) (a1 : Int32) (a2 : Int32) (po : Option AV → HI → HI → Prop) (Iv2 : Int32 → Prop) (mu2 : Int32 → Nat)
    (hv : (Iv2 0 ∧ ∀ (x3_2 : Int32), Iv2 x3_2 → (vp_in ((30 * a1) + x3_2) 300 ∧ (((A 105 ((30 * a1) + x3_2).toNatClampNeg) = a2 → po (some (.inl x3_2)) I A) ∧ (¬ (A 105 ((30 * a1) + x3_2).toNatClampNeg) = a2 → (Iv2 (x3_2 + 1) ∧ mu2 (x3_2 + 1) < mu2 x3_2)))))) : Ct l yX9_find cX9_find 4 (some .int) 0 0 D ads shp [.inr (some 96), .inl a1, .inl a2] I A po := by
  refine Ct_of (by decide) (Nat.le_of_ble_eq_true rfl) ?_
  intro p e s m args below meth c hC hr
  replace hC : CX p s m args meth c cX9_find 4 RX9 (AdS ads s.heap.size) := hC
  show Gm p l e s m args below meth c D ads 0 0 4 po I A 0 [some (.inr (some 96)), some (.inl a1), some (.inl a2), none] []
  refine g_blk hC _ bX9_find_0_2 (pc' := 2) (ls' := [some (.inr (some 96)), some (.inl a1), some (.inl a2), some (.inl 0)]) (st' := []) (I' := I) rfl rfl ?_
  obtain ⟨hi2, hb2⟩ := hv
  have L2 : ∀ (n : Nat) (x3_2 : Int32), Iv2 x3_2 → mu2 x3_2 < n → Gm p l e s m args below meth c D ads 0 0 4 po I A 2 [some (.inr (some 96)), some (.inl a1), some (.inl a2), some (.inl x3_2)] [] := by
    intro n
    induction n with
    | zero => intro x3_2 _ hn; exact absurd hn (Nat.not_lt_zero _)
    | succ n ih2 =>
      intro x3_2 hv hn2
      replace hv := hb2 x3_2 hv
      skip
      refine g_blk hC _ bX9_find_2_12 (pc' := 12) (ls' := [some (.inr (some 96)), some (.inl a1), some (.inl a2), some (.inl x3_2)]) (st' := [.inl ((30 * a1) + x3_2), .inr (some 105)]) (I' := I) rfl rfl ?_
      obtain ⟨hi, hv⟩ := hv
      refine g_iald hC dX9_find_12 (rfl) hi ?_
      clear hi
      refine g_blk hC _ bX9_find_13_14 (pc' := 14) (ls' := [some (.inr (some 96)), some (.inl a1), some (.inl a2), some (.inl x3_2)]) (st' := [.inl a2, .inl (A 105 ((30 * a1) + x3_2).toNatClampNeg)]) (I' := I) rfl rfl ?_
      obtain ⟨hv1, hv2⟩ := hv
      refine g_ceq hC dX9_find_14 (tgt := 24) (by decide) (fun hc => ?_) (fun hc => ?_)
      · have hv := hv1 hc
        clear hv1 hv2 hc
        refine g_blk hC _ bX9_find_24_25 (pc' := 25) (ls' := [some (.inr (some 96)), some (.inl a1), some (.inl a2), some (.inl x3_2)]) (st' := [.inl x3_2]) (I' := I) rfl rfl ?_
        exact g_reti hC hr rfl dX9_find_25 hv
      · have hv := hv2 hc
        clear hv1 hv2 hc
        refine g_blk hC _ bX9_find_17_21 (pc' := 21) (ls' := [some (.inr (some 96)), some (.inl a1), some (.inl a2), some (.inl (x3_2 + 1))]) (st' := []) (I' := I) rfl rfl ?_
        refine g_goto hC dX9_find_21 (tgt := 2) (by decide) ?_
        exact g_weak (ls1 := [some (.inr (some 96)), some (.inl a1), some (.inl a2), some (.inl (x3_2 + 1))]) rfl (And.intro rfl (And.intro rfl (And.intro rfl (And.intro rfl trivial)))) (ih2 (x3_2 + 1) hv.1 (Nat.lt_of_lt_of_le hv.2 (Nat.le_of_lt_succ hn2)))
  exact g_weak (ls1 := [some (.inr (some 96)), some (.inl a1), some (.inl a2), some (.inl 0)]) rfl (And.intro rfl (And.intro rfl (And.intro rfl (And.intro rfl trivial)))) (L2 _ 0 hi2 (Nat.lt_succ_self _))
set_option maxHeartbeats 4000000 in
set_option maxRecDepth 100000 in
theorem c_X9_find (l : Launch) (D : va_G) (ads : AD) (I A : HI) (a1 : Int32) (a2 : Int32) (hp : fnd0 (A 105) a1 a2) : Ct l yX9_find cX9_find 4 (some .int) 0 0 D ads shp [.inr (some 96), .inl a1, .inl a2] I A (qI (fnd (A 105) a1 a2) I A) := by
  sorry
theorem bX9_puts_0_5 : okB cX9_puts RX9 0 [(5, 0, 0, 0, 0), (23, 35, 9, 15, 0), (3, 1, 0, 0, 0)] := And.intro ⟨_, dX9_puts_0, rfl⟩ (And.intro ⟨dX9_puts_1, fl_X9_35⟩ (And.intro ⟨_, dX9_puts_4, rfl⟩ trivial))
theorem bX9_puts_6_7 : okB cX9_puts RX9 6 [(7, 3, 0, 0, 0)] := And.intro ⟨_, dX9_puts_6, rfl⟩ trivial
theorem bX9_puts_7_8 : okB cX9_puts RX9 7 [(3, 3, 0, 0, 0)] := And.intro ⟨_, dX9_puts_7, rfl⟩ trivial
theorem bX9_puts_59_70 : okB cX9_puts RX9 59 [(5, 0, 0, 0, 0), (23, 38, 9, 16, 0), (1, 0, 0, 0, 30), (3, 1, 0, 0, 0), (14, 0, 0, 0, 0), (3, 3, 0, 0, 0), (12, 0, 0, 0, 0), (3, 2, 0, 0, 0)] := And.intro ⟨_, dX9_puts_59, rfl⟩ (And.intro ⟨dX9_puts_60, fl_X9_38⟩ (And.intro ⟨_, dX9_puts_63, by decide⟩ (And.intro ⟨_, dX9_puts_65, rfl⟩ (And.intro dX9_puts_66 (And.intro ⟨_, dX9_puts_67, rfl⟩ (And.intro dX9_puts_68 (And.intro ⟨_, dX9_puts_69, rfl⟩ trivial)))))))
theorem bX9_puts_71_81 : okB cX9_puts RX9 71 [(5, 0, 0, 0, 0), (23, 35, 9, 15, 0), (3, 1, 0, 0, 0), (5, 0, 0, 0, 0), (23, 35, 9, 15, 0), (3, 1, 0, 0, 0)] := And.intro ⟨_, dX9_puts_71, rfl⟩ (And.intro ⟨dX9_puts_72, fl_X9_35⟩ (And.intro ⟨_, dX9_puts_75, rfl⟩ (And.intro ⟨_, dX9_puts_76, rfl⟩ (And.intro ⟨dX9_puts_77, fl_X9_35⟩ (And.intro ⟨_, dX9_puts_80, rfl⟩ trivial)))))
theorem bX9_puts_82_84 : okB cX9_puts RX9 82 [(0, 0, 0, 0, 1), (12, 0, 0, 0, 0)] := And.intro ⟨_, dX9_puts_82, by decide⟩ (And.intro dX9_puts_83 trivial)
theorem bX9_puts_11_23 : okB cX9_puts RX9 11 [(5, 0, 0, 0, 0), (23, 38, 9, 16, 0), (1, 0, 0, 0, 30), (3, 1, 0, 0, 0), (14, 0, 0, 0, 0), (3, 3, 0, 0, 0), (12, 0, 0, 0, 0), (0, 0, 0, 0, 1), (13, 0, 0, 0, 0)] := And.intro ⟨_, dX9_puts_11, rfl⟩ (And.intro ⟨dX9_puts_12, fl_X9_38⟩ (And.intro ⟨_, dX9_puts_15, by decide⟩ (And.intro ⟨_, dX9_puts_17, rfl⟩ (And.intro dX9_puts_18 (And.intro ⟨_, dX9_puts_19, rfl⟩ (And.intro dX9_puts_20 (And.intro ⟨_, dX9_puts_21, by decide⟩ (And.intro dX9_puts_22 trivial))))))))
theorem bX9_puts_24_25 : okB cX9_puts RX9 24 [(3, 2, 0, 0, 0)] := And.intro ⟨_, dX9_puts_24, rfl⟩ trivial
theorem bX9_puts_28_50 : okB cX9_puts RX9 28 [(5, 0, 0, 0, 0), (23, 38, 9, 16, 0), (1, 0, 0, 0, 30), (3, 1, 0, 0, 0), (14, 0, 0, 0, 0), (3, 3, 0, 0, 0), (12, 0, 0, 0, 0), (5, 0, 0, 0, 0), (23, 38, 9, 16, 0), (1, 0, 0, 0, 30), (3, 1, 0, 0, 0), (14, 0, 0, 0, 0), (3, 3, 0, 0, 0), (12, 0, 0, 0, 0), (0, 0, 0, 0, 1), (13, 0, 0, 0, 0)] := And.intro ⟨_, dX9_puts_28, rfl⟩ (And.intro ⟨dX9_puts_29, fl_X9_38⟩ (And.intro ⟨_, dX9_puts_32, by decide⟩ (And.intro ⟨_, dX9_puts_34, rfl⟩ (And.intro dX9_puts_35 (And.intro ⟨_, dX9_puts_36, rfl⟩ (And.intro dX9_puts_37 (And.intro ⟨_, dX9_puts_38, rfl⟩ (And.intro ⟨dX9_puts_39, fl_X9_38⟩ (And.intro ⟨_, dX9_puts_42, by decide⟩ (And.intro ⟨_, dX9_puts_44, rfl⟩ (And.intro dX9_puts_45 (And.intro ⟨_, dX9_puts_46, rfl⟩ (And.intro dX9_puts_47 (And.intro ⟨_, dX9_puts_48, by decide⟩ (And.intro dX9_puts_49 trivial)))))))))))))))
theorem bX9_puts_52_56 : okB cX9_puts RX9 52 [(3, 3, 0, 0, 0), (0, 0, 0, 0, 1), (13, 0, 0, 0, 0), (7, 3, 0, 0, 0)] := And.intro ⟨_, dX9_puts_52, rfl⟩ (And.intro ⟨_, dX9_puts_53, by decide⟩ (And.intro dX9_puts_54 (And.intro ⟨_, dX9_puts_55, rfl⟩ trivial)))
set_option maxHeartbeats 4000000 in
set_option maxRecDepth 100000 in
theorem k_X9_puts (l : Launch) (D : va_G) (ads : AD) (I A : HI) (a1 : Int32) (a2 : Int32) (po : Option AV → HI → HI → Prop) (Iv7 : Int32 → HI → Prop) (mu7 : Int32 → HI → Nat)
    (hv : (vp_in a1 10 ∧ (Iv7 (A 104 a1.toNatClampNeg) A ∧ ∀ (x3_7 : Int32) (A_7 : HI), Iv7 x3_7 A_7 → ((x3_7 ≤ 0 → (vp_in ((30 * a1) + x3_7) 300 ∧ (vp_in a1 10 ∧ (vp_in a1 10 ∧ po none I (up2 (up2 A_7 105 ((30 * a1) + x3_7).toNatClampNeg a2) 104 a1.toNatClampNeg (((up2 A_7 105 ((30 * a1) + x3_7).toNatClampNeg a2) 104 a1.toNatClampNeg) + 1)))))) ∧ (¬ x3_7 ≤ 0 → (vp_in (((30 * a1) + x3_7) - 1) 300 ∧ (((A_7 105 (((30 * a1) + x3_7) - 1).toNatClampNeg) ≤ a2 → (vp_in ((30 * a1) + x3_7) 300 ∧ (vp_in a1 10 ∧ (vp_in a1 10 ∧ po none I (up2 (up2 A_7 105 ((30 * a1) + x3_7).toNatClampNeg a2) 104 a1.toNatClampNeg (((up2 A_7 105 ((30 * a1) + x3_7).toNatClampNeg a2) 104 a1.toNatClampNeg) + 1)))))) ∧ (¬ (A_7 105 (((30 * a1) + x3_7) - 1).toNatClampNeg) ≤ a2 → (vp_in (((30 * a1) + x3_7) - 1) 300 ∧ (vp_in ((30 * a1) + x3_7) 300 ∧ (Iv7 (x3_7 - 1) (up2 A_7 105 ((30 * a1) + x3_7).toNatClampNeg (A_7 105 (((30 * a1) + x3_7) - 1).toNatClampNeg)) ∧ mu7 (x3_7 - 1) (up2 A_7 105 ((30 * a1) + x3_7).toNatClampNeg (A_7 105 (((30 * a1) + x3_7) - 1).toNatClampNeg)) < mu7 x3_7 A_7))))))))))) : Ct l yX9_puts cX9_puts 4 none 0 0 D ads shp [.inr (some 96), .inl a1, .inl a2] I A po := by
  refine Ct_of (by decide) (Nat.le_of_ble_eq_true rfl) ?_
  intro p e s m args below meth c hC hr
  replace hC : CX p s m args meth c cX9_puts 4 RX9 (AdS ads s.heap.size) := hC
  show Gm p l e s m args below meth c D ads 0 0 4 po I A 0 [some (.inr (some 96)), some (.inl a1), some (.inl a2), none] []
  refine g_blk hC _ bX9_puts_0_5 (pc' := 5) (ls' := [some (.inr (some 96)), some (.inl a1), some (.inl a2), none]) (st' := [.inl a1, .inr (some 104)]) (I' := I) rfl rfl ?_
  obtain ⟨hi, hv⟩ := hv
  refine g_iald hC dX9_puts_5 (rfl) hi ?_
  clear hi
  refine g_blk hC _ bX9_puts_6_7 (pc' := 7) (ls' := [some (.inr (some 96)), some (.inl a1), some (.inl a2), some (.inl (A 104 a1.toNatClampNeg))]) (st' := []) (I' := I) rfl rfl ?_
  obtain ⟨hi7, hb7⟩ := hv
  have L7 : ∀ (n : Nat) (x3_7 : Int32) (A_7 : HI), Iv7 x3_7 A_7 → mu7 x3_7 A_7 < n → Gm p l e s m args below meth c D ads 0 0 4 po I A_7 7 [some (.inr (some 96)), some (.inl a1), some (.inl a2), some (.inl x3_7)] [] := by
    intro n
    induction n with
    | zero => intro x3_7 A_7 _ hn; exact absurd hn (Nat.not_lt_zero _)
    | succ n ih7 =>
      intro x3_7 A_7 hv hn7
      replace hv := hb7 x3_7 A_7 hv
      skip
      refine g_blk hC _ bX9_puts_7_8 (pc' := 8) (ls' := [some (.inr (some 96)), some (.inl a1), some (.inl a2), some (.inl x3_7)]) (st' := [.inl x3_7]) (I' := I) rfl rfl ?_
      obtain ⟨hv1, hv2⟩ := hv
      refine g_ifle hC dX9_puts_8 (tgt := 59) (by decide) (fun hc => ?_) (fun hc => ?_)
      · have hv := hv1 hc
        clear hv1 hv2 hc
        refine g_blk hC _ bX9_puts_59_70 (pc' := 70) (ls' := [some (.inr (some 96)), some (.inl a1), some (.inl a2), some (.inl x3_7)]) (st' := [.inl a2, .inl ((30 * a1) + x3_7), .inr (some 105)]) (I' := I) rfl rfl ?_
        obtain ⟨hi, hv⟩ := hv
        refine g_iast hC dX9_puts_70 (rfl) hi ?_
        clear hi
        refine g_blk hC _ bX9_puts_71_81 (pc' := 81) (ls' := [some (.inr (some 96)), some (.inl a1), some (.inl a2), some (.inl x3_7)]) (st' := [.inl a1, .inr (some 104), .inl a1, .inr (some 104)]) (I' := I) rfl rfl ?_
        obtain ⟨hi, hv⟩ := hv
        refine g_iald hC dX9_puts_81 (rfl) hi ?_
        clear hi
        refine g_blk hC _ bX9_puts_82_84 (pc' := 84) (ls' := [some (.inr (some 96)), some (.inl a1), some (.inl a2), some (.inl x3_7)]) (st' := [.inl (((up2 A_7 105 ((30 * a1) + x3_7).toNatClampNeg a2) 104 a1.toNatClampNeg) + 1), .inl a1, .inr (some 104)]) (I' := I) rfl rfl ?_
        obtain ⟨hi, hv⟩ := hv
        refine g_iast hC dX9_puts_84 (rfl) hi ?_
        clear hi
        exact g_retv hC hr dX9_puts_85 hv
      · have hv := hv2 hc
        clear hv1 hv2 hc
        refine g_blk hC _ bX9_puts_11_23 (pc' := 23) (ls' := [some (.inr (some 96)), some (.inl a1), some (.inl a2), some (.inl x3_7)]) (st' := [.inl (((30 * a1) + x3_7) - 1), .inr (some 105)]) (I' := I) rfl rfl ?_
        obtain ⟨hi, hv⟩ := hv
        refine g_iald hC dX9_puts_23 (rfl) hi ?_
        clear hi
        refine g_blk hC _ bX9_puts_24_25 (pc' := 25) (ls' := [some (.inr (some 96)), some (.inl a1), some (.inl a2), some (.inl x3_7)]) (st' := [.inl a2, .inl (A_7 105 (((30 * a1) + x3_7) - 1).toNatClampNeg)]) (I' := I) rfl rfl ?_
        obtain ⟨hv1, hv2⟩ := hv
        refine g_cle hC dX9_puts_25 (tgt := 59) (by decide) (fun hc => ?_) (fun hc => ?_)
        · have hv := hv1 hc
          clear hv1 hv2 hc
          refine g_blk hC _ bX9_puts_59_70 (pc' := 70) (ls' := [some (.inr (some 96)), some (.inl a1), some (.inl a2), some (.inl x3_7)]) (st' := [.inl a2, .inl ((30 * a1) + x3_7), .inr (some 105)]) (I' := I) rfl rfl ?_
          obtain ⟨hi, hv⟩ := hv
          refine g_iast hC dX9_puts_70 (rfl) hi ?_
          clear hi
          refine g_blk hC _ bX9_puts_71_81 (pc' := 81) (ls' := [some (.inr (some 96)), some (.inl a1), some (.inl a2), some (.inl x3_7)]) (st' := [.inl a1, .inr (some 104), .inl a1, .inr (some 104)]) (I' := I) rfl rfl ?_
          obtain ⟨hi, hv⟩ := hv
          refine g_iald hC dX9_puts_81 (rfl) hi ?_
          clear hi
          refine g_blk hC _ bX9_puts_82_84 (pc' := 84) (ls' := [some (.inr (some 96)), some (.inl a1), some (.inl a2), some (.inl x3_7)]) (st' := [.inl (((up2 A_7 105 ((30 * a1) + x3_7).toNatClampNeg a2) 104 a1.toNatClampNeg) + 1), .inl a1, .inr (some 104)]) (I' := I) rfl rfl ?_
          obtain ⟨hi, hv⟩ := hv
          refine g_iast hC dX9_puts_84 (rfl) hi ?_
          clear hi
          exact g_retv hC hr dX9_puts_85 hv
        · have hv := hv2 hc
          clear hv1 hv2 hc
          refine g_blk hC _ bX9_puts_28_50 (pc' := 50) (ls' := [some (.inr (some 96)), some (.inl a1), some (.inl a2), some (.inl x3_7)]) (st' := [.inl (((30 * a1) + x3_7) - 1), .inr (some 105), .inl ((30 * a1) + x3_7), .inr (some 105)]) (I' := I) rfl rfl ?_
          obtain ⟨hi, hv⟩ := hv
          refine g_iald hC dX9_puts_50 (rfl) hi ?_
          clear hi
          obtain ⟨hi, hv⟩ := hv
          refine g_iast hC dX9_puts_51 (rfl) hi ?_
          clear hi
          refine g_blk hC _ bX9_puts_52_56 (pc' := 56) (ls' := [some (.inr (some 96)), some (.inl a1), some (.inl a2), some (.inl (x3_7 - 1))]) (st' := []) (I' := I) rfl rfl ?_
          refine g_goto hC dX9_puts_56 (tgt := 7) (by decide) ?_
          exact g_weak (ls1 := [some (.inr (some 96)), some (.inl a1), some (.inl a2), some (.inl (x3_7 - 1))]) rfl (And.intro rfl (And.intro rfl (And.intro rfl (And.intro rfl trivial)))) (ih7 (x3_7 - 1) (up2 A_7 105 ((30 * a1) + x3_7).toNatClampNeg (A_7 105 (((30 * a1) + x3_7) - 1).toNatClampNeg)) hv.1 (Nat.lt_of_lt_of_le hv.2 (Nat.le_of_lt_succ hn7)))
  exact g_weak (ls1 := [some (.inr (some 96)), some (.inl a1), some (.inl a2), some (.inl (A 104 a1.toNatClampNeg))]) rfl (And.intro rfl (And.intro rfl (And.intro rfl (And.intro rfl trivial)))) (L7 _ (A 104 a1.toNatClampNeg) A hi7 (Nat.lt_succ_self _))
set_option maxHeartbeats 4000000 in
set_option maxRecDepth 100000 in
theorem c_X9_puts (l : Launch) (D : va_G) (ads : AD) (I A : HI) (a1 : Int32) (a2 : Int32) (hp : puts0 A a1 a2) : Ct l yX9_puts cX9_puts 4 none 0 0 D ads shp [.inr (some 96), .inl a1, .inl a2] I A (qV (fun I' A' => I' = I ∧ puts A a1 a2 A')) := by
  sorry
theorem bX9_factorial_0_4 : okB cX9_factorial RX9 0 [(0, 0, 0, 0, 1), (7, 2, 0, 0, 0), (0, 0, 0, 0, 2), (7, 3, 0, 0, 0)] := And.intro ⟨_, dX9_factorial_0, by decide⟩ (And.intro ⟨_, dX9_factorial_1, rfl⟩ (And.intro ⟨_, dX9_factorial_2, by decide⟩ (And.intro ⟨_, dX9_factorial_3, rfl⟩ trivial)))
theorem bX9_factorial_4_6 : okB cX9_factorial RX9 4 [(3, 3, 0, 0, 0), (3, 1, 0, 0, 0)] := And.intro ⟨_, dX9_factorial_4, rfl⟩ (And.intro ⟨_, dX9_factorial_5, rfl⟩ trivial)
theorem bX9_factorial_19_20 : okB cX9_factorial RX9 19 [(3, 2, 0, 0, 0)] := And.intro ⟨_, dX9_factorial_19, rfl⟩ trivial
theorem bX9_factorial_9_16 : okB cX9_factorial RX9 9 [(3, 2, 0, 0, 0), (3, 3, 0, 0, 0), (14, 0, 0, 0, 0), (7, 2, 0, 0, 0), (11, 3, 0, 0, 1)] := And.intro ⟨_, dX9_factorial_9, rfl⟩ (And.intro ⟨_, dX9_factorial_10, rfl⟩ (And.intro dX9_factorial_11 (And.intro ⟨_, dX9_factorial_12, rfl⟩ (And.intro ⟨_, dX9_factorial_13, by decide⟩ trivial))))
set_option maxHeartbeats 4000000 in
set_option maxRecDepth 100000 in
theorem k_X9_factorial (l : Launch) (D : va_G) (ads : AD) (I A : HI) (a1 : Int32) (po : Option AV → HI → HI → Prop) (Iv4 : Int32 → Int32 → Prop) (mu4 : Int32 → Int32 → Nat)
    (hv : (Iv4 1 2 ∧ ∀ (x2_4 : Int32) (x3_4 : Int32), Iv4 x2_4 x3_4 → ((a1 < x3_4 → po (some (.inl x2_4)) I A) ∧ (¬ a1 < x3_4 → (Iv4 (x2_4 * x3_4) (x3_4 + 1) ∧ mu4 (x2_4 * x3_4) (x3_4 + 1) < mu4 x2_4 x3_4))))) : Ct l yX9_factorial cX9_factorial 4 (some .int) 0 0 D ads shp [.inr (some 96), .inl a1] I A po := by
  refine Ct_of (by decide) (Nat.le_of_ble_eq_true rfl) ?_
  intro p e s m args below meth c hC hr
  replace hC : CX p s m args meth c cX9_factorial 4 RX9 (AdS ads s.heap.size) := hC
  show Gm p l e s m args below meth c D ads 0 0 4 po I A 0 [some (.inr (some 96)), some (.inl a1), none, none] []
  refine g_blk hC _ bX9_factorial_0_4 (pc' := 4) (ls' := [some (.inr (some 96)), some (.inl a1), some (.inl 1), some (.inl 2)]) (st' := []) (I' := I) rfl rfl ?_
  obtain ⟨hi4, hb4⟩ := hv
  have L4 : ∀ (n : Nat) (x2_4 : Int32) (x3_4 : Int32), Iv4 x2_4 x3_4 → mu4 x2_4 x3_4 < n → Gm p l e s m args below meth c D ads 0 0 4 po I A 4 [none, some (.inl a1), some (.inl x2_4), some (.inl x3_4)] [] := by
    intro n
    induction n with
    | zero => intro x2_4 x3_4 _ hn; exact absurd hn (Nat.not_lt_zero _)
    | succ n ih4 =>
      intro x2_4 x3_4 hv hn4
      replace hv := hb4 x2_4 x3_4 hv
      skip
      refine g_blk hC _ bX9_factorial_4_6 (pc' := 6) (ls' := [none, some (.inl a1), some (.inl x2_4), some (.inl x3_4)]) (st' := [.inl a1, .inl x3_4]) (I' := I) rfl rfl ?_
      obtain ⟨hv1, hv2⟩ := hv
      refine g_cgt hC dX9_factorial_6 (tgt := 19) (by decide) (fun hc => ?_) (fun hc => ?_)
      · have hv := hv1 hc
        clear hv1 hv2 hc
        refine g_blk hC _ bX9_factorial_19_20 (pc' := 20) (ls' := [none, some (.inl a1), some (.inl x2_4), some (.inl x3_4)]) (st' := [.inl x2_4]) (I' := I) rfl rfl ?_
        exact g_reti hC hr rfl dX9_factorial_20 hv
      · have hv := hv2 hc
        clear hv1 hv2 hc
        refine g_blk hC _ bX9_factorial_9_16 (pc' := 16) (ls' := [none, some (.inl a1), some (.inl (x2_4 * x3_4)), some (.inl (x3_4 + 1))]) (st' := []) (I' := I) rfl rfl ?_
        refine g_goto hC dX9_factorial_16 (tgt := 4) (by decide) ?_
        exact g_weak (ls1 := [none, some (.inl a1), some (.inl (x2_4 * x3_4)), some (.inl (x3_4 + 1))]) rfl (And.intro rfl (And.intro rfl (And.intro rfl trivial))) (ih4 (x2_4 * x3_4) (x3_4 + 1) hv.1 (Nat.lt_of_lt_of_le hv.2 (Nat.le_of_lt_succ hn4)))
  exact g_weak (ls1 := [none, some (.inl a1), some (.inl 1), some (.inl 2)]) rfl (And.intro rfl (And.intro rfl (And.intro rfl trivial))) (L4 _ 1 2 hi4 (Nat.lt_succ_self _))
set_option maxHeartbeats 4000000 in
set_option maxRecDepth 100000 in
theorem c_X9_factorial (l : Launch) (D : va_G) (ads : AD) (I A : HI) (a1 : Int32) : Ct l yX9_factorial cX9_factorial 4 (some .int) 0 0 D ads shp [.inr (some 96), .inl a1] I A (qI (facI a1) I A) := by
  sorry
theorem bX9_standOf_0_12 : okB cX9_standOf RX9 0 [(5, 0, 0, 0, 0), (23, 53, 9, 21, 0), (2, 0, 0, 0, 600), (5, 0, 0, 0, 0), (23, 35, 9, 15, 0), (3, 1, 0, 0, 0)] := And.intro ⟨_, dX9_standOf_0, rfl⟩ (And.intro ⟨dX9_standOf_1, fl_X9_53⟩ (And.intro ⟨_, dX9_standOf_4, by decide⟩ (And.intro ⟨_, dX9_standOf_7, rfl⟩ (And.intro ⟨dX9_standOf_8, fl_X9_35⟩ (And.intro ⟨_, dX9_standOf_11, rfl⟩ trivial)))))
theorem bX9_standOf_13_20 : okB cX9_standOf RX9 13 [(14, 0, 0, 0, 0), (0, 0, 0, 0, 5), (3, 2, 0, 0, 0), (14, 0, 0, 0, 0), (12, 0, 0, 0, 0), (3, 3, 0, 0, 0), (12, 0, 0, 0, 0)] := And.intro dX9_standOf_13 (And.intro ⟨_, dX9_standOf_14, by decide⟩ (And.intro ⟨_, dX9_standOf_15, rfl⟩ (And.intro dX9_standOf_16 (And.intro dX9_standOf_17 (And.intro ⟨_, dX9_standOf_18, rfl⟩ (And.intro dX9_standOf_19 trivial))))))
set_option maxHeartbeats 4000000 in
set_option maxRecDepth 100000 in
theorem k_X9_standOf (l : Launch) (D : va_G) (ads : AD) (I A : HI) (a1 : Int32) (a2 : Int32) (a3 : Int32) (po : Option AV → HI → HI → Prop)
    (hv : (vp_in a1 10 ∧ (vp_in (((600 * (A 104 a1.toNatClampNeg)) + (5 * a2)) + a3) 3600 ∧ po (some (.inl (A 110 (((600 * (A 104 a1.toNatClampNeg)) + (5 * a2)) + a3).toNatClampNeg))) I A))) : Ct l yX9_standOf cX9_standOf 4 (some .int) 0 0 D ads shp [.inr (some 96), .inl a1, .inl a2, .inl a3] I A po := by
  refine Ct_of (by decide) (Nat.le_of_ble_eq_true rfl) ?_
  intro p e s m args below meth c hC hr
  replace hC : CX p s m args meth c cX9_standOf 4 RX9 (AdS ads s.heap.size) := hC
  show Gm p l e s m args below meth c D ads 0 0 4 po I A 0 [some (.inr (some 96)), some (.inl a1), some (.inl a2), some (.inl a3)] []
  refine g_blk hC _ bX9_standOf_0_12 (pc' := 12) (ls' := [some (.inr (some 96)), some (.inl a1), some (.inl a2), some (.inl a3)]) (st' := [.inl a1, .inr (some 104), .inl 600, .inr (some 110)]) (I' := I) rfl rfl ?_
  obtain ⟨hi, hv⟩ := hv
  refine g_iald hC dX9_standOf_12 (rfl) hi ?_
  clear hi
  refine g_blk hC _ bX9_standOf_13_20 (pc' := 20) (ls' := [some (.inr (some 96)), some (.inl a1), some (.inl a2), some (.inl a3)]) (st' := [.inl (((600 * (A 104 a1.toNatClampNeg)) + (5 * a2)) + a3), .inr (some 110)]) (I' := I) rfl rfl ?_
  obtain ⟨hi, hv⟩ := hv
  refine g_iald hC dX9_standOf_20 (rfl) hi ?_
  clear hi
  exact g_reti hC hr rfl dX9_standOf_21 hv
set_option maxHeartbeats 4000000 in
set_option maxRecDepth 100000 in
theorem c_X9_standOf (l : Launch) (D : va_G) (ads : AD) (I A : HI) (a1 : Int32) (a2 : Int32) (a3 : Int32) (hp : stO0 (A 104) a1 a2 a3) : Ct l yX9_standOf cX9_standOf 4 (some .int) 0 0 D ads shp [.inr (some 96), .inl a1, .inl a2, .inl a3] I A (qI (stO (A 104) (A 110) a1 a2 a3) I A) := by
  sorry
