/-! Flows -/
def btw (A : HI) (a b : Int32) : Int32 := if zPP a b = 0 then 0 else A 2 (a * 10 + b).toNatClampNeg
def tkF (I A : HI) (a b w : Int32) : Int32 := if zPP a b = 0 ∨ a = b ∨ w < 0 ∨ 99 < w then 0 else if w = 0 ∨ 0 < btw A a b ∨ I 1 1 < 16 then 1 else 0
def one (c : Prop) [Decidable c] : Int32 := if c then 1 else 0
def putI (I A : HI) (a b w : Int32) : HI := if tkF I A a b w = 0 then I else up2 I 1 1 (I 1 1 + (one (0 < w) - one (0 < btw A a b)))
def putA (I A : HI) (a b w : Int32) : HI := if tkF I A a b w = 0 then A else up2 A 2 (a * 10 + b).toNatClampNeg w
def sm32 (f : Nat → Int32) : Nat → Int32
  | 0 => 0
  | n + 1 => sm32 f n + f n
def usd (w : Nat → Int32) (p : Nat) : Bool := (List.range 10).any (fun q => decide (0 < w (10 * p + q)) || decide (0 < w (10 * q + p)))
def usI (w : Nat → Int32) (p : Nat) : Int32 := if usd w p then 1 else 0
theorem bX2_number_0_4 : okB cX2_number RX2 0 [(5, 0, 0, 0, 0), (23, 15, 2, 1, 0)] := And.intro ⟨_, dX2_number_0, rfl⟩ (And.intro ⟨dX2_number_1, fl_X2_15⟩ trivial)
set_option maxHeartbeats 4000000 in
set_option maxRecDepth 100000 in
theorem k_X2_number (l : Launch) (D : va_G) (ads : AD) (I A : HI) (po : Option AV → HI → HI → Prop)
    (hv : po (some (.inl (I 1 1))) I A) : Ct l yX2_number cX2_number 1 (some .int) 0 0 D ads shp [.inr (some 1)] I A po := by
  refine Ct_of (by decide) (Nat.le_of_ble_eq_true rfl) ?_
  intro p e s m args below meth c hC hr
  replace hC : CX p s m args meth c cX2_number 1 RX2 (AdS ads s.heap.size) := hC
  show Gm p l e s m args below meth c D ads 0 0 1 po I A 0 [some (.inr (some 1))] []
  refine g_blk hC _ bX2_number_0_4 (pc' := 4) (ls' := [some (.inr (some 1))]) (st' := [.inl (I 1 1)]) (I' := I) rfl rfl ?_
  exact g_reti hC hr rfl dX2_number_4 hv
set_option maxHeartbeats 4000000 in
set_option maxRecDepth 100000 in
theorem c_X2_number (l : Launch) (D : va_G) (ads : AD) (I A : HI) : Ct l yX2_number cX2_number 1 (some .int) 0 0 D ads shp [.inr (some 1)] I A (qI (I 1 1) I A) := by
  exact k_X2_number l D ads I A _ (qI_i rfl)
theorem bX2_between_0_2 : okB cX2_between RX2 0 [(3, 1, 0, 0, 0), (3, 2, 0, 0, 0)] := And.intro ⟨_, dX2_between_0, rfl⟩ (And.intro ⟨_, dX2_between_1, rfl⟩ trivial)
theorem bX2_between_22_23 : okB cX2_between RX2 22 [(0, 0, 0, 0, 0)] := And.intro ⟨_, dX2_between_22, by decide⟩ trivial
theorem bX2_between_8_18 : okB cX2_between RX2 8 [(5, 0, 0, 0, 0), (23, 9, 2, 0, 0), (3, 1, 0, 0, 0), (1, 0, 0, 0, 10), (14, 0, 0, 0, 0), (3, 2, 0, 0, 0), (12, 0, 0, 0, 0)] := And.intro ⟨_, dX2_between_8, rfl⟩ (And.intro ⟨dX2_between_9, fl_X2_9⟩ (And.intro ⟨_, dX2_between_12, rfl⟩ (And.intro ⟨_, dX2_between_13, by decide⟩ (And.intro dX2_between_15 (And.intro ⟨_, dX2_between_16, rfl⟩ (And.intro dX2_between_17 trivial))))))
set_option maxHeartbeats 4000000 in
set_option maxRecDepth 100000 in
theorem k_X2_between (l : Launch) (D : va_G) (ads : AD) (I A : HI) (a1 : Int32) (a2 : Int32) (po : Option AV → HI → HI → Prop)
    (hv : (((zPP a1 a2) = 0 → po (some (.inl 0)) I A) ∧ (¬ (zPP a1 a2) = 0 → (vp_in ((a1 * 10) + a2) 100 ∧ po (some (.inl (A 2 ((a1 * 10) + a2).toNatClampNeg))) I A)))) : Ct l yX2_between cX2_between 3 (some .int) 1 21 D ads shp [.inr (some 1), .inl a1, .inl a2] I A po := by
  refine Ct_of (by decide) (Nat.le_of_ble_eq_true rfl) ?_
  intro p e s m args below meth c hC hr
  replace hC : CX p s m args meth c cX2_between 3 RX2 (AdS ads s.heap.size) := hC
  show Gm p l e s m args below meth c D ads 1 21 3 po I A 0 [some (.inr (some 1)), some (.inl a1), some (.inl a2)] []
  refine g_blk hC _ bX2_between_0_2 (pc' := 2) (ls' := [some (.inr (some 1)), some (.inl a1), some (.inl a2)]) (st' := [.inl a2, .inl a1]) (I' := I) rfl rfl ?_
  refine g_callN (host := RX8) hC (c_X8_arePlaces l D ads I A a1 a2) dX2_between_2 nm_X8_arePlaces (List.mem_of_getElem? (i := 2) rfl) wt_X8_arePlaces wn_X8 wc_X8_arePlaces ⟨by decide, by decide⟩ (as := [.inl a1, .inl a2]) (rest := []) rfl (Nat.le_of_ble_eq_true rfl) ⟨Nat.le_refl _, Nat.le_refl _⟩ (k_qI ?_)
  obtain ⟨hv1, hv2⟩ := hv
  refine g_ifeq hC dX2_between_5 (tgt := 22) (by decide) (fun hc => ?_) (fun hc => ?_)
  · have hv := hv1 hc
    clear hv1 hv2 hc
    refine g_blk hC _ bX2_between_22_23 (pc' := 23) (ls' := [some (.inr (some 1)), some (.inl a1), some (.inl a2)]) (st' := [.inl 0]) (I' := I) rfl rfl ?_
    exact g_reti hC hr rfl dX2_between_23 hv
  · have hv := hv2 hc
    clear hv1 hv2 hc
    refine g_blk hC _ bX2_between_8_18 (pc' := 18) (ls' := [some (.inr (some 1)), some (.inl a1), some (.inl a2)]) (st' := [.inl ((a1 * 10) + a2), .inr (some 2)]) (I' := I) rfl rfl ?_
    obtain ⟨hi, hv⟩ := hv
    refine g_iald hC dX2_between_18 (rfl) hi ?_
    clear hi
    refine g_goto hC dX2_between_19 (tgt := 23) (by decide) ?_
    exact g_reti hC hr rfl dX2_between_23 hv
set_option maxHeartbeats 4000000 in
set_option maxRecDepth 100000 in
theorem c_X2_between (l : Launch) (D : va_G) (ads : AD) (I A : HI) (a1 : Int32) (a2 : Int32) : Ct l yX2_between cX2_between 3 (some .int) 1 21 D ads shp [.inr (some 1), .inl a1, .inl a2] I A (qI (btw A a1 a2) I A) := by
  refine k_X2_between l D ads I A a1 a2 _ ⟨fun h => qI_i ?_, fun h => ⟨vi_pp h, qI_i ?_⟩⟩ <;> simp [btw, h]
theorem bX2_takes_0_2 : okB cX2_takes RX2 0 [(3, 1, 0, 0, 0), (3, 2, 0, 0, 0)] := And.intro ⟨_, dX2_takes_0, rfl⟩ (And.intro ⟨_, dX2_takes_1, rfl⟩ trivial)
theorem bX2_takes_23_24 : okB cX2_takes RX2 23 [(0, 0, 0, 0, 0)] := And.intro ⟨_, dX2_takes_23, by decide⟩ trivial
theorem bX2_takes_8_10 : okB cX2_takes RX2 8 [(3, 1, 0, 0, 0), (3, 2, 0, 0, 0)] := And.intro ⟨_, dX2_takes_8, rfl⟩ (And.intro ⟨_, dX2_takes_9, rfl⟩ trivial)
theorem bX2_takes_13_14 : okB cX2_takes RX2 13 [(3, 3, 0, 0, 0)] := And.intro ⟨_, dX2_takes_13, rfl⟩ trivial
theorem bX2_takes_17_20 : okB cX2_takes RX2 17 [(3, 3, 0, 0, 0), (1, 0, 0, 0, 99)] := And.intro ⟨_, dX2_takes_17, rfl⟩ (And.intro ⟨_, dX2_takes_18, by decide⟩ trivial)
theorem bX2_takes_25_26 : okB cX2_takes RX2 25 [(3, 3, 0, 0, 0)] := And.intro ⟨_, dX2_takes_25, rfl⟩ trivial
theorem bX2_takes_47_48 : okB cX2_takes RX2 47 [(0, 0, 0, 0, 1)] := And.intro ⟨_, dX2_takes_47, by decide⟩ trivial
theorem bX2_takes_29_32 : okB cX2_takes RX2 29 [(5, 0, 0, 0, 0), (3, 1, 0, 0, 0), (3, 2, 0, 0, 0)] := And.intro ⟨_, dX2_takes_29, rfl⟩ (And.intro ⟨_, dX2_takes_30, rfl⟩ (And.intro ⟨_, dX2_takes_31, rfl⟩ trivial))
theorem bX2_takes_38_44 : okB cX2_takes RX2 38 [(5, 0, 0, 0, 0), (23, 15, 2, 1, 0), (1, 0, 0, 0, 16)] := And.intro ⟨_, dX2_takes_38, rfl⟩ (And.intro ⟨dX2_takes_39, fl_X2_15⟩ (And.intro ⟨_, dX2_takes_42, by decide⟩ trivial))
theorem bX2_takes_51_52 : okB cX2_takes RX2 51 [(0, 0, 0, 0, 0)] := And.intro ⟨_, dX2_takes_51, by decide⟩ trivial
set_option maxHeartbeats 4000000 in
set_option maxRecDepth 100000 in
theorem k_X2_takes (l : Launch) (D : va_G) (ads : AD) (I A : HI) (a1 : Int32) (a2 : Int32) (a3 : Int32) (po : Option AV → HI → HI → Prop)
    (hv : (((zPP a1 a2) = 0 → po (some (.inl 0)) I A) ∧ (¬ (zPP a1 a2) = 0 → ((a1 = a2 → po (some (.inl 0)) I A) ∧ (¬ a1 = a2 → ((a3 < 0 → po (some (.inl 0)) I A) ∧ (¬ a3 < 0 → ((a3 ≤ 99 → ((a3 = 0 → po (some (.inl 1)) I A) ∧ (¬ a3 = 0 → ((0 < (btw A a1 a2) → po (some (.inl 1)) I A) ∧ (¬ 0 < (btw A a1 a2) → ((16 ≤ (I 1 1) → po (some (.inl 0)) I A) ∧ (¬ 16 ≤ (I 1 1) → po (some (.inl 1)) I A))))))) ∧ (¬ a3 ≤ 99 → po (some (.inl 0)) I A))))))))) : Ct l yX2_takes cX2_takes 4 (some .boolean) 2 43 D ads shp [.inr (some 1), .inl a1, .inl a2, .inl a3] I A po := by
  refine Ct_of (by decide) (Nat.le_of_ble_eq_true rfl) ?_
  intro p e s m args below meth c hC hr
  replace hC : CX p s m args meth c cX2_takes 4 RX2 (AdS ads s.heap.size) := hC
  show Gm p l e s m args below meth c D ads 2 43 4 po I A 0 [some (.inr (some 1)), some (.inl a1), some (.inl a2), some (.inl a3)] []
  refine g_blk hC _ bX2_takes_0_2 (pc' := 2) (ls' := [some (.inr (some 1)), some (.inl a1), some (.inl a2), some (.inl a3)]) (st' := [.inl a2, .inl a1]) (I' := I) rfl rfl ?_
  refine g_callN (host := RX8) hC (c_X8_arePlaces l D ads I A a1 a2) dX2_takes_2 nm_X8_arePlaces (List.mem_of_getElem? (i := 2) rfl) wt_X8_arePlaces wn_X8 wc_X8_arePlaces ⟨by decide, by decide⟩ (as := [.inl a1, .inl a2]) (rest := []) rfl (Nat.le_of_ble_eq_true rfl) ⟨Nat.le_refl _, Nat.le_refl _⟩ (k_qI ?_)
  obtain ⟨hv1, hv2⟩ := hv
  refine g_ifeq hC dX2_takes_5 (tgt := 23) (by decide) (fun hc => ?_) (fun hc => ?_)
  · have hv := hv1 hc
    clear hv1 hv2 hc
    refine g_blk hC _ bX2_takes_23_24 (pc' := 24) (ls' := [some (.inr (some 1)), some (.inl a1), some (.inl a2), some (.inl a3)]) (st' := [.inl 0]) (I' := I) rfl rfl ?_
    exact g_reti hC hr (by decide) dX2_takes_24 hv
  · have hv := hv2 hc
    clear hv1 hv2 hc
    refine g_blk hC _ bX2_takes_8_10 (pc' := 10) (ls' := [some (.inr (some 1)), some (.inl a1), some (.inl a2), some (.inl a3)]) (st' := [.inl a2, .inl a1]) (I' := I) rfl rfl ?_
    obtain ⟨hv1, hv2⟩ := hv
    refine g_ceq hC dX2_takes_10 (tgt := 23) (by decide) (fun hc => ?_) (fun hc => ?_)
    · have hv := hv1 hc
      clear hv1 hv2 hc
      refine g_blk hC _ bX2_takes_23_24 (pc' := 24) (ls' := [some (.inr (some 1)), some (.inl a1), some (.inl a2), some (.inl a3)]) (st' := [.inl 0]) (I' := I) rfl rfl ?_
      exact g_reti hC hr (by decide) dX2_takes_24 hv
    · have hv := hv2 hc
      clear hv1 hv2 hc
      refine g_blk hC _ bX2_takes_13_14 (pc' := 14) (ls' := [some (.inr (some 1)), some (.inl a1), some (.inl a2), some (.inl a3)]) (st' := [.inl a3]) (I' := I) rfl rfl ?_
      obtain ⟨hv1, hv2⟩ := hv
      refine g_iflt hC dX2_takes_14 (tgt := 23) (by decide) (fun hc => ?_) (fun hc => ?_)
      · have hv := hv1 hc
        clear hv1 hv2 hc
        refine g_blk hC _ bX2_takes_23_24 (pc' := 24) (ls' := [some (.inr (some 1)), some (.inl a1), some (.inl a2), some (.inl a3)]) (st' := [.inl 0]) (I' := I) rfl rfl ?_
        exact g_reti hC hr (by decide) dX2_takes_24 hv
      · have hv := hv2 hc
        clear hv1 hv2 hc
        refine g_blk hC _ bX2_takes_17_20 (pc' := 20) (ls' := [some (.inr (some 1)), some (.inl a1), some (.inl a2), some (.inl a3)]) (st' := [.inl 99, .inl a3]) (I' := I) rfl rfl ?_
        obtain ⟨hv1, hv2⟩ := hv
        refine g_cle hC dX2_takes_20 (tgt := 25) (by decide) (fun hc => ?_) (fun hc => ?_)
        · have hv := hv1 hc
          clear hv1 hv2 hc
          refine g_blk hC _ bX2_takes_25_26 (pc' := 26) (ls' := [some (.inr (some 1)), some (.inl a1), some (.inl a2), some (.inl a3)]) (st' := [.inl a3]) (I' := I) rfl rfl ?_
          obtain ⟨hv1, hv2⟩ := hv
          refine g_ifeq hC dX2_takes_26 (tgt := 47) (by decide) (fun hc => ?_) (fun hc => ?_)
          · have hv := hv1 hc
            clear hv1 hv2 hc
            refine g_blk hC _ bX2_takes_47_48 (pc' := 48) (ls' := [some (.inr (some 1)), some (.inl a1), some (.inl a2), some (.inl a3)]) (st' := [.inl 1]) (I' := I) rfl rfl ?_
            refine g_goto hC dX2_takes_48 (tgt := 52) (by decide) ?_
            exact g_reti hC hr (by decide) dX2_takes_52 hv
          · have hv := hv2 hc
            clear hv1 hv2 hc
            refine g_blk hC _ bX2_takes_29_32 (pc' := 32) (ls' := [some (.inr (some 1)), some (.inl a1), some (.inl a2), some (.inl a3)]) (st' := [.inl a2, .inl a1, .inr (some 1)]) (I' := I) rfl rfl ?_
            refine g_callV hC (c_X2_between l D ads I A a1 a2) dX2_takes_32 nm_X2_between rfl rfl wl_X2_23 wi_X2_between ws_X2_between wn_X2 wc_X2_between ⟨by decide, by decide⟩ (as := [.inl a1, .inl a2]) (rest := []) rfl (Nat.le_of_ble_eq_true rfl) ⟨Nat.le_refl _, Nat.le_refl _⟩ (k_qI ?_)
            obtain ⟨hv1, hv2⟩ := hv
            refine g_ifgt hC dX2_takes_35 (tgt := 47) (by decide) (fun hc => ?_) (fun hc => ?_)
            · have hv := hv1 hc
              clear hv1 hv2 hc
              refine g_blk hC _ bX2_takes_47_48 (pc' := 48) (ls' := [some (.inr (some 1)), some (.inl a1), some (.inl a2), some (.inl a3)]) (st' := [.inl 1]) (I' := I) rfl rfl ?_
              refine g_goto hC dX2_takes_48 (tgt := 52) (by decide) ?_
              exact g_reti hC hr (by decide) dX2_takes_52 hv
            · have hv := hv2 hc
              clear hv1 hv2 hc
              refine g_blk hC _ bX2_takes_38_44 (pc' := 44) (ls' := [some (.inr (some 1)), some (.inl a1), some (.inl a2), some (.inl a3)]) (st' := [.inl 16, .inl (I 1 1)]) (I' := I) rfl rfl ?_
              obtain ⟨hv1, hv2⟩ := hv
              refine g_cge hC dX2_takes_44 (tgt := 51) (by decide) (fun hc => ?_) (fun hc => ?_)
              · have hv := hv1 hc
                clear hv1 hv2 hc
                refine g_blk hC _ bX2_takes_51_52 (pc' := 52) (ls' := [some (.inr (some 1)), some (.inl a1), some (.inl a2), some (.inl a3)]) (st' := [.inl 0]) (I' := I) rfl rfl ?_
                exact g_reti hC hr (by decide) dX2_takes_52 hv
              · have hv := hv2 hc
                clear hv1 hv2 hc
                refine g_blk hC _ bX2_takes_47_48 (pc' := 48) (ls' := [some (.inr (some 1)), some (.inl a1), some (.inl a2), some (.inl a3)]) (st' := [.inl 1]) (I' := I) rfl rfl ?_
                refine g_goto hC dX2_takes_48 (tgt := 52) (by decide) ?_
                exact g_reti hC hr (by decide) dX2_takes_52 hv
        · have hv := hv2 hc
          clear hv1 hv2 hc
          refine g_blk hC _ bX2_takes_23_24 (pc' := 24) (ls' := [some (.inr (some 1)), some (.inl a1), some (.inl a2), some (.inl a3)]) (st' := [.inl 0]) (I' := I) rfl rfl ?_
          exact g_reti hC hr (by decide) dX2_takes_24 hv
set_option maxHeartbeats 4000000 in
set_option maxRecDepth 100000 in
theorem c_X2_takes (l : Launch) (D : va_G) (ads : AD) (I A : HI) (a1 : Int32) (a2 : Int32) (a3 : Int32) : Ct l yX2_takes cX2_takes 4 (some .boolean) 2 43 D ads shp [.inr (some 1), .inl a1, .inl a2, .inl a3] I A (qI (tkF I A a1 a2 a3) I A) := by
  refine k_X2_takes l D ads I A a1 a2 a3 _ ⟨fun h => qI_i ?_, fun h => ⟨fun h2 => qI_i ?_, fun h2 => ⟨fun h3 => qI_i ?_, fun h3 => ⟨fun h4 => ⟨fun h5 => qI_i ?_, fun h5 => ⟨fun h6 => qI_i ?_, fun h6 => ⟨fun h7 => qI_i ?_, fun h7 => qI_i ?_⟩⟩⟩, fun h4 => qI_i ?_⟩⟩⟩⟩
  · simp [tkF, h]
  · simp [tkF, h2]
  · simp [tkF, h3]
  · subst h5
    simp [tkF, h, h2, le_nlt h4]
  · simp [tkF, h, h2, h3, le_nlt h4, h6]
  · simp [tkF, h, h2, h3, le_nlt h4, h5, h6, le_nlt h7]
  · simp [tkF, h, h2, h3, le_nlt h4, nle h7]
  · simp [tkF, nle h4]
theorem bX2_put_0_4 : okB cX2_put RX2 0 [(5, 0, 0, 0, 0), (3, 1, 0, 0, 0), (3, 2, 0, 0, 0), (3, 3, 0, 0, 0)] := And.intro ⟨_, dX2_put_0, rfl⟩ (And.intro ⟨_, dX2_put_1, rfl⟩ (And.intro ⟨_, dX2_put_2, rfl⟩ (And.intro ⟨_, dX2_put_3, rfl⟩ trivial)))
theorem bX2_put_11_17 : okB cX2_put RX2 11 [(5, 0, 0, 0, 0), (20, 0, 0, 0, 0), (23, 15, 2, 1, 0), (3, 3, 0, 0, 0)] := And.intro ⟨_, dX2_put_11, rfl⟩ (And.intro dX2_put_12 (And.intro ⟨dX2_put_13, fl_X2_15⟩ (And.intro ⟨_, dX2_put_16, rfl⟩ trivial)))
theorem bX2_put_24_28 : okB cX2_put RX2 24 [(0, 0, 0, 0, 0), (5, 0, 0, 0, 0), (3, 1, 0, 0, 0), (3, 2, 0, 0, 0)] := And.intro ⟨_, dX2_put_24, by decide⟩ (And.intro ⟨_, dX2_put_25, rfl⟩ (And.intro ⟨_, dX2_put_26, rfl⟩ (And.intro ⟨_, dX2_put_27, rfl⟩ trivial)))
theorem bX2_put_38_55 : okB cX2_put RX2 38 [(0, 0, 0, 0, 0), (13, 0, 0, 0, 0), (12, 0, 0, 0, 0), (24, 15, 2, 1, 0), (5, 0, 0, 0, 0), (23, 9, 2, 0, 0), (3, 1, 0, 0, 0), (1, 0, 0, 0, 10), (14, 0, 0, 0, 0), (3, 2, 0, 0, 0), (12, 0, 0, 0, 0), (3, 3, 0, 0, 0)] := And.intro ⟨_, dX2_put_38, by decide⟩ (And.intro dX2_put_39 (And.intro dX2_put_40 (And.intro ⟨dX2_put_41, fl_X2_15, rfl, rfl⟩ (And.intro ⟨_, dX2_put_44, rfl⟩ (And.intro ⟨dX2_put_45, fl_X2_9⟩ (And.intro ⟨_, dX2_put_48, rfl⟩ (And.intro ⟨_, dX2_put_49, by decide⟩ (And.intro dX2_put_51 (And.intro ⟨_, dX2_put_52, rfl⟩ (And.intro dX2_put_53 (And.intro ⟨_, dX2_put_54, rfl⟩ trivial)))))))))))
theorem bX2_put_34_35 : okB cX2_put RX2 34 [(0, 0, 0, 0, 1)] := And.intro ⟨_, dX2_put_34, by decide⟩ trivial
theorem bX2_put_39_55 : okB cX2_put RX2 39 [(13, 0, 0, 0, 0), (12, 0, 0, 0, 0), (24, 15, 2, 1, 0), (5, 0, 0, 0, 0), (23, 9, 2, 0, 0), (3, 1, 0, 0, 0), (1, 0, 0, 0, 10), (14, 0, 0, 0, 0), (3, 2, 0, 0, 0), (12, 0, 0, 0, 0), (3, 3, 0, 0, 0)] := And.intro dX2_put_39 (And.intro dX2_put_40 (And.intro ⟨dX2_put_41, fl_X2_15, rfl, rfl⟩ (And.intro ⟨_, dX2_put_44, rfl⟩ (And.intro ⟨dX2_put_45, fl_X2_9⟩ (And.intro ⟨_, dX2_put_48, rfl⟩ (And.intro ⟨_, dX2_put_49, by decide⟩ (And.intro dX2_put_51 (And.intro ⟨_, dX2_put_52, rfl⟩ (And.intro dX2_put_53 (And.intro ⟨_, dX2_put_54, rfl⟩ trivial))))))))))
theorem bX2_put_20_21 : okB cX2_put RX2 20 [(0, 0, 0, 0, 1)] := And.intro ⟨_, dX2_put_20, by decide⟩ trivial
theorem bX2_put_25_28 : okB cX2_put RX2 25 [(5, 0, 0, 0, 0), (3, 1, 0, 0, 0), (3, 2, 0, 0, 0)] := And.intro ⟨_, dX2_put_25, rfl⟩ (And.intro ⟨_, dX2_put_26, rfl⟩ (And.intro ⟨_, dX2_put_27, rfl⟩ trivial))
set_option maxHeartbeats 4000000 in
set_option maxRecDepth 100000 in
theorem k_X2_put (l : Launch) (D : va_G) (ads : AD) (I A : HI) (a1 : Int32) (a2 : Int32) (a3 : Int32) (po : Option AV → HI → HI → Prop)
    (hv : ((¬ (tkF I A a1 a2 a3) = 0 → ((a3 ≤ 0 → (((btw A a1 a2) ≤ 0 → (vp_in ((a1 * 10) + a2) 100 ∧ po none (up2 I 1 1 ((I 1 1) + (0 - 0))) (up2 A 2 ((a1 * 10) + a2).toNatClampNeg a3))) ∧ (¬ (btw A a1 a2) ≤ 0 → (vp_in ((a1 * 10) + a2) 100 ∧ po none (up2 I 1 1 ((I 1 1) + (0 - 1))) (up2 A 2 ((a1 * 10) + a2).toNatClampNeg a3))))) ∧ (¬ a3 ≤ 0 → (((btw A a1 a2) ≤ 0 → (vp_in ((a1 * 10) + a2) 100 ∧ po none (up2 I 1 1 ((I 1 1) + (1 - 0))) (up2 A 2 ((a1 * 10) + a2).toNatClampNeg a3))) ∧ (¬ (btw A a1 a2) ≤ 0 → (vp_in ((a1 * 10) + a2) 100 ∧ po none (up2 I 1 1 ((I 1 1) + (1 - 1))) (up2 A 2 ((a1 * 10) + a2).toNatClampNeg a3))))))) ∧ ((tkF I A a1 a2 a3) = 0 → po none I A))) : Ct l yX2_put cX2_put 4 none 3 66 D ads shp [.inr (some 1), .inl a1, .inl a2, .inl a3] I A po := by
  refine Ct_of (by decide) (Nat.le_of_ble_eq_true rfl) ?_
  intro p e s m args below meth c hC hr
  replace hC : CX p s m args meth c cX2_put 4 RX2 (AdS ads s.heap.size) := hC
  show Gm p l e s m args below meth c D ads 3 66 4 po I A 0 [some (.inr (some 1)), some (.inl a1), some (.inl a2), some (.inl a3)] []
  refine g_blk hC _ bX2_put_0_4 (pc' := 4) (ls' := [some (.inr (some 1)), some (.inl a1), some (.inl a2), some (.inl a3)]) (st' := [.inl a3, .inl a2, .inl a1, .inr (some 1)]) (I' := I) rfl rfl ?_
  refine g_callV hC (c_X2_takes l D ads I A a1 a2 a3) dX2_put_4 nm_X2_takes rfl rfl wl_X2_27 wi_X2_takes ws_X2_takes wn_X2 wc_X2_takes ⟨by decide, by decide⟩ (as := [.inl a1, .inl a2, .inl a3]) (rest := []) rfl (Nat.le_of_ble_eq_true rfl) ⟨Nat.le_refl _, Nat.le_refl _⟩ (k_qI ?_)
  obtain ⟨hv1, hv2⟩ := hv
  refine g_ifne hC dX2_put_7 (tgt := 11) (by decide) (fun hc => ?_) (fun hc => ?_)
  · have hv := hv1 hc
    clear hv1 hv2 hc
    refine g_blk hC _ bX2_put_11_17 (pc' := 17) (ls' := [some (.inr (some 1)), some (.inl a1), some (.inl a2), some (.inl a3)]) (st' := [.inl a3, .inl (I 1 1), .inr (some 1)]) (I' := I) rfl rfl ?_
    obtain ⟨hv1, hv2⟩ := hv
    refine g_ifle hC dX2_put_17 (tgt := 24) (by decide) (fun hc => ?_) (fun hc => ?_)
    · have hv := hv1 hc
      clear hv1 hv2 hc
      refine g_blk hC _ bX2_put_24_28 (pc' := 28) (ls' := [some (.inr (some 1)), some (.inl a1), some (.inl a2), some (.inl a3)]) (st' := [.inl a2, .inl a1, .inr (some 1), .inl 0, .inl (I 1 1), .inr (some 1)]) (I' := I) rfl rfl ?_
      refine g_callV hC (c_X2_between l D ads I A a1 a2) dX2_put_28 nm_X2_between rfl rfl wl_X2_23 wi_X2_between ws_X2_between wn_X2 wc_X2_between ⟨by decide, by decide⟩ (as := [.inl a1, .inl a2]) (rest := [.inl 0, .inl (I 1 1), .inr (some 1)]) rfl (Nat.le_of_ble_eq_true rfl) ⟨Nat.le_refl _, Nat.le_refl _⟩ (k_qI ?_)
      obtain ⟨hv1, hv2⟩ := hv
      refine g_ifle hC dX2_put_31 (tgt := 38) (by decide) (fun hc => ?_) (fun hc => ?_)
      · have hv := hv1 hc
        clear hv1 hv2 hc
        refine g_blk hC _ bX2_put_38_55 (pc' := 55) (ls' := [some (.inr (some 1)), some (.inl a1), some (.inl a2), some (.inl a3)]) (st' := [.inl a3, .inl ((a1 * 10) + a2), .inr (some 2)]) (I' := up2 I 1 1 ((I 1 1) + (0 - 0))) rfl rfl ?_
        obtain ⟨hi, hv⟩ := hv
        refine g_iast hC dX2_put_55 (rfl) hi ?_
        clear hi
        exact g_retv hC hr dX2_put_56 hv
      · have hv := hv2 hc
        clear hv1 hv2 hc
        refine g_blk hC _ bX2_put_34_35 (pc' := 35) (ls' := [some (.inr (some 1)), some (.inl a1), some (.inl a2), some (.inl a3)]) (st' := [.inl 1, .inl 0, .inl (I 1 1), .inr (some 1)]) (I' := I) rfl rfl ?_
        refine g_goto hC dX2_put_35 (tgt := 39) (by decide) ?_
        refine g_blk hC _ bX2_put_39_55 (pc' := 55) (ls' := [some (.inr (some 1)), some (.inl a1), some (.inl a2), some (.inl a3)]) (st' := [.inl a3, .inl ((a1 * 10) + a2), .inr (some 2)]) (I' := up2 I 1 1 ((I 1 1) + (0 - 1))) rfl rfl ?_
        obtain ⟨hi, hv⟩ := hv
        refine g_iast hC dX2_put_55 (rfl) hi ?_
        clear hi
        exact g_retv hC hr dX2_put_56 hv
    · have hv := hv2 hc
      clear hv1 hv2 hc
      refine g_blk hC _ bX2_put_20_21 (pc' := 21) (ls' := [some (.inr (some 1)), some (.inl a1), some (.inl a2), some (.inl a3)]) (st' := [.inl 1, .inl (I 1 1), .inr (some 1)]) (I' := I) rfl rfl ?_
      refine g_goto hC dX2_put_21 (tgt := 25) (by decide) ?_
      refine g_blk hC _ bX2_put_25_28 (pc' := 28) (ls' := [some (.inr (some 1)), some (.inl a1), some (.inl a2), some (.inl a3)]) (st' := [.inl a2, .inl a1, .inr (some 1), .inl 1, .inl (I 1 1), .inr (some 1)]) (I' := I) rfl rfl ?_
      refine g_callV hC (c_X2_between l D ads I A a1 a2) dX2_put_28 nm_X2_between rfl rfl wl_X2_23 wi_X2_between ws_X2_between wn_X2 wc_X2_between ⟨by decide, by decide⟩ (as := [.inl a1, .inl a2]) (rest := [.inl 1, .inl (I 1 1), .inr (some 1)]) rfl (Nat.le_of_ble_eq_true rfl) ⟨Nat.le_refl _, Nat.le_refl _⟩ (k_qI ?_)
      obtain ⟨hv1, hv2⟩ := hv
      refine g_ifle hC dX2_put_31 (tgt := 38) (by decide) (fun hc => ?_) (fun hc => ?_)
      · have hv := hv1 hc
        clear hv1 hv2 hc
        refine g_blk hC _ bX2_put_38_55 (pc' := 55) (ls' := [some (.inr (some 1)), some (.inl a1), some (.inl a2), some (.inl a3)]) (st' := [.inl a3, .inl ((a1 * 10) + a2), .inr (some 2)]) (I' := up2 I 1 1 ((I 1 1) + (1 - 0))) rfl rfl ?_
        obtain ⟨hi, hv⟩ := hv
        refine g_iast hC dX2_put_55 (rfl) hi ?_
        clear hi
        exact g_retv hC hr dX2_put_56 hv
      · have hv := hv2 hc
        clear hv1 hv2 hc
        refine g_blk hC _ bX2_put_34_35 (pc' := 35) (ls' := [some (.inr (some 1)), some (.inl a1), some (.inl a2), some (.inl a3)]) (st' := [.inl 1, .inl 1, .inl (I 1 1), .inr (some 1)]) (I' := I) rfl rfl ?_
        refine g_goto hC dX2_put_35 (tgt := 39) (by decide) ?_
        refine g_blk hC _ bX2_put_39_55 (pc' := 55) (ls' := [some (.inr (some 1)), some (.inl a1), some (.inl a2), some (.inl a3)]) (st' := [.inl a3, .inl ((a1 * 10) + a2), .inr (some 2)]) (I' := up2 I 1 1 ((I 1 1) + (1 - 1))) rfl rfl ?_
        obtain ⟨hi, hv⟩ := hv
        refine g_iast hC dX2_put_55 (rfl) hi ?_
        clear hi
        exact g_retv hC hr dX2_put_56 hv
  · have hv := hv2 hc
    clear hv1 hv2 hc
    exact g_retv hC hr dX2_put_10 hv
set_option maxHeartbeats 4000000 in
set_option maxRecDepth 100000 in
theorem c_X2_put (l : Launch) (D : va_G) (ads : AD) (I A : HI) (a1 : Int32) (a2 : Int32) (a3 : Int32) : Ct l yX2_put cX2_put 4 none 3 66 D ads shp [.inr (some 1), .inl a1, .inl a2, .inl a3] I A (qN (putI I A a1 a2 a3) (putA I A a1 a2 a3)) := by
  have key : ¬ tkF I A a1 a2 a3 = 0 → vp_in (a1 * 10 + a2) 100 := by
    intro h
    refine vi_pp (fun z => h ?_)
    simp [tkF, z]
  refine k_X2_put l D ads I A a1 a2 a3 _ ⟨fun h => ⟨fun h2 => ⟨fun h3 => ⟨key h, qN_i ?_ ?_⟩, fun h3 => ⟨key h, qN_i ?_ ?_⟩⟩, fun h2 => ⟨fun h3 => ⟨key h, qN_i ?_ ?_⟩, fun h3 => ⟨key h, qN_i ?_ ?_⟩⟩⟩, fun h => qN_i ?_ ?_⟩
  · simp [putI, h, one, le_nlt h2, le_nlt h3]
  · simp [putA, h]
  · simp [putI, h, one, le_nlt h2, nle h3]
  · simp [putA, h]
  · simp [putI, h, one, nle h2, le_nlt h3]
  · simp [putA, h]
  · simp [putI, h, one, nle h2, nle h3]
  · simp [putA, h]
  · simp [putI, h]
  · simp [putA, h]
theorem bX2_removeAll_0_5 : okB cX2_removeAll RX2 0 [(5, 0, 0, 0, 0), (23, 9, 2, 0, 0), (0, 0, 0, 0, 0)] := And.intro ⟨_, dX2_removeAll_0, rfl⟩ (And.intro ⟨dX2_removeAll_1, fl_X2_9⟩ (And.intro ⟨_, dX2_removeAll_4, by decide⟩ trivial))
theorem bX2_removeAll_8_13 : okB cX2_removeAll RX2 8 [(5, 0, 0, 0, 0), (0, 0, 0, 0, 0), (24, 15, 2, 1, 0)] := And.intro ⟨_, dX2_removeAll_8, rfl⟩ (And.intro ⟨_, dX2_removeAll_9, by decide⟩ (And.intro ⟨dX2_removeAll_10, fl_X2_15, rfl, rfl⟩ trivial))
set_option maxHeartbeats 4000000 in
set_option maxRecDepth 100000 in
theorem k_X2_removeAll (l : Launch) (D : va_G) (ads : AD) (I A : HI) (po : Option AV → HI → HI → Prop)
    (hv : po none (up2 I 1 1 0) (filA A 2 100 (0 : Int32))) : Ct l yX2_removeAll cX2_removeAll 1 none 1 23 D ads shp [.inr (some 1)] I A po := by
  refine Ct_of (by decide) (Nat.le_of_ble_eq_true rfl) ?_
  intro p e s m args below meth c hC hr
  replace hC : CX p s m args meth c cX2_removeAll 1 RX2 (AdS ads s.heap.size) := hC
  show Gm p l e s m args below meth c D ads 1 23 1 po I A 0 [some (.inr (some 1))] []
  refine g_blk hC _ bX2_removeAll_0_5 (pc' := 5) (ls' := [some (.inr (some 1))]) (st' := [.inl 0, .inr (some 2)]) (I' := I) rfl rfl ?_
  refine g_callS hC (c_J7_fill_53178 l D ads I A 2 (0 : Int32) 100 (rfl) (by decide)) dX2_removeAll_5 nm_J7_fill_53178 wl_X2_31 wt_J7_fill_53178 wn_J7 wc_J7_fill_53178 ⟨by decide, by decide⟩ (as := [.inr (some 2), .inl 0]) (rest := []) rfl (Nat.le_of_ble_eq_true rfl) ⟨Nat.le_refl _, Nat.le_refl _⟩ (k_qN ?_)
  refine g_blk hC _ bX2_removeAll_8_13 (pc' := 13) (ls' := [some (.inr (some 1))]) (st' := []) (I' := up2 I 1 1 0) rfl rfl ?_
  exact g_retv hC hr dX2_removeAll_13 hv
set_option maxHeartbeats 4000000 in
set_option maxRecDepth 100000 in
theorem c_X2_removeAll (l : Launch) (D : va_G) (ads : AD) (I A : HI) : Ct l yX2_removeAll cX2_removeAll 1 none 1 23 D ads shp [.inr (some 1)] I A (qN (up2 I 1 1 0) (filA A 2 100 0)) := by
  exact k_X2_removeAll l D ads I A _ (qN_i rfl rfl)
theorem bX2_sum_0_13 : okB cX2_sum RX2 0 [(0, 0, 0, 0, 0), (7, 1, 0, 0, 0), (5, 0, 0, 0, 0), (23, 9, 2, 0, 0), (9, 2, 0, 0, 0), (5, 2, 0, 0, 0), (27, 0, 0, 0, 0), (7, 3, 0, 0, 0), (0, 0, 0, 0, 0), (8, 4, 0, 0, 0)] := And.intro ⟨_, dX2_sum_0, by decide⟩ (And.intro ⟨_, dX2_sum_1, rfl⟩ (And.intro ⟨_, dX2_sum_2, rfl⟩ (And.intro ⟨dX2_sum_3, fl_X2_9⟩ (And.intro ⟨_, dX2_sum_6, rfl⟩ (And.intro ⟨_, dX2_sum_7, rfl⟩ (And.intro dX2_sum_8 (And.intro ⟨_, dX2_sum_9, rfl⟩ (And.intro ⟨_, dX2_sum_10, by decide⟩ (And.intro dX2_sum_11 trivial)))))))))
theorem bX2_sum_13_16 : okB cX2_sum RX2 13 [(4, 4, 0, 0, 0), (3, 3, 0, 0, 0)] := And.intro dX2_sum_13 (And.intro ⟨_, dX2_sum_15, rfl⟩ trivial)
theorem bX2_sum_36_37 : okB cX2_sum RX2 36 [(3, 1, 0, 0, 0)] := And.intro ⟨_, dX2_sum_36, rfl⟩ trivial
theorem bX2_sum_19_22 : okB cX2_sum RX2 19 [(5, 2, 0, 0, 0), (4, 4, 0, 0, 0)] := And.intro ⟨_, dX2_sum_19, rfl⟩ (And.intro dX2_sum_20 trivial)
theorem bX2_sum_23_33 : okB cX2_sum RX2 23 [(8, 5, 0, 0, 0), (3, 1, 0, 0, 0), (4, 5, 0, 0, 0), (12, 0, 0, 0, 0), (7, 1, 0, 0, 0), (11, 4, 0, 0, 1)] := And.intro dX2_sum_23 (And.intro ⟨_, dX2_sum_25, rfl⟩ (And.intro dX2_sum_26 (And.intro dX2_sum_28 (And.intro ⟨_, dX2_sum_29, rfl⟩ (And.intro ⟨_, dX2_sum_30, by decide⟩ trivial)))))
set_option maxHeartbeats 4000000 in
set_option maxRecDepth 100000 in
theorem k_X2_sum (l : Launch) (D : va_G) (ads : AD) (I A : HI) (po : Option AV → HI → HI → Prop) (Iv13 : Int32 → Int32 → Prop) (mu13 : Int32 → Int32 → Nat)
    (hv : (Iv13 0 0 ∧ ∀ (x1_13 : Int32) (x4_13 : Int32), Iv13 x1_13 x4_13 → (((Int32.ofNat 100) ≤ x4_13 → po (some (.inl x1_13)) I A) ∧ (¬ (Int32.ofNat 100) ≤ x4_13 → (vp_in x4_13 100 ∧ (Iv13 (x1_13 + (A 2 x4_13.toNatClampNeg)) (x4_13 + 1) ∧ mu13 (x1_13 + (A 2 x4_13.toNatClampNeg)) (x4_13 + 1) < mu13 x1_13 x4_13)))))) : Ct l yX2_sum cX2_sum 6 (some .int) 0 0 D ads shp [.inr (some 1)] I A po := by
  refine Ct_of (by decide) (Nat.le_of_ble_eq_true rfl) ?_
  intro p e s m args below meth c hC hr
  replace hC : CX p s m args meth c cX2_sum 6 RX2 (AdS ads s.heap.size) := hC
  show Gm p l e s m args below meth c D ads 0 0 6 po I A 0 [some (.inr (some 1)), none, none, none, none, none] []
  refine g_blk hC _ bX2_sum_0_13 (pc' := 13) (ls' := [some (.inr (some 1)), some (.inl 0), some (.inr (some 2)), some (.inl (Int32.ofNat 100)), some (.inl 0), none]) (st' := []) (I' := I) rfl rfl ?_
  obtain ⟨hi13, hb13⟩ := hv
  have L13 : ∀ (n : Nat) (x1_13 : Int32) (x4_13 : Int32), Iv13 x1_13 x4_13 → mu13 x1_13 x4_13 < n → Gm p l e s m args below meth c D ads 0 0 6 po I A 13 [none, some (.inl x1_13), some (.inr (some 2)), some (.inl (Int32.ofNat 100)), some (.inl x4_13), none] [] := by
    intro n
    induction n with
    | zero => intro x1_13 x4_13 _ hn; exact absurd hn (Nat.not_lt_zero _)
    | succ n ih13 =>
      intro x1_13 x4_13 hv hn13
      replace hv := hb13 x1_13 x4_13 hv
      skip
      refine g_blk hC _ bX2_sum_13_16 (pc' := 16) (ls' := [none, some (.inl x1_13), some (.inr (some 2)), some (.inl (Int32.ofNat 100)), some (.inl x4_13), none]) (st' := [.inl (Int32.ofNat 100), .inl x4_13]) (I' := I) rfl rfl ?_
      obtain ⟨hv1, hv2⟩ := hv
      refine g_cge hC dX2_sum_16 (tgt := 36) (by decide) (fun hc => ?_) (fun hc => ?_)
      · have hv := hv1 hc
        clear hv1 hv2 hc
        refine g_blk hC _ bX2_sum_36_37 (pc' := 37) (ls' := [none, some (.inl x1_13), some (.inr (some 2)), some (.inl (Int32.ofNat 100)), some (.inl x4_13), none]) (st' := [.inl x1_13]) (I' := I) rfl rfl ?_
        exact g_reti hC hr rfl dX2_sum_37 hv
      · have hv := hv2 hc
        clear hv1 hv2 hc
        refine g_blk hC _ bX2_sum_19_22 (pc' := 22) (ls' := [none, some (.inl x1_13), some (.inr (some 2)), some (.inl (Int32.ofNat 100)), some (.inl x4_13), none]) (st' := [.inl x4_13, .inr (some 2)]) (I' := I) rfl rfl ?_
        obtain ⟨hi, hv⟩ := hv
        refine g_iald hC dX2_sum_22 (rfl) hi ?_
        clear hi
        refine g_blk hC _ bX2_sum_23_33 (pc' := 33) (ls' := [none, some (.inl (x1_13 + (A 2 x4_13.toNatClampNeg))), some (.inr (some 2)), some (.inl (Int32.ofNat 100)), some (.inl (x4_13 + 1)), some (.inl (A 2 x4_13.toNatClampNeg))]) (st' := []) (I' := I) rfl rfl ?_
        refine g_goto hC dX2_sum_33 (tgt := 13) (by decide) ?_
        exact g_weak (ls1 := [none, some (.inl (x1_13 + (A 2 x4_13.toNatClampNeg))), some (.inr (some 2)), some (.inl (Int32.ofNat 100)), some (.inl (x4_13 + 1)), none]) rfl (And.intro rfl (And.intro rfl (And.intro rfl (And.intro rfl trivial)))) (ih13 (x1_13 + (A 2 x4_13.toNatClampNeg)) (x4_13 + 1) hv.1 (Nat.lt_of_lt_of_le hv.2 (Nat.le_of_lt_succ hn13)))
  exact g_weak (ls1 := [none, some (.inl 0), some (.inr (some 2)), some (.inl (Int32.ofNat 100)), some (.inl 0), none]) rfl (And.intro rfl (And.intro rfl (And.intro rfl (And.intro rfl trivial)))) (L13 _ 0 0 hi13 (Nat.lt_succ_self _))
set_option maxHeartbeats 4000000 in
set_option maxRecDepth 100000 in
theorem c_X2_sum (l : Launch) (D : va_G) (ads : AD) (I A : HI) : Ct l yX2_sum cX2_sum 6 (some .int) 0 0 D ads shp [.inr (some 1)] I A (qI (sm32 (A 2) 100) I A) := by
  refine k_X2_sum l D ads I A _ (fun x i => ∃ j, j ≤ 100 ∧ i = nI j ∧ x = sm32 (A 2) j) (fun _ i => 100 - i.toNatClampNeg) ⟨⟨0, Nat.zero_le _, rfl, rfl⟩, ?_⟩
  rintro x i ⟨j, h1, rfl, rfl⟩
  refine ⟨fun h => ?_, fun h => ?_⟩
  · have e := cn_eq rfl h1 (by decide) h
    subst e
    exact qI_i rfl
  · have hj := cn_lt rfl h1 (by decide) h
    exact ⟨vp_in_nI hj (by decide), ⟨j + 1, hj, nI_1 j, by rw [cl_n (by omega)]; rfl⟩, cn_mu hj (by decide)⟩
theorem bX2_comingTo_0_4 : okB cX2_comingTo RX2 0 [(0, 0, 0, 0, 0), (7, 2, 0, 0, 0), (0, 0, 0, 0, 0), (7, 3, 0, 0, 0)] := And.intro ⟨_, dX2_comingTo_0, by decide⟩ (And.intro ⟨_, dX2_comingTo_1, rfl⟩ (And.intro ⟨_, dX2_comingTo_2, by decide⟩ (And.intro ⟨_, dX2_comingTo_3, rfl⟩ trivial)))
theorem bX2_comingTo_4_7 : okB cX2_comingTo RX2 4 [(3, 3, 0, 0, 0), (1, 0, 0, 0, 10)] := And.intro ⟨_, dX2_comingTo_4, rfl⟩ (And.intro ⟨_, dX2_comingTo_5, by decide⟩ trivial)
theorem bX2_comingTo_25_26 : okB cX2_comingTo RX2 25 [(3, 2, 0, 0, 0)] := And.intro ⟨_, dX2_comingTo_25, rfl⟩ trivial
theorem bX2_comingTo_10_14 : okB cX2_comingTo RX2 10 [(3, 2, 0, 0, 0), (5, 0, 0, 0, 0), (3, 3, 0, 0, 0), (3, 1, 0, 0, 0)] := And.intro ⟨_, dX2_comingTo_10, rfl⟩ (And.intro ⟨_, dX2_comingTo_11, rfl⟩ (And.intro ⟨_, dX2_comingTo_12, rfl⟩ (And.intro ⟨_, dX2_comingTo_13, rfl⟩ trivial)))
theorem bX2_comingTo_17_22 : okB cX2_comingTo RX2 17 [(12, 0, 0, 0, 0), (7, 2, 0, 0, 0), (11, 3, 0, 0, 1)] := And.intro dX2_comingTo_17 (And.intro ⟨_, dX2_comingTo_18, rfl⟩ (And.intro ⟨_, dX2_comingTo_19, by decide⟩ trivial))
set_option maxHeartbeats 4000000 in
set_option maxRecDepth 100000 in
theorem k_X2_comingTo (l : Launch) (D : va_G) (ads : AD) (I A : HI) (a1 : Int32) (po : Option AV → HI → HI → Prop) (Iv4 : Int32 → Int32 → Prop) (mu4 : Int32 → Int32 → Nat)
    (hv : (Iv4 0 0 ∧ ∀ (x2_4 : Int32) (x3_4 : Int32), Iv4 x2_4 x3_4 → ((10 ≤ x3_4 → po (some (.inl x2_4)) I A) ∧ (¬ 10 ≤ x3_4 → (Iv4 (x2_4 + (btw A x3_4 a1)) (x3_4 + 1) ∧ mu4 (x2_4 + (btw A x3_4 a1)) (x3_4 + 1) < mu4 x2_4 x3_4))))) : Ct l yX2_comingTo cX2_comingTo 4 (some .int) 2 43 D ads shp [.inr (some 1), .inl a1] I A po := by
  refine Ct_of (by decide) (Nat.le_of_ble_eq_true rfl) ?_
  intro p e s m args below meth c hC hr
  replace hC : CX p s m args meth c cX2_comingTo 4 RX2 (AdS ads s.heap.size) := hC
  show Gm p l e s m args below meth c D ads 2 43 4 po I A 0 [some (.inr (some 1)), some (.inl a1), none, none] []
  refine g_blk hC _ bX2_comingTo_0_4 (pc' := 4) (ls' := [some (.inr (some 1)), some (.inl a1), some (.inl 0), some (.inl 0)]) (st' := []) (I' := I) rfl rfl ?_
  obtain ⟨hi4, hb4⟩ := hv
  have L4 : ∀ (n : Nat) (x2_4 : Int32) (x3_4 : Int32), Iv4 x2_4 x3_4 → mu4 x2_4 x3_4 < n → Gm p l e s m args below meth c D ads 2 43 4 po I A 4 [some (.inr (some 1)), some (.inl a1), some (.inl x2_4), some (.inl x3_4)] [] := by
    intro n
    induction n with
    | zero => intro x2_4 x3_4 _ hn; exact absurd hn (Nat.not_lt_zero _)
    | succ n ih4 =>
      intro x2_4 x3_4 hv hn4
      replace hv := hb4 x2_4 x3_4 hv
      skip
      refine g_blk hC _ bX2_comingTo_4_7 (pc' := 7) (ls' := [some (.inr (some 1)), some (.inl a1), some (.inl x2_4), some (.inl x3_4)]) (st' := [.inl 10, .inl x3_4]) (I' := I) rfl rfl ?_
      obtain ⟨hv1, hv2⟩ := hv
      refine g_cge hC dX2_comingTo_7 (tgt := 25) (by decide) (fun hc => ?_) (fun hc => ?_)
      · have hv := hv1 hc
        clear hv1 hv2 hc
        refine g_blk hC _ bX2_comingTo_25_26 (pc' := 26) (ls' := [some (.inr (some 1)), some (.inl a1), some (.inl x2_4), some (.inl x3_4)]) (st' := [.inl x2_4]) (I' := I) rfl rfl ?_
        exact g_reti hC hr rfl dX2_comingTo_26 hv
      · have hv := hv2 hc
        clear hv1 hv2 hc
        refine g_blk hC _ bX2_comingTo_10_14 (pc' := 14) (ls' := [some (.inr (some 1)), some (.inl a1), some (.inl x2_4), some (.inl x3_4)]) (st' := [.inl a1, .inl x3_4, .inr (some 1), .inl x2_4]) (I' := I) rfl rfl ?_
        refine g_callV hC (c_X2_between l D ads I A x3_4 a1) dX2_comingTo_14 nm_X2_between rfl rfl wl_X2_23 wi_X2_between ws_X2_between wn_X2 wc_X2_between ⟨by decide, by decide⟩ (as := [.inl x3_4, .inl a1]) (rest := [.inl x2_4]) rfl (Nat.le_of_ble_eq_true rfl) ⟨Nat.le_refl _, Nat.le_refl _⟩ (k_qI ?_)
        refine g_blk hC _ bX2_comingTo_17_22 (pc' := 22) (ls' := [some (.inr (some 1)), some (.inl a1), some (.inl (x2_4 + (btw A x3_4 a1))), some (.inl (x3_4 + 1))]) (st' := []) (I' := I) rfl rfl ?_
        refine g_goto hC dX2_comingTo_22 (tgt := 4) (by decide) ?_
        exact g_weak (ls1 := [some (.inr (some 1)), some (.inl a1), some (.inl (x2_4 + (btw A x3_4 a1))), some (.inl (x3_4 + 1))]) rfl (And.intro rfl (And.intro rfl (And.intro rfl (And.intro rfl trivial)))) (ih4 (x2_4 + (btw A x3_4 a1)) (x3_4 + 1) hv.1 (Nat.lt_of_lt_of_le hv.2 (Nat.le_of_lt_succ hn4)))
  exact g_weak (ls1 := [some (.inr (some 1)), some (.inl a1), some (.inl 0), some (.inl 0)]) rfl (And.intro rfl (And.intro rfl (And.intro rfl (And.intro rfl trivial)))) (L4 _ 0 0 hi4 (Nat.lt_succ_self _))
set_option maxHeartbeats 4000000 in
set_option maxRecDepth 100000 in
theorem c_X2_comingTo (l : Launch) (D : va_G) (ads : AD) (I A : HI) (a1 : Int32) : Ct l yX2_comingTo cX2_comingTo 4 (some .int) 2 43 D ads shp [.inr (some 1), .inl a1] I A (qI (sm32 (fun a => btw A (nI a) a1) 10) I A) := by
  refine k_X2_comingTo l D ads I A a1 _ (fun x i => ∃ j, j ≤ 10 ∧ i = nI j ∧ x = sm32 (fun a => btw A (nI a) a1) j) (fun _ i => 10 - i.toNatClampNeg) ⟨⟨0, Nat.zero_le _, rfl, rfl⟩, ?_⟩
  rintro x i ⟨j, h1, rfl, rfl⟩
  refine ⟨fun h => ?_, fun h => ?_⟩
  · have e := cn_eq rfl h1 (by decide) h
    subst e
    exact qI_i rfl
  · have hj := cn_lt rfl h1 (by decide) h
    exact ⟨⟨j + 1, hj, nI_1 j, rfl⟩, cn_mu hj (by decide)⟩
theorem bX2_goingFrom_0_4 : okB cX2_goingFrom RX2 0 [(0, 0, 0, 0, 0), (7, 2, 0, 0, 0), (0, 0, 0, 0, 0), (7, 3, 0, 0, 0)] := And.intro ⟨_, dX2_goingFrom_0, by decide⟩ (And.intro ⟨_, dX2_goingFrom_1, rfl⟩ (And.intro ⟨_, dX2_goingFrom_2, by decide⟩ (And.intro ⟨_, dX2_goingFrom_3, rfl⟩ trivial)))
theorem bX2_goingFrom_4_7 : okB cX2_goingFrom RX2 4 [(3, 3, 0, 0, 0), (1, 0, 0, 0, 10)] := And.intro ⟨_, dX2_goingFrom_4, rfl⟩ (And.intro ⟨_, dX2_goingFrom_5, by decide⟩ trivial)
theorem bX2_goingFrom_25_26 : okB cX2_goingFrom RX2 25 [(3, 2, 0, 0, 0)] := And.intro ⟨_, dX2_goingFrom_25, rfl⟩ trivial
theorem bX2_goingFrom_10_14 : okB cX2_goingFrom RX2 10 [(3, 2, 0, 0, 0), (5, 0, 0, 0, 0), (3, 1, 0, 0, 0), (3, 3, 0, 0, 0)] := And.intro ⟨_, dX2_goingFrom_10, rfl⟩ (And.intro ⟨_, dX2_goingFrom_11, rfl⟩ (And.intro ⟨_, dX2_goingFrom_12, rfl⟩ (And.intro ⟨_, dX2_goingFrom_13, rfl⟩ trivial)))
theorem bX2_goingFrom_17_22 : okB cX2_goingFrom RX2 17 [(12, 0, 0, 0, 0), (7, 2, 0, 0, 0), (11, 3, 0, 0, 1)] := And.intro dX2_goingFrom_17 (And.intro ⟨_, dX2_goingFrom_18, rfl⟩ (And.intro ⟨_, dX2_goingFrom_19, by decide⟩ trivial))
set_option maxHeartbeats 4000000 in
set_option maxRecDepth 100000 in
theorem k_X2_goingFrom (l : Launch) (D : va_G) (ads : AD) (I A : HI) (a1 : Int32) (po : Option AV → HI → HI → Prop) (Iv4 : Int32 → Int32 → Prop) (mu4 : Int32 → Int32 → Nat)
    (hv : (Iv4 0 0 ∧ ∀ (x2_4 : Int32) (x3_4 : Int32), Iv4 x2_4 x3_4 → ((10 ≤ x3_4 → po (some (.inl x2_4)) I A) ∧ (¬ 10 ≤ x3_4 → (Iv4 (x2_4 + (btw A a1 x3_4)) (x3_4 + 1) ∧ mu4 (x2_4 + (btw A a1 x3_4)) (x3_4 + 1) < mu4 x2_4 x3_4))))) : Ct l yX2_goingFrom cX2_goingFrom 4 (some .int) 2 43 D ads shp [.inr (some 1), .inl a1] I A po := by
  refine Ct_of (by decide) (Nat.le_of_ble_eq_true rfl) ?_
  intro p e s m args below meth c hC hr
  replace hC : CX p s m args meth c cX2_goingFrom 4 RX2 (AdS ads s.heap.size) := hC
  show Gm p l e s m args below meth c D ads 2 43 4 po I A 0 [some (.inr (some 1)), some (.inl a1), none, none] []
  refine g_blk hC _ bX2_goingFrom_0_4 (pc' := 4) (ls' := [some (.inr (some 1)), some (.inl a1), some (.inl 0), some (.inl 0)]) (st' := []) (I' := I) rfl rfl ?_
  obtain ⟨hi4, hb4⟩ := hv
  have L4 : ∀ (n : Nat) (x2_4 : Int32) (x3_4 : Int32), Iv4 x2_4 x3_4 → mu4 x2_4 x3_4 < n → Gm p l e s m args below meth c D ads 2 43 4 po I A 4 [some (.inr (some 1)), some (.inl a1), some (.inl x2_4), some (.inl x3_4)] [] := by
    intro n
    induction n with
    | zero => intro x2_4 x3_4 _ hn; exact absurd hn (Nat.not_lt_zero _)
    | succ n ih4 =>
      intro x2_4 x3_4 hv hn4
      replace hv := hb4 x2_4 x3_4 hv
      skip
      refine g_blk hC _ bX2_goingFrom_4_7 (pc' := 7) (ls' := [some (.inr (some 1)), some (.inl a1), some (.inl x2_4), some (.inl x3_4)]) (st' := [.inl 10, .inl x3_4]) (I' := I) rfl rfl ?_
      obtain ⟨hv1, hv2⟩ := hv
      refine g_cge hC dX2_goingFrom_7 (tgt := 25) (by decide) (fun hc => ?_) (fun hc => ?_)
      · have hv := hv1 hc
        clear hv1 hv2 hc
        refine g_blk hC _ bX2_goingFrom_25_26 (pc' := 26) (ls' := [some (.inr (some 1)), some (.inl a1), some (.inl x2_4), some (.inl x3_4)]) (st' := [.inl x2_4]) (I' := I) rfl rfl ?_
        exact g_reti hC hr rfl dX2_goingFrom_26 hv
      · have hv := hv2 hc
        clear hv1 hv2 hc
        refine g_blk hC _ bX2_goingFrom_10_14 (pc' := 14) (ls' := [some (.inr (some 1)), some (.inl a1), some (.inl x2_4), some (.inl x3_4)]) (st' := [.inl x3_4, .inl a1, .inr (some 1), .inl x2_4]) (I' := I) rfl rfl ?_
        refine g_callV hC (c_X2_between l D ads I A a1 x3_4) dX2_goingFrom_14 nm_X2_between rfl rfl wl_X2_23 wi_X2_between ws_X2_between wn_X2 wc_X2_between ⟨by decide, by decide⟩ (as := [.inl a1, .inl x3_4]) (rest := [.inl x2_4]) rfl (Nat.le_of_ble_eq_true rfl) ⟨Nat.le_refl _, Nat.le_refl _⟩ (k_qI ?_)
        refine g_blk hC _ bX2_goingFrom_17_22 (pc' := 22) (ls' := [some (.inr (some 1)), some (.inl a1), some (.inl (x2_4 + (btw A a1 x3_4))), some (.inl (x3_4 + 1))]) (st' := []) (I' := I) rfl rfl ?_
        refine g_goto hC dX2_goingFrom_22 (tgt := 4) (by decide) ?_
        exact g_weak (ls1 := [some (.inr (some 1)), some (.inl a1), some (.inl (x2_4 + (btw A a1 x3_4))), some (.inl (x3_4 + 1))]) rfl (And.intro rfl (And.intro rfl (And.intro rfl (And.intro rfl trivial)))) (ih4 (x2_4 + (btw A a1 x3_4)) (x3_4 + 1) hv.1 (Nat.lt_of_lt_of_le hv.2 (Nat.le_of_lt_succ hn4)))
  exact g_weak (ls1 := [some (.inr (some 1)), some (.inl a1), some (.inl 0), some (.inl 0)]) rfl (And.intro rfl (And.intro rfl (And.intro rfl (And.intro rfl trivial)))) (L4 _ 0 0 hi4 (Nat.lt_succ_self _))
set_option maxHeartbeats 4000000 in
set_option maxRecDepth 100000 in
theorem c_X2_goingFrom (l : Launch) (D : va_G) (ads : AD) (I A : HI) (a1 : Int32) : Ct l yX2_goingFrom cX2_goingFrom 4 (some .int) 2 43 D ads shp [.inr (some 1), .inl a1] I A (qI (sm32 (fun b => btw A a1 (nI b)) 10) I A) := by
  refine k_X2_goingFrom l D ads I A a1 _ (fun x i => ∃ j, j ≤ 10 ∧ i = nI j ∧ x = sm32 (fun b => btw A a1 (nI b)) j) (fun _ i => 10 - i.toNatClampNeg) ⟨⟨0, Nat.zero_le _, rfl, rfl⟩, ?_⟩
  rintro x i ⟨j, h1, rfl, rfl⟩
  refine ⟨fun h => ?_, fun h => ?_⟩
  · have e := cn_eq rfl h1 (by decide) h
    subst e
    exact qI_i rfl
  · have hj := cn_lt rfl h1 (by decide) h
    exact ⟨⟨j + 1, hj, nI_1 j, rfl⟩, cn_mu hj (by decide)⟩
theorem bX2_uses_0_2 : okB cX2_uses RX2 0 [(0, 0, 0, 0, 0), (7, 2, 0, 0, 0)] := And.intro ⟨_, dX2_uses_0, by decide⟩ (And.intro ⟨_, dX2_uses_1, rfl⟩ trivial)
theorem bX2_uses_2_5 : okB cX2_uses RX2 2 [(3, 2, 0, 0, 0), (1, 0, 0, 0, 10)] := And.intro ⟨_, dX2_uses_2, rfl⟩ (And.intro ⟨_, dX2_uses_3, by decide⟩ trivial)
theorem bX2_uses_44_45 : okB cX2_uses RX2 44 [(0, 0, 0, 0, 0)] := And.intro ⟨_, dX2_uses_44, by decide⟩ trivial
theorem bX2_uses_8_18 : okB cX2_uses RX2 8 [(5, 0, 0, 0, 0), (23, 9, 2, 0, 0), (3, 1, 0, 0, 0), (1, 0, 0, 0, 10), (14, 0, 0, 0, 0), (3, 2, 0, 0, 0), (12, 0, 0, 0, 0)] := And.intro ⟨_, dX2_uses_8, rfl⟩ (And.intro ⟨dX2_uses_9, fl_X2_9⟩ (And.intro ⟨_, dX2_uses_12, rfl⟩ (And.intro ⟨_, dX2_uses_13, by decide⟩ (And.intro dX2_uses_15 (And.intro ⟨_, dX2_uses_16, rfl⟩ (And.intro dX2_uses_17 trivial))))))
theorem bX2_uses_36_37 : okB cX2_uses RX2 36 [(0, 0, 0, 0, 1)] := And.intro ⟨_, dX2_uses_36, by decide⟩ trivial
theorem bX2_uses_22_32 : okB cX2_uses RX2 22 [(5, 0, 0, 0, 0), (23, 9, 2, 0, 0), (3, 2, 0, 0, 0), (1, 0, 0, 0, 10), (14, 0, 0, 0, 0), (3, 1, 0, 0, 0), (12, 0, 0, 0, 0)] := And.intro ⟨_, dX2_uses_22, rfl⟩ (And.intro ⟨dX2_uses_23, fl_X2_9⟩ (And.intro ⟨_, dX2_uses_26, rfl⟩ (And.intro ⟨_, dX2_uses_27, by decide⟩ (And.intro dX2_uses_29 (And.intro ⟨_, dX2_uses_30, rfl⟩ (And.intro dX2_uses_31 trivial))))))
theorem bX2_uses_38_41 : okB cX2_uses RX2 38 [(11, 2, 0, 0, 1)] := And.intro ⟨_, dX2_uses_38, by decide⟩ trivial
set_option maxHeartbeats 4000000 in
set_option maxRecDepth 100000 in
theorem k_X2_uses (l : Launch) (D : va_G) (ads : AD) (I A : HI) (a1 : Int32) (po : Option AV → HI → HI → Prop) (Iv2 : Int32 → Prop) (mu2 : Int32 → Nat)
    (hv : (Iv2 0 ∧ ∀ (x2_2 : Int32), Iv2 x2_2 → ((10 ≤ x2_2 → po (some (.inl 0)) I A) ∧ (¬ 10 ≤ x2_2 → (vp_in ((a1 * 10) + x2_2) 100 ∧ ((0 < (A 2 ((a1 * 10) + x2_2).toNatClampNeg) → po (some (.inl 1)) I A) ∧ (¬ 0 < (A 2 ((a1 * 10) + x2_2).toNatClampNeg) → (vp_in ((x2_2 * 10) + a1) 100 ∧ (((A 2 ((x2_2 * 10) + a1).toNatClampNeg) ≤ 0 → (Iv2 (x2_2 + 1) ∧ mu2 (x2_2 + 1) < mu2 x2_2)) ∧ (¬ (A 2 ((x2_2 * 10) + a1).toNatClampNeg) ≤ 0 → po (some (.inl 1)) I A)))))))))) : Ct l yX2_uses cX2_uses 3 (some .boolean) 0 0 D ads shp [.inr (some 1), .inl a1] I A po := by
  refine Ct_of (by decide) (Nat.le_of_ble_eq_true rfl) ?_
  intro p e s m args below meth c hC hr
  replace hC : CX p s m args meth c cX2_uses 3 RX2 (AdS ads s.heap.size) := hC
  show Gm p l e s m args below meth c D ads 0 0 3 po I A 0 [some (.inr (some 1)), some (.inl a1), none] []
  refine g_blk hC _ bX2_uses_0_2 (pc' := 2) (ls' := [some (.inr (some 1)), some (.inl a1), some (.inl 0)]) (st' := []) (I' := I) rfl rfl ?_
  obtain ⟨hi2, hb2⟩ := hv
  have L2 : ∀ (n : Nat) (x2_2 : Int32), Iv2 x2_2 → mu2 x2_2 < n → Gm p l e s m args below meth c D ads 0 0 3 po I A 2 [some (.inr (some 1)), some (.inl a1), some (.inl x2_2)] [] := by
    intro n
    induction n with
    | zero => intro x2_2 _ hn; exact absurd hn (Nat.not_lt_zero _)
    | succ n ih2 =>
      intro x2_2 hv hn2
      replace hv := hb2 x2_2 hv
      skip
      refine g_blk hC _ bX2_uses_2_5 (pc' := 5) (ls' := [some (.inr (some 1)), some (.inl a1), some (.inl x2_2)]) (st' := [.inl 10, .inl x2_2]) (I' := I) rfl rfl ?_
      obtain ⟨hv1, hv2⟩ := hv
      refine g_cge hC dX2_uses_5 (tgt := 44) (by decide) (fun hc => ?_) (fun hc => ?_)
      · have hv := hv1 hc
        clear hv1 hv2 hc
        refine g_blk hC _ bX2_uses_44_45 (pc' := 45) (ls' := [some (.inr (some 1)), some (.inl a1), some (.inl x2_2)]) (st' := [.inl 0]) (I' := I) rfl rfl ?_
        exact g_reti hC hr (by decide) dX2_uses_45 hv
      · have hv := hv2 hc
        clear hv1 hv2 hc
        refine g_blk hC _ bX2_uses_8_18 (pc' := 18) (ls' := [some (.inr (some 1)), some (.inl a1), some (.inl x2_2)]) (st' := [.inl ((a1 * 10) + x2_2), .inr (some 2)]) (I' := I) rfl rfl ?_
        obtain ⟨hi, hv⟩ := hv
        refine g_iald hC dX2_uses_18 (rfl) hi ?_
        clear hi
        obtain ⟨hv1, hv2⟩ := hv
        refine g_ifgt hC dX2_uses_19 (tgt := 36) (by decide) (fun hc => ?_) (fun hc => ?_)
        · have hv := hv1 hc
          clear hv1 hv2 hc
          refine g_blk hC _ bX2_uses_36_37 (pc' := 37) (ls' := [some (.inr (some 1)), some (.inl a1), some (.inl x2_2)]) (st' := [.inl 1]) (I' := I) rfl rfl ?_
          exact g_reti hC hr (by decide) dX2_uses_37 hv
        · have hv := hv2 hc
          clear hv1 hv2 hc
          refine g_blk hC _ bX2_uses_22_32 (pc' := 32) (ls' := [some (.inr (some 1)), some (.inl a1), some (.inl x2_2)]) (st' := [.inl ((x2_2 * 10) + a1), .inr (some 2)]) (I' := I) rfl rfl ?_
          obtain ⟨hi, hv⟩ := hv
          refine g_iald hC dX2_uses_32 (rfl) hi ?_
          clear hi
          obtain ⟨hv1, hv2⟩ := hv
          refine g_ifle hC dX2_uses_33 (tgt := 38) (by decide) (fun hc => ?_) (fun hc => ?_)
          · have hv := hv1 hc
            clear hv1 hv2 hc
            refine g_blk hC _ bX2_uses_38_41 (pc' := 41) (ls' := [some (.inr (some 1)), some (.inl a1), some (.inl (x2_2 + 1))]) (st' := []) (I' := I) rfl rfl ?_
            refine g_goto hC dX2_uses_41 (tgt := 2) (by decide) ?_
            exact g_weak (ls1 := [some (.inr (some 1)), some (.inl a1), some (.inl (x2_2 + 1))]) rfl (And.intro rfl (And.intro rfl (And.intro rfl trivial))) (ih2 (x2_2 + 1) hv.1 (Nat.lt_of_lt_of_le hv.2 (Nat.le_of_lt_succ hn2)))
          · have hv := hv2 hc
            clear hv1 hv2 hc
            refine g_blk hC _ bX2_uses_36_37 (pc' := 37) (ls' := [some (.inr (some 1)), some (.inl a1), some (.inl x2_2)]) (st' := [.inl 1]) (I' := I) rfl rfl ?_
            exact g_reti hC hr (by decide) dX2_uses_37 hv
  exact g_weak (ls1 := [some (.inr (some 1)), some (.inl a1), some (.inl 0)]) rfl (And.intro rfl (And.intro rfl (And.intro rfl trivial))) (L2 _ 0 hi2 (Nat.lt_succ_self _))
set_option maxHeartbeats 4000000 in
set_option maxRecDepth 100000 in
theorem c_X2_uses (l : Launch) (D : va_G) (ads : AD) (I A : HI) (a1 : Int32) (hp : vp_in a1 10) : Ct l yX2_uses cX2_uses 3 (some .boolean) 0 0 D ads shp [.inr (some 1), .inl a1] I A (qI (usI (A 2) a1.toNatClampNeg) I A) := by
  obtain ⟨p, hp9, rfl⟩ := vp_in_of hp (by decide)
  rw [cl_n (by omega)]
  refine k_X2_uses l D ads I A (nI p) _ (fun i => ∃ j, j ≤ 10 ∧ i = nI j ∧ ∀ q, q < j → ¬ 0 < A 2 (10 * p + q) ∧ ¬ 0 < A 2 (10 * q + p)) (fun i => 10 - i.toNatClampNeg) ⟨⟨0, Nat.zero_le _, rfl, fun q h => absurd h (Nat.not_lt_zero q)⟩, ?_⟩
  rintro i ⟨j, h1, rfl, h2⟩
  have yes : ∀ q, q < 10 → (0 < A 2 (10 * p + q) ∨ 0 < A 2 (10 * q + p)) → (1 : Int32) = usI (A 2) p := by
    intro q hq h
    unfold usI
    rw [if_pos]
    unfold usd
    rw [List.any_eq_true]
    refine ⟨q, List.mem_range.mpr hq, ?_⟩
    rcases h with h | h <;> simp [h]
  refine ⟨fun h => ?_, fun h => ?_⟩
  · have e := cn_eq rfl h1 (by decide) h
    subst e
    refine qI_i ?_
    unfold usI
    rw [if_neg]
    unfold usd
    rw [List.any_eq_true]
    rintro ⟨q, hq, z⟩
    have := h2 q (List.mem_range.mp hq)
    simp [this.1, this.2] at z
  · have hj := cn_lt rfl h1 (by decide) h
    rw [ix_a, ix_a, cl_n (by omega), cl_n (by omega)]
    refine ⟨vp_in_nI (by omega) (by decide), fun h3 => qI_i (yes j hj (Or.inl h3)), fun h3 => ⟨vp_in_nI (by omega) (by decide), fun h4 => ⟨⟨j + 1, hj, nI_1 j, fun q hq => ?_⟩, cn_mu hj (by decide)⟩, fun h4 => qI_i (yes j hj (Or.inr (nle h4)))⟩⟩
    rcases Nat.lt_succ_iff_lt_or_eq.mp hq with z | z
    · exact h2 q z
    · subst z
      exact ⟨h3, le_nlt h4⟩
