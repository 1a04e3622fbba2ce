/-! Changes' own methods, while it is made: a tiny world -/
def tw (t e r T E Q : Nat) : SH := [.inr (.inr (0, [none, none, some (some 1), some (some 2), some (some 3)])), .inl t, .inl e, .inl r, .inr (.inr (0, [none, none, some (some 5), some (some 6), some (some 7)])), .inl T, .inl E, .inl Q]
abbrev Gs (sh : SH) (p : Program) (l : Launch) (e : Env) (s : State) (m : MethodId) (args : Array Value) (below : List Frame) (meth : Method) (c : Code) (D : va_G) (ads : AD) (fr lc nL : Nat) (po : Option AV → HI → HI → Prop) (I A : HI) (pc : Nat) (ls : List (Option AV)) (st : List AV) : Prop :=
  G p l e { frames := fr, cells := 0, slots := 0, locals := lc } s m args below meth c (MQ below (CPost D ads sh s.heap.size po) args s 0 0 (AdS ads s.heap.size)) D (AdS ads s.heap.size) nL 0 0 ads sh I A pc ls st
theorem wl_X0_39 : Cond.methodLink RX0 39 yX0_thingAt ∈ gtbl := gt_of (List.mem_append_right _ (List.mem_of_getElem? (i := 183) (by decide +kernel))) (by decide +kernel)
set_option maxHeartbeats 4000000 in
set_option maxRecDepth 100000 in
theorem kt_thing0 (l : Launch) (D : va_G) (ads : AD) (I A : HI) {zt ze zr yt ye yr : Nat} (a1 : Int32) (a2 : Int32) (po : Option AV → HI → HI → Prop)
    (hv : (vp_in ((a1 * (I 4 0)) + a2) yt ∧ po (some (.inl (A 5 ((a1 * (I 4 0)) + a2).toNatClampNeg))) I A)) : Ct l yX0_thingAt cX0_thingAt 3 (some .int) 0 0 D ads (tw zt ze zr yt ye yr) [.inr (some 4), .inl a1, .inl a2] I A po := by
  refine Ct_of (by decide) (Nat.le_of_ble_eq_true rfl) ?_
  intro p e s m args below meth c hC hr
  replace hC : CX p s m args meth c cX0_thingAt 3 RX0 (AdS ads s.heap.size) := hC
  show Gs (tw zt ze zr yt ye yr) p l e s m args below meth c D ads 0 0 3 po I A 0 [some (.inr (some 4)), some (.inl a1), some (.inl a2)] []
  refine g_blk hC _ bX0_thingAt_0_12 (pc' := 12) (ls' := [some (.inr (some 4)), some (.inl a1), some (.inl a2)]) (st' := [.inl ((a1 * (I 4 0)) + a2), .inr (some 5)]) (I' := I) rfl rfl ?_
  obtain ⟨hi, hv⟩ := hv
  refine g_iald hC dX0_thingAt_12 (rfl) hi ?_
  clear hi
  exact g_reti hC hr rfl dX0_thingAt_13 hv
theorem ct_thing0 (l : Launch) (D : va_G) (ads : AD) (I A : HI) (a1 a2 : Int32) {zt ze zr yt ye yr : Nat} (hp : vp_in (a1 * I 4 0 + a2) yt) : Ct l yX0_thingAt cX0_thingAt 3 (some .int) 0 0 D ads (tw zt ze zr yt ye yr) [.inr (some 4), .inl a1, .inl a2] I A (qI (A 5 (a1 * I 4 0 + a2).toNatClampNeg) I A) := kt_thing0 l D ads I A a1 a2 _ ⟨hp, qI_i rfl⟩
set_option maxHeartbeats 4000000 in
set_option maxRecDepth 100000 in
theorem kt_thing1 (l : Launch) (D : va_G) (ads : AD) (I A : HI) {zt ze zr yt ye yr : Nat} (a1 : Int32) (a2 : Int32) (po : Option AV → HI → HI → Prop)
    (hv : (vp_in ((a1 * (I 0 0)) + a2) zt ∧ po (some (.inl (A 1 ((a1 * (I 0 0)) + a2).toNatClampNeg))) I A)) : Ct l yX0_thingAt cX0_thingAt 3 (some .int) 0 0 D ads (tw zt ze zr yt ye yr) [.inr (some 0), .inl a1, .inl a2] I A po := by
  refine Ct_of (by decide) (Nat.le_of_ble_eq_true rfl) ?_
  intro p e s m args below meth c hC hr
  replace hC : CX p s m args meth c cX0_thingAt 3 RX0 (AdS ads s.heap.size) := hC
  show Gs (tw zt ze zr yt ye yr) p l e s m args below meth c D ads 0 0 3 po I A 0 [some (.inr (some 0)), some (.inl a1), some (.inl a2)] []
  refine g_blk hC _ bX0_thingAt_0_12 (pc' := 12) (ls' := [some (.inr (some 0)), some (.inl a1), some (.inl a2)]) (st' := [.inl ((a1 * (I 0 0)) + a2), .inr (some 1)]) (I' := I) rfl rfl ?_
  obtain ⟨hi, hv⟩ := hv
  refine g_iald hC dX0_thingAt_12 (rfl) hi ?_
  clear hi
  exact g_reti hC hr rfl dX0_thingAt_13 hv
theorem ct_thing1 (l : Launch) (D : va_G) (ads : AD) (I A : HI) (a1 a2 : Int32) {zt ze zr yt ye yr : Nat} (hp : vp_in (a1 * I 0 0 + a2) zt) : Ct l yX0_thingAt cX0_thingAt 3 (some .int) 0 0 D ads (tw zt ze zr yt ye yr) [.inr (some 0), .inl a1, .inl a2] I A (qI (A 1 (a1 * I 0 0 + a2).toNatClampNeg) I A) := kt_thing1 l D ads I A a1 a2 _ ⟨hp, qI_i rfl⟩
set_option maxHeartbeats 4000000 in
set_option maxRecDepth 100000 in
theorem kt_pair (l : Launch) (D : va_G) (ads : AD) (I A : HI) {zt ze zr yt ye yr : Nat} (a1 : Int32) (a2 : Int32) (po : Option AV → HI → HI → Prop)
    (hv : po (some (.inl ((a1 * 5) + a2))) I A) : Ct l yX8_pair cX8_pair 2 (some .int) 0 0 D ads (tw zt ze zr yt ye yr) [.inl a1, .inl a2] I A po := by
  refine Ct_of (by decide) (Nat.le_of_ble_eq_true rfl) ?_
  intro p e s m args below meth c hC hr
  replace hC : CX p s m args meth c cX8_pair 2 RX8 (AdS ads s.heap.size) := hC
  show Gs (tw zt ze zr yt ye yr) p l e s m args below meth c D ads 0 0 2 po I A 0 [some (.inl a1), some (.inl a2)] []
  refine g_blk hC _ bX8_pair_0_5 (pc' := 5) (ls' := [some (.inl a1), some (.inl a2)]) (st' := [.inl ((a1 * 5) + a2)]) (I' := I) rfl rfl ?_
  exact g_reti hC hr rfl dX8_pair_5 hv
theorem ct_pair (l : Launch) (D : va_G) (ads : AD) (I A : HI) (a1 a2 : Int32) {zt ze zr yt ye yr : Nat} : Ct l yX8_pair cX8_pair 2 (some .int) 0 0 D ads (tw zt ze zr yt ye yr) [.inl a1, .inl a2] I A (qI (a1 * 5 + a2) I A) := kt_pair l D ads I A a1 a2 _ (qI_i rfl)
theorem bX0_insert_0_3 : okB cX0_insert RX0 0 [(0, 0, 0, 0, 0), (8, 5, 0, 0, 0)] := And.intro ⟨_, dX0_insert_0, by decide⟩ (And.intro dX0_insert_1 trivial)
theorem bX0_insert_3_9 : okB cX0_insert RX0 3 [(4, 5, 0, 0, 0), (5, 0, 0, 0, 0), (23, 9, 0, 0, 0)] := And.intro dX0_insert_3 (And.intro ⟨_, dX0_insert_5, rfl⟩ (And.intro ⟨dX0_insert_6, fl_X0_9⟩ trivial))
theorem bX0_insert_12_24 : okB cX0_insert RX0 12 [(5, 0, 0, 0, 0), (23, 9, 0, 0, 0), (0, 0, 0, 0, 1), (13, 0, 0, 0, 0), (8, 6, 0, 0, 0), (4, 5, 0, 0, 0), (4, 4, 0, 0, 0)] := And.intro ⟨_, dX0_insert_12, rfl⟩ (And.intro ⟨dX0_insert_13, fl_X0_9⟩ (And.intro ⟨_, dX0_insert_16, by decide⟩ (And.intro dX0_insert_17 (And.intro dX0_insert_18 (And.intro dX0_insert_20 (And.intro dX0_insert_22 trivial))))))
theorem bX0_insert_50_65 : okB cX0_insert RX0 50 [(5, 0, 0, 0, 0), (23, 18, 0, 2, 0), (3, 3, 0, 0, 0), (5, 0, 0, 0, 0), (23, 9, 0, 0, 0), (14, 0, 0, 0, 0), (4, 5, 0, 0, 0), (12, 0, 0, 0, 0), (4, 6, 0, 0, 0)] := And.intro ⟨_, dX0_insert_50, rfl⟩ (And.intro ⟨dX0_insert_51, fl_X0_18⟩ (And.intro ⟨_, dX0_insert_54, rfl⟩ (And.intro ⟨_, dX0_insert_55, rfl⟩ (And.intro ⟨dX0_insert_56, fl_X0_9⟩ (And.intro dX0_insert_59 (And.intro dX0_insert_60 (And.intro dX0_insert_62 (And.intro dX0_insert_63 trivial))))))))
theorem bX0_insert_66_69 : okB cX0_insert RX0 66 [(11, 5, 0, 0, 1)] := And.intro ⟨_, dX0_insert_66, by decide⟩ trivial
theorem bX0_insert_27_33 : okB cX0_insert RX0 27 [(5, 1, 0, 0, 0), (3, 2, 0, 0, 0), (4, 5, 0, 0, 0), (4, 4, 0, 0, 0)] := And.intro ⟨_, dX0_insert_27, rfl⟩ (And.intro ⟨_, dX0_insert_28, rfl⟩ (And.intro dX0_insert_29 (And.intro dX0_insert_31 trivial)))
theorem bX0_insert_41_45 : okB cX0_insert RX0 41 [(4, 5, 0, 0, 0), (0, 0, 0, 0, 1), (13, 0, 0, 0, 0)] := And.intro dX0_insert_41 (And.intro ⟨_, dX0_insert_43, by decide⟩ (And.intro dX0_insert_44 trivial))
theorem bX0_insert_48_65 : okB cX0_insert RX0 48 [(8, 6, 0, 0, 0), (5, 0, 0, 0, 0), (23, 18, 0, 2, 0), (3, 3, 0, 0, 0), (5, 0, 0, 0, 0), (23, 9, 0, 0, 0), (14, 0, 0, 0, 0), (4, 5, 0, 0, 0), (12, 0, 0, 0, 0), (4, 6, 0, 0, 0)] := And.intro dX0_insert_48 (And.intro ⟨_, dX0_insert_50, rfl⟩ (And.intro ⟨dX0_insert_51, fl_X0_18⟩ (And.intro ⟨_, dX0_insert_54, rfl⟩ (And.intro ⟨_, dX0_insert_55, rfl⟩ (And.intro ⟨dX0_insert_56, fl_X0_9⟩ (And.intro dX0_insert_59 (And.intro dX0_insert_60 (And.intro dX0_insert_62 (And.intro dX0_insert_63 trivial)))))))))
theorem bX0_insert_36_38 : okB cX0_insert RX0 36 [(4, 5, 0, 0, 0)] := And.intro dX0_insert_36 trivial
set_option maxHeartbeats 4000000 in
set_option maxRecDepth 100000 in
theorem kt_insert (l : Launch) (D : va_G) (ads : AD) (I A : HI) {zt ze zr yt ye yr : Nat} (a2 : Int32) (a3 : Int32) (a4 : Int32) (po : Option AV → HI → HI → Prop) (Iv3 : Int32 → HI → Prop) (mu3 : Int32 → HI → Nat)
    (hv : (Iv3 0 A ∧ ∀ (x5_3 : Int32) (A_3 : HI), Iv3 x5_3 A_3 → (((I 4 0) ≤ x5_3 → po none I A_3) ∧ (¬ (I 4 0) ≤ x5_3 → ((x5_3 = a4 → (vp_in ((a3 * (I 4 0)) + x5_3) yt ∧ (Iv3 (x5_3 + 1) (up2 A_3 5 ((a3 * (I 4 0)) + x5_3).toNatClampNeg ((I 4 0) - 1)) ∧ mu3 (x5_3 + 1) (up2 A_3 5 ((a3 * (I 4 0)) + x5_3).toNatClampNeg ((I 4 0) - 1)) < mu3 x5_3 A_3))) ∧ (¬ x5_3 = a4 → ((a4 ≤ x5_3 → ((vp_in (a2 * I 0 0 + (x5_3 - 1)) zt) ∧ (vp_in ((a3 * (I 4 0)) + x5_3) yt ∧ (Iv3 (x5_3 + 1) (up2 A_3 5 ((a3 * (I 4 0)) + x5_3).toNatClampNeg (A_3 1 (a2 * I 0 0 + (x5_3 - 1)).toNatClampNeg)) ∧ mu3 (x5_3 + 1) (up2 A_3 5 ((a3 * (I 4 0)) + x5_3).toNatClampNeg (A_3 1 (a2 * I 0 0 + (x5_3 - 1)).toNatClampNeg)) < mu3 x5_3 A_3)))) ∧ (¬ a4 ≤ x5_3 → ((vp_in (a2 * I 0 0 + x5_3) zt) ∧ (vp_in ((a3 * (I 4 0)) + x5_3) yt ∧ (Iv3 (x5_3 + 1) (up2 A_3 5 ((a3 * (I 4 0)) + x5_3).toNatClampNeg (A_3 1 (a2 * I 0 0 + x5_3).toNatClampNeg)) ∧ mu3 (x5_3 + 1) (up2 A_3 5 ((a3 * (I 4 0)) + x5_3).toNatClampNeg (A_3 1 (a2 * I 0 0 + x5_3).toNatClampNeg)) < mu3 x5_3 A_3))))))))))) : Ct l yX0_insert cX0_insert 7 none 1 22 D ads (tw zt ze zr yt ye yr) [.inr (some 4), .inr (some 0), .inl a2, .inl a3, .inl a4] I A po := by
  refine Ct_of (by decide) (Nat.le_of_ble_eq_true rfl) ?_
  intro p e s m args below meth c hC hr
  replace hC : CX p s m args meth c cX0_insert 7 RX0 (AdS ads s.heap.size) := hC
  show Gs (tw zt ze zr yt ye yr) p l e s m args below meth c D ads 1 22 7 po I A 0 [some (.inr (some 4)), some (.inr (some 0)), some (.inl a2), some (.inl a3), some (.inl a4), none, none] []
  refine g_blk hC _ bX0_insert_0_3 (pc' := 3) (ls' := [some (.inr (some 4)), some (.inr (some 0)), some (.inl a2), some (.inl a3), some (.inl a4), some (.inl 0), none]) (st' := []) (I' := I) rfl rfl ?_
  obtain ⟨hi3, hb3⟩ := hv
  have L3 : ∀ (n : Nat) (x5_3 : Int32) (A_3 : HI), Iv3 x5_3 A_3 → mu3 x5_3 A_3 < n → Gs (tw zt ze zr yt ye yr) p l e s m args below meth c D ads 1 22 7 po I A_3 3 [some (.inr (some 4)), some (.inr (some 0)), some (.inl a2), some (.inl a3), some (.inl a4), some (.inl x5_3), none] [] := by
    intro n
    induction n with
    | zero => intro x5_3 A_3 _ hn; exact absurd hn (Nat.not_lt_zero _)
    | succ n ih3 =>
      intro x5_3 A_3 hv hn3
      replace hv := hb3 x5_3 A_3 hv
      skip
      refine g_blk hC _ bX0_insert_3_9 (pc' := 9) (ls' := [some (.inr (some 4)), some (.inr (some 0)), some (.inl a2), some (.inl a3), some (.inl a4), some (.inl x5_3), none]) (st' := [.inl (I 4 0), .inl x5_3]) (I' := I) rfl rfl ?_
      obtain ⟨hv1, hv2⟩ := hv
      refine g_cge hC dX0_insert_9 (tgt := 72) (by decide) (fun hc => ?_) (fun hc => ?_)
      · have hv := hv1 hc
        clear hv1 hv2 hc
        exact g_retv hC hr dX0_insert_72 hv
      · have hv := hv2 hc
        clear hv1 hv2 hc
        refine g_blk hC _ bX0_insert_12_24 (pc' := 24) (ls' := [some (.inr (some 4)), some (.inr (some 0)), some (.inl a2), some (.inl a3), some (.inl a4), some (.inl x5_3), some (.inl ((I 4 0) - 1))]) (st' := [.inl a4, .inl x5_3]) (I' := I) rfl rfl ?_
        obtain ⟨hv1, hv2⟩ := hv
        refine g_ceq hC dX0_insert_24 (tgt := 50) (by decide) (fun hc => ?_) (fun hc => ?_)
        · have hv := hv1 hc
          clear hv1 hv2 hc
          refine g_blk hC _ bX0_insert_50_65 (pc' := 65) (ls' := [some (.inr (some 4)), some (.inr (some 0)), some (.inl a2), some (.inl a3), some (.inl a4), some (.inl x5_3), some (.inl ((I 4 0) - 1))]) (st' := [.inl ((I 4 0) - 1), .inl ((a3 * (I 4 0)) + x5_3), .inr (some 5)]) (I' := I) rfl rfl ?_
          obtain ⟨hi, hv⟩ := hv
          refine g_iast hC dX0_insert_65 (rfl) hi ?_
          clear hi
          refine g_blk hC _ bX0_insert_66_69 (pc' := 69) (ls' := [some (.inr (some 4)), some (.inr (some 0)), some (.inl a2), some (.inl a3), some (.inl a4), some (.inl (x5_3 + 1)), some (.inl ((I 4 0) - 1))]) (st' := []) (I' := I) rfl rfl ?_
          refine g_goto hC dX0_insert_69 (tgt := 3) (by decide) ?_
          exact g_weak (ls1 := [some (.inr (some 4)), some (.inr (some 0)), some (.inl a2), some (.inl a3), some (.inl a4), some (.inl (x5_3 + 1)), none]) rfl (And.intro rfl (And.intro rfl (And.intro rfl (And.intro rfl (And.intro rfl (And.intro rfl trivial)))))) (ih3 (x5_3 + 1) (up2 A_3 5 ((a3 * (I 4 0)) + x5_3).toNatClampNeg ((I 4 0) - 1)) hv.1 (Nat.lt_of_lt_of_le hv.2 (Nat.le_of_lt_succ hn3)))
        · have hv := hv2 hc
          clear hv1 hv2 hc
          refine g_blk hC _ bX0_insert_27_33 (pc' := 33) (ls' := [some (.inr (some 4)), some (.inr (some 0)), some (.inl a2), some (.inl a3), some (.inl a4), some (.inl x5_3), some (.inl ((I 4 0) - 1))]) (st' := [.inl a4, .inl x5_3, .inl a2, .inr (some 0)]) (I' := I) rfl rfl ?_
          obtain ⟨hv1, hv2⟩ := hv
          refine g_cge hC dX0_insert_33 (tgt := 41) (by decide) (fun hc => ?_) (fun hc => ?_)
          · have hv := hv1 hc
            clear hv1 hv2 hc
            refine g_blk hC _ bX0_insert_41_45 (pc' := 45) (ls' := [some (.inr (some 4)), some (.inr (some 0)), some (.inl a2), some (.inl a3), some (.inl a4), some (.inl x5_3), some (.inl ((I 4 0) - 1))]) (st' := [.inl (x5_3 - 1), .inl a2, .inr (some 0)]) (I' := I) rfl rfl ?_
            obtain ⟨hp1, hv⟩ := hv
            refine g_callV hC (ct_thing1 l D ads I A_3 a2 (x5_3 - 1) hp1) dX0_insert_45 nm_X0_thingAt rfl rfl wl_X0_39 wi_X0_thingAt ws_X0_thingAt wn_X0 wc_X0_thingAt ⟨by decide, by decide⟩ (as := [.inl a2, .inl (x5_3 - 1)]) (rest := []) rfl (Nat.le_of_ble_eq_true rfl) ⟨Nat.le_refl _, Nat.le_refl _⟩ (k_qI ?_)
            refine g_blk hC _ bX0_insert_48_65 (pc' := 65) (ls' := [some (.inr (some 4)), some (.inr (some 0)), some (.inl a2), some (.inl a3), some (.inl a4), some (.inl x5_3), some (.inl (A_3 1 (a2 * I 0 0 + (x5_3 - 1)).toNatClampNeg))]) (st' := [.inl (A_3 1 (a2 * I 0 0 + (x5_3 - 1)).toNatClampNeg), .inl ((a3 * (I 4 0)) + x5_3), .inr (some 5)]) (I' := I) rfl rfl ?_
            obtain ⟨hi, hv⟩ := hv
            refine g_iast hC dX0_insert_65 (rfl) hi ?_
            clear hi
            refine g_blk hC _ bX0_insert_66_69 (pc' := 69) (ls' := [some (.inr (some 4)), some (.inr (some 0)), some (.inl a2), some (.inl a3), some (.inl a4), some (.inl (x5_3 + 1)), some (.inl (A_3 1 (a2 * I 0 0 + (x5_3 - 1)).toNatClampNeg))]) (st' := []) (I' := I) rfl rfl ?_
            refine g_goto hC dX0_insert_69 (tgt := 3) (by decide) ?_
            exact g_weak (ls1 := [some (.inr (some 4)), some (.inr (some 0)), some (.inl a2), some (.inl a3), some (.inl a4), some (.inl (x5_3 + 1)), none]) rfl (And.intro rfl (And.intro rfl (And.intro rfl (And.intro rfl (And.intro rfl (And.intro rfl trivial)))))) (ih3 (x5_3 + 1) (up2 A_3 5 ((a3 * (I 4 0)) + x5_3).toNatClampNeg (A_3 1 (a2 * I 0 0 + (x5_3 - 1)).toNatClampNeg)) hv.1 (Nat.lt_of_lt_of_le hv.2 (Nat.le_of_lt_succ hn3)))
          · have hv := hv2 hc
            clear hv1 hv2 hc
            refine g_blk hC _ bX0_insert_36_38 (pc' := 38) (ls' := [some (.inr (some 4)), some (.inr (some 0)), some (.inl a2), some (.inl a3), some (.inl a4), some (.inl x5_3), some (.inl ((I 4 0) - 1))]) (st' := [.inl x5_3, .inl a2, .inr (some 0)]) (I' := I) rfl rfl ?_
            refine g_goto hC dX0_insert_38 (tgt := 45) (by decide) ?_
            obtain ⟨hp2, hv⟩ := hv
            refine g_callV hC (ct_thing1 l D ads I A_3 a2 x5_3 hp2) dX0_insert_45 nm_X0_thingAt rfl rfl wl_X0_39 wi_X0_thingAt ws_X0_thingAt wn_X0 wc_X0_thingAt ⟨by decide, by decide⟩ (as := [.inl a2, .inl x5_3]) (rest := []) rfl (Nat.le_of_ble_eq_true rfl) ⟨Nat.le_refl _, Nat.le_refl _⟩ (k_qI ?_)
            refine g_blk hC _ bX0_insert_48_65 (pc' := 65) (ls' := [some (.inr (some 4)), some (.inr (some 0)), some (.inl a2), some (.inl a3), some (.inl a4), some (.inl x5_3), some (.inl (A_3 1 (a2 * I 0 0 + x5_3).toNatClampNeg))]) (st' := [.inl (A_3 1 (a2 * I 0 0 + x5_3).toNatClampNeg), .inl ((a3 * (I 4 0)) + x5_3), .inr (some 5)]) (I' := I) rfl rfl ?_
            obtain ⟨hi, hv⟩ := hv
            refine g_iast hC dX0_insert_65 (rfl) hi ?_
            clear hi
            refine g_blk hC _ bX0_insert_66_69 (pc' := 69) (ls' := [some (.inr (some 4)), some (.inr (some 0)), some (.inl a2), some (.inl a3), some (.inl a4), some (.inl (x5_3 + 1)), some (.inl (A_3 1 (a2 * I 0 0 + x5_3).toNatClampNeg))]) (st' := []) (I' := I) rfl rfl ?_
            refine g_goto hC dX0_insert_69 (tgt := 3) (by decide) ?_
            exact g_weak (ls1 := [some (.inr (some 4)), some (.inr (some 0)), some (.inl a2), some (.inl a3), some (.inl a4), some (.inl (x5_3 + 1)), none]) rfl (And.intro rfl (And.intro rfl (And.intro rfl (And.intro rfl (And.intro rfl (And.intro rfl trivial)))))) (ih3 (x5_3 + 1) (up2 A_3 5 ((a3 * (I 4 0)) + x5_3).toNatClampNeg (A_3 1 (a2 * I 0 0 + x5_3).toNatClampNeg)) hv.1 (Nat.lt_of_lt_of_le hv.2 (Nat.le_of_lt_succ hn3)))
  exact g_weak (ls1 := [some (.inr (some 4)), some (.inr (some 0)), some (.inl a2), some (.inl a3), some (.inl a4), some (.inl 0), none]) rfl (And.intro rfl (And.intro rfl (And.intro rfl (And.intro rfl (And.intro rfl (And.intro rfl trivial)))))) (L3 _ 0 A hi3 (Nat.lt_succ_self _))
theorem bX0_exchangeBefore_0_2 : okB cX0_exchangeBefore RX0 0 [(0, 0, 0, 0, 0), (7, 2, 0, 0, 0)] := And.intro ⟨_, dX0_exchangeBefore_0, by decide⟩ (And.intro ⟨_, dX0_exchangeBefore_1, rfl⟩ trivial)
theorem bX0_exchangeBefore_2_9 : okB cX0_exchangeBefore RX0 2 [(3, 2, 0, 0, 0), (5, 0, 0, 0, 0), (23, 9, 0, 0, 0), (0, 0, 0, 0, 1), (13, 0, 0, 0, 0)] := And.intro ⟨_, dX0_exchangeBefore_2, rfl⟩ (And.intro ⟨_, dX0_exchangeBefore_3, rfl⟩ (And.intro ⟨dX0_exchangeBefore_4, fl_X0_9⟩ (And.intro ⟨_, dX0_exchangeBefore_7, by decide⟩ (And.intro dX0_exchangeBefore_8 trivial))))
theorem bX0_exchangeBefore_53_54 : okB cX0_exchangeBefore RX0 53 [(0, 0, 0, 0, 0)] := And.intro ⟨_, dX0_exchangeBefore_53, by decide⟩ trivial
theorem bX0_exchangeBefore_12_17 : okB cX0_exchangeBefore RX0 12 [(5, 0, 0, 0, 0), (3, 1, 0, 0, 0), (0, 0, 0, 0, 1), (13, 0, 0, 0, 0), (3, 2, 0, 0, 0)] := And.intro ⟨_, dX0_exchangeBefore_12, rfl⟩ (And.intro ⟨_, dX0_exchangeBefore_13, rfl⟩ (And.intro ⟨_, dX0_exchangeBefore_14, by decide⟩ (And.intro dX0_exchangeBefore_15 (And.intro ⟨_, dX0_exchangeBefore_16, rfl⟩ trivial))))
theorem bX0_exchangeBefore_20_23 : okB cX0_exchangeBefore RX0 20 [(5, 0, 0, 0, 0), (3, 1, 0, 0, 0), (3, 2, 0, 0, 0)] := And.intro ⟨_, dX0_exchangeBefore_20, rfl⟩ (And.intro ⟨_, dX0_exchangeBefore_21, rfl⟩ (And.intro ⟨_, dX0_exchangeBefore_22, rfl⟩ trivial))
theorem bX0_exchangeBefore_47_50 : okB cX0_exchangeBefore RX0 47 [(11, 2, 0, 0, 1)] := And.intro ⟨_, dX0_exchangeBefore_47, by decide⟩ trivial
theorem bX0_exchangeBefore_29_34 : okB cX0_exchangeBefore RX0 29 [(5, 0, 0, 0, 0), (3, 1, 0, 0, 0), (0, 0, 0, 0, 1), (13, 0, 0, 0, 0), (3, 2, 0, 0, 0)] := And.intro ⟨_, dX0_exchangeBefore_29, rfl⟩ (And.intro ⟨_, dX0_exchangeBefore_30, rfl⟩ (And.intro ⟨_, dX0_exchangeBefore_31, by decide⟩ (And.intro dX0_exchangeBefore_32 (And.intro ⟨_, dX0_exchangeBefore_33, rfl⟩ trivial))))
theorem bX0_exchangeBefore_37_40 : okB cX0_exchangeBefore RX0 37 [(5, 0, 0, 0, 0), (3, 1, 0, 0, 0), (3, 2, 0, 0, 0)] := And.intro ⟨_, dX0_exchangeBefore_37, rfl⟩ (And.intro ⟨_, dX0_exchangeBefore_38, rfl⟩ (And.intro ⟨_, dX0_exchangeBefore_39, rfl⟩ trivial))
set_option maxHeartbeats 4000000 in
set_option maxRecDepth 100000 in
theorem kt_exb (l : Launch) (D : va_G) (ads : AD) (I A : HI) {zt ze zr yt ye yr : Nat} (a1 : Int32) (po : Option AV → HI → HI → Prop) (Iv2 : Int32 → Prop) (mu2 : Int32 → Nat)
    (hv : (Iv2 0 ∧ ∀ (x2_2 : Int32), Iv2 x2_2 → ((((I 4 0) - 1) ≤ x2_2 → po (some (.inl 0)) I A) ∧ (¬ ((I 4 0) - 1) ≤ x2_2 → ((vp_in ((a1 - 1) * I 4 0 + x2_2) yt) ∧ ((vp_in (a1 * I 4 0 + x2_2) yt) ∧ (((A 5 ((a1 - 1) * I 4 0 + x2_2).toNatClampNeg) = (A 5 (a1 * I 4 0 + x2_2).toNatClampNeg) → (Iv2 (x2_2 + 1) ∧ mu2 (x2_2 + 1) < mu2 x2_2)) ∧ (¬ (A 5 ((a1 - 1) * I 4 0 + x2_2).toNatClampNeg) = (A 5 (a1 * I 4 0 + x2_2).toNatClampNeg) → ((vp_in ((a1 - 1) * I 4 0 + x2_2) yt) ∧ ((vp_in (a1 * I 4 0 + x2_2) yt) ∧ po (some (.inl ((A 5 ((a1 - 1) * I 4 0 + x2_2).toNatClampNeg) * 5 + (A 5 (a1 * I 4 0 + x2_2).toNatClampNeg)))) I A)))))))))) : Ct l yX0_exchangeBefore cX0_exchangeBefore 3 (some .int) 1 22 D ads (tw zt ze zr yt ye yr) [.inr (some 4), .inl a1] I A po := by
  refine Ct_of (by decide) (Nat.le_of_ble_eq_true rfl) ?_
  intro p e s m args below meth c hC hr
  replace hC : CX p s m args meth c cX0_exchangeBefore 3 RX0 (AdS ads s.heap.size) := hC
  show Gs (tw zt ze zr yt ye yr) p l e s m args below meth c D ads 1 22 3 po I A 0 [some (.inr (some 4)), some (.inl a1), none] []
  refine g_blk hC _ bX0_exchangeBefore_0_2 (pc' := 2) (ls' := [some (.inr (some 4)), some (.inl a1), some (.inl 0)]) (st' := []) (I' := I) rfl rfl ?_
  obtain ⟨hi2, hb2⟩ := hv
  have L2 : ∀ (n : Nat) (x2_2 : Int32), Iv2 x2_2 → mu2 x2_2 < n → Gs (tw zt ze zr yt ye yr) p l e s m args below meth c D ads 1 22 3 po I A 2 [some (.inr (some 4)), some (.inl a1), some (.inl x2_2)] [] := by
    intro n
    induction n with
    | zero => intro x2_2 _ hn; exact absurd hn (Nat.not_lt_zero _)
    | succ n ih2 =>
      intro x2_2 hv hn2
      replace hv := hb2 x2_2 hv
      skip
      refine g_blk hC _ bX0_exchangeBefore_2_9 (pc' := 9) (ls' := [some (.inr (some 4)), some (.inl a1), some (.inl x2_2)]) (st' := [.inl ((I 4 0) - 1), .inl x2_2]) (I' := I) rfl rfl ?_
      obtain ⟨hv1, hv2⟩ := hv
      refine g_cge hC dX0_exchangeBefore_9 (tgt := 53) (by decide) (fun hc => ?_) (fun hc => ?_)
      · have hv := hv1 hc
        clear hv1 hv2 hc
        refine g_blk hC _ bX0_exchangeBefore_53_54 (pc' := 54) (ls' := [some (.inr (some 4)), some (.inl a1), some (.inl x2_2)]) (st' := [.inl 0]) (I' := I) rfl rfl ?_
        exact g_reti hC hr rfl dX0_exchangeBefore_54 hv
      · have hv := hv2 hc
        clear hv1 hv2 hc
        refine g_blk hC _ bX0_exchangeBefore_12_17 (pc' := 17) (ls' := [some (.inr (some 4)), some (.inl a1), some (.inl x2_2)]) (st' := [.inl x2_2, .inl (a1 - 1), .inr (some 4)]) (I' := I) rfl rfl ?_
        obtain ⟨hp1, hv⟩ := hv
        refine g_callV hC (ct_thing0 l D ads I A (a1 - 1) x2_2 hp1) dX0_exchangeBefore_17 nm_X0_thingAt rfl rfl wl_X0_39 wi_X0_thingAt ws_X0_thingAt wn_X0 wc_X0_thingAt ⟨by decide, by decide⟩ (as := [.inl (a1 - 1), .inl x2_2]) (rest := []) rfl (Nat.le_of_ble_eq_true rfl) ⟨Nat.le_refl _, Nat.le_refl _⟩ (k_qI ?_)
        refine g_blk hC _ bX0_exchangeBefore_20_23 (pc' := 23) (ls' := [some (.inr (some 4)), some (.inl a1), some (.inl x2_2)]) (st' := [.inl x2_2, .inl a1, .inr (some 4), .inl (A 5 ((a1 - 1) * I 4 0 + x2_2).toNatClampNeg)]) (I' := I) rfl rfl ?_
        obtain ⟨hp2, hv⟩ := hv
        refine g_callV hC (ct_thing0 l D ads I A a1 x2_2 hp2) dX0_exchangeBefore_23 nm_X0_thingAt rfl rfl wl_X0_39 wi_X0_thingAt ws_X0_thingAt wn_X0 wc_X0_thingAt ⟨by decide, by decide⟩ (as := [.inl a1, .inl x2_2]) (rest := [.inl (A 5 ((a1 - 1) * I 4 0 + x2_2).toNatClampNeg)]) rfl (Nat.le_of_ble_eq_true rfl) ⟨Nat.le_refl _, Nat.le_refl _⟩ (k_qI ?_)
        obtain ⟨hv1, hv2⟩ := hv
        refine g_ceq hC dX0_exchangeBefore_26 (tgt := 47) (by decide) (fun hc => ?_) (fun hc => ?_)
        · have hv := hv1 hc
          clear hv1 hv2 hc
          refine g_blk hC _ bX0_exchangeBefore_47_50 (pc' := 50) (ls' := [some (.inr (some 4)), some (.inl a1), some (.inl (x2_2 + 1))]) (st' := []) (I' := I) rfl rfl ?_
          refine g_goto hC dX0_exchangeBefore_50 (tgt := 2) (by decide) ?_
          exact g_weak (ls1 := [some (.inr (some 4)), some (.inl a1), some (.inl (x2_2 + 1))]) rfl (And.intro rfl (And.intro rfl (And.intro rfl trivial))) (ih2 (x2_2 + 1) hv.1 (Nat.lt_of_lt_of_le hv.2 (Nat.le_of_lt_succ hn2)))
        · have hv := hv2 hc
          clear hv1 hv2 hc
          refine g_blk hC _ bX0_exchangeBefore_29_34 (pc' := 34) (ls' := [some (.inr (some 4)), some (.inl a1), some (.inl x2_2)]) (st' := [.inl x2_2, .inl (a1 - 1), .inr (some 4)]) (I' := I) rfl rfl ?_
          obtain ⟨hp3, hv⟩ := hv
          refine g_callV hC (ct_thing0 l D ads I A (a1 - 1) x2_2 hp3) dX0_exchangeBefore_34 nm_X0_thingAt rfl rfl wl_X0_39 wi_X0_thingAt ws_X0_thingAt wn_X0 wc_X0_thingAt ⟨by decide, by decide⟩ (as := [.inl (a1 - 1), .inl x2_2]) (rest := []) rfl (Nat.le_of_ble_eq_true rfl) ⟨Nat.le_refl _, Nat.le_refl _⟩ (k_qI ?_)
          refine g_blk hC _ bX0_exchangeBefore_37_40 (pc' := 40) (ls' := [some (.inr (some 4)), some (.inl a1), some (.inl x2_2)]) (st' := [.inl x2_2, .inl a1, .inr (some 4), .inl (A 5 ((a1 - 1) * I 4 0 + x2_2).toNatClampNeg)]) (I' := I) rfl rfl ?_
          obtain ⟨hp4, hv⟩ := hv
          refine g_callV hC (ct_thing0 l D ads I A a1 x2_2 hp4) dX0_exchangeBefore_40 nm_X0_thingAt rfl rfl wl_X0_39 wi_X0_thingAt ws_X0_thingAt wn_X0 wc_X0_thingAt ⟨by decide, by decide⟩ (as := [.inl a1, .inl x2_2]) (rest := [.inl (A 5 ((a1 - 1) * I 4 0 + x2_2).toNatClampNeg)]) rfl (Nat.le_of_ble_eq_true rfl) ⟨Nat.le_refl _, Nat.le_refl _⟩ (k_qI ?_)
          refine g_callN (host := RX8) hC (ct_pair l D ads I A (A 5 ((a1 - 1) * I 4 0 + x2_2).toNatClampNeg) (A 5 (a1 * I 4 0 + x2_2).toNatClampNeg)) dX0_exchangeBefore_43 nm_X8_pair (List.mem_of_getElem? (i := 1) rfl) wt_X8_pair wn_X8 wc_X8_pair ⟨by decide, by decide⟩ (as := [.inl (A 5 ((a1 - 1) * I 4 0 + x2_2).toNatClampNeg), .inl (A 5 (a1 * I 4 0 + x2_2).toNatClampNeg)]) (rest := []) rfl (Nat.le_of_ble_eq_true rfl) ⟨Nat.le_refl _, Nat.le_refl _⟩ (k_qI ?_)
          exact g_reti hC hr rfl dX0_exchangeBefore_46 hv
  exact g_weak (ls1 := [some (.inr (some 4)), some (.inl a1), some (.inl 0)]) rfl (And.intro rfl (And.intro rfl (And.intro rfl trivial))) (L2 _ 0 hi2 (Nat.lt_succ_self _))
theorem bX0_rankOf_0_4 : okB cX0_rankOf RX0 0 [(0, 0, 0, 0, 0), (7, 2, 0, 0, 0), (0, 0, 0, 0, 0), (7, 3, 0, 0, 0)] := And.intro ⟨_, dX0_rankOf_0, by decide⟩ (And.intro ⟨_, dX0_rankOf_1, rfl⟩ (And.intro ⟨_, dX0_rankOf_2, by decide⟩ (And.intro ⟨_, dX0_rankOf_3, rfl⟩ trivial)))
theorem bX0_rankOf_4_9 : okB cX0_rankOf RX0 4 [(3, 3, 0, 0, 0), (5, 0, 0, 0, 0), (23, 9, 0, 0, 0)] := And.intro ⟨_, dX0_rankOf_4, rfl⟩ (And.intro ⟨_, dX0_rankOf_5, rfl⟩ (And.intro ⟨dX0_rankOf_6, fl_X0_9⟩ trivial))
theorem bX0_rankOf_29_30 : okB cX0_rankOf RX0 29 [(3, 2, 0, 0, 0)] := And.intro ⟨_, dX0_rankOf_29, rfl⟩ trivial
theorem bX0_rankOf_12_18 : okB cX0_rankOf RX0 12 [(3, 2, 0, 0, 0), (0, 0, 0, 0, 5), (14, 0, 0, 0, 0), (5, 0, 0, 0, 0), (3, 1, 0, 0, 0), (3, 3, 0, 0, 0)] := And.intro ⟨_, dX0_rankOf_12, rfl⟩ (And.intro ⟨_, dX0_rankOf_13, by decide⟩ (And.intro dX0_rankOf_14 (And.intro ⟨_, dX0_rankOf_15, rfl⟩ (And.intro ⟨_, dX0_rankOf_16, rfl⟩ (And.intro ⟨_, dX0_rankOf_17, rfl⟩ trivial)))))
theorem bX0_rankOf_21_26 : okB cX0_rankOf RX0 21 [(12, 0, 0, 0, 0), (7, 2, 0, 0, 0), (11, 3, 0, 0, 1)] := And.intro dX0_rankOf_21 (And.intro ⟨_, dX0_rankOf_22, rfl⟩ (And.intro ⟨_, dX0_rankOf_23, by decide⟩ trivial))
set_option maxHeartbeats 4000000 in
set_option maxRecDepth 100000 in
theorem kt_rank (l : Launch) (D : va_G) (ads : AD) (I A : HI) {zt ze zr yt ye yr : Nat} (a1 : Int32) (po : Option AV → HI → HI → Prop) (Iv4 : Int32 → Int32 → Prop) (mu4 : Int32 → Int32 → Nat)
    (hv : (Iv4 0 0 ∧ ∀ (x2_4 : Int32) (x3_4 : Int32), Iv4 x2_4 x3_4 → (((I 4 0) ≤ x3_4 → po (some (.inl x2_4)) I A) ∧ (¬ (I 4 0) ≤ x3_4 → ((vp_in (a1 * I 4 0 + x3_4) yt) ∧ (Iv4 ((x2_4 * 5) + (A 5 (a1 * I 4 0 + x3_4).toNatClampNeg)) (x3_4 + 1) ∧ mu4 ((x2_4 * 5) + (A 5 (a1 * I 4 0 + x3_4).toNatClampNeg)) (x3_4 + 1) < mu4 x2_4 x3_4)))))) : Ct l yX0_rankOf cX0_rankOf 4 (some .int) 1 22 D ads (tw zt ze zr yt ye yr) [.inr (some 4), .inl a1] I A po := by
  refine Ct_of (by decide) (Nat.le_of_ble_eq_true rfl) ?_
  intro p e s m args below meth c hC hr
  replace hC : CX p s m args meth c cX0_rankOf 4 RX0 (AdS ads s.heap.size) := hC
  show Gs (tw zt ze zr yt ye yr) p l e s m args below meth c D ads 1 22 4 po I A 0 [some (.inr (some 4)), some (.inl a1), none, none] []
  refine g_blk hC _ bX0_rankOf_0_4 (pc' := 4) (ls' := [some (.inr (some 4)), some (.inl a1), some (.inl 0), some (.inl 0)]) (st' := []) (I' := I) rfl rfl ?_
  obtain ⟨hi4, hb4⟩ := hv
  have L4 : ∀ (n : Nat) (x2_4 : Int32) (x3_4 : Int32), Iv4 x2_4 x3_4 → mu4 x2_4 x3_4 < n → Gs (tw zt ze zr yt ye yr) p l e s m args below meth c D ads 1 22 4 po I A 4 [some (.inr (some 4)), some (.inl a1), some (.inl x2_4), some (.inl x3_4)] [] := by
    intro n
    induction n with
    | zero => intro x2_4 x3_4 _ hn; exact absurd hn (Nat.not_lt_zero _)
    | succ n ih4 =>
      intro x2_4 x3_4 hv hn4
      replace hv := hb4 x2_4 x3_4 hv
      skip
      refine g_blk hC _ bX0_rankOf_4_9 (pc' := 9) (ls' := [some (.inr (some 4)), some (.inl a1), some (.inl x2_4), some (.inl x3_4)]) (st' := [.inl (I 4 0), .inl x3_4]) (I' := I) rfl rfl ?_
      obtain ⟨hv1, hv2⟩ := hv
      refine g_cge hC dX0_rankOf_9 (tgt := 29) (by decide) (fun hc => ?_) (fun hc => ?_)
      · have hv := hv1 hc
        clear hv1 hv2 hc
        refine g_blk hC _ bX0_rankOf_29_30 (pc' := 30) (ls' := [some (.inr (some 4)), some (.inl a1), some (.inl x2_4), some (.inl x3_4)]) (st' := [.inl x2_4]) (I' := I) rfl rfl ?_
        exact g_reti hC hr rfl dX0_rankOf_30 hv
      · have hv := hv2 hc
        clear hv1 hv2 hc
        refine g_blk hC _ bX0_rankOf_12_18 (pc' := 18) (ls' := [some (.inr (some 4)), some (.inl a1), some (.inl x2_4), some (.inl x3_4)]) (st' := [.inl x3_4, .inl a1, .inr (some 4), .inl (x2_4 * 5)]) (I' := I) rfl rfl ?_
        obtain ⟨hp1, hv⟩ := hv
        refine g_callV hC (ct_thing0 l D ads I A a1 x3_4 hp1) dX0_rankOf_18 nm_X0_thingAt rfl rfl wl_X0_39 wi_X0_thingAt ws_X0_thingAt wn_X0 wc_X0_thingAt ⟨by decide, by decide⟩ (as := [.inl a1, .inl x3_4]) (rest := [.inl (x2_4 * 5)]) rfl (Nat.le_of_ble_eq_true rfl) ⟨Nat.le_refl _, Nat.le_refl _⟩ (k_qI ?_)
        refine g_blk hC _ bX0_rankOf_21_26 (pc' := 26) (ls' := [some (.inr (some 4)), some (.inl a1), some (.inl ((x2_4 * 5) + (A 5 (a1 * I 4 0 + x3_4).toNatClampNeg))), some (.inl (x3_4 + 1))]) (st' := []) (I' := I) rfl rfl ?_
        refine g_goto hC dX0_rankOf_26 (tgt := 4) (by decide) ?_
        exact g_weak (ls1 := [some (.inr (some 4)), some (.inl a1), some (.inl ((x2_4 * 5) + (A 5 (a1 * I 4 0 + x3_4).toNatClampNeg))), some (.inl (x3_4 + 1))]) rfl (And.intro rfl (And.intro rfl (And.intro rfl (And.intro rfl trivial)))) (ih4 ((x2_4 * 5) + (A 5 (a1 * I 4 0 + x3_4).toNatClampNeg)) (x3_4 + 1) hv.1 (Nat.lt_of_lt_of_le hv.2 (Nat.le_of_lt_succ hn4)))
  exact g_weak (ls1 := [some (.inr (some 4)), some (.inl a1), some (.inl 0), some (.inl 0)]) rfl (And.intro rfl (And.intro rfl (And.intro rfl (And.intro rfl trivial)))) (L4 _ 0 0 hi4 (Nat.lt_succ_self _))
