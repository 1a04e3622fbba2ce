/-! small words of numbers -/
def zP (x : Int32) : Int32 := if x < 0 ∨ 10 ≤ x then 0 else 1
def zPP (x y : Int32) : Int32 := if (x < 0 ∨ 10 ≤ x) ∨ (y < 0 ∨ 10 ≤ y) then 0 else 1
def mxI (x y : Int32) : Int32 := if x < y then y else x
def mnI (x y : Int32) : Int32 := if y < x then y else x
def filA (A : HI) (k n : Nat) (v : Int32) : HI := fun a b => if a = k ∧ b < n then v else A a b
section GX
variable {p : Program} {l : Launch} {e : Env} {R : Room} {s : State} {m : MethodId} {args : Array Value} {below : List Frame} {meth : Method} {c : Code} {Q : State → Prop} {D : va_G} {B : Nat → Prop} {nL cells slots : Nat} {ads : AD} {sh : SH} {I A : HI} {pc : Nat} {ls : List (Option AV)} {st : List AV} {cc : ByteArray} {own : String}
theorem wm_max : Cond.static Lib.Math.max.name ∈ gtbl ∧ Cond.initialized "java/lang/Math" ∈ gtbl ∧ Cond.code Lib.Math.max.name Lib.Math.max.code 2 (some .int) ∈ gtbl := ⟨gt_of (List.mem_append_right _ (by decide +kernel)) (by decide +kernel), gt_of (List.mem_append_right _ (by decide +kernel)) (by decide +kernel), gt_of (List.mem_append_right _ (by decide +kernel)) (by decide +kernel)⟩
theorem wm_min : Cond.static Lib.Math.min.name ∈ gtbl ∧ Cond.initialized "java/lang/Math" ∈ gtbl ∧ Cond.code Lib.Math.min.name Lib.Math.min.code 2 (some .int) ∈ gtbl := ⟨gt_of (List.mem_append_right _ (by decide +kernel)) (by decide +kernel), gt_of (List.mem_append_right _ (by decide +kernel)) (by decide +kernel), gt_of (List.mem_append_right _ (by decide +kernel)) (by decide +kernel)⟩
theorem g_max (hC : CX p s m args meth c cc nL own B) {x y : Int32} {idx : Nat} (hd : decode cc pc = .ok (.invokestatic idx, 3)) (hw : Cond.methodLink own idx Lib.Math.max.name ∈ gtbl) (hf : 1 ≤ R.frames) (hl : st.length + 13 ≤ R.locals) (hc : cells ≤ R.cells ∧ slots ≤ R.slots) (k : G p l e R s m args below meth c Q D B nL cells slots ads sh I A (pc + 3) ls (.inl (mxI x y) :: st)) : G p l e R s m args below meth c Q D B nL cells slots ads sh I A pc ls (.inl y :: .inl x :: st) := by
  intro H locs a hR hL
  have hts := hC.2.2.2.2.1
  exact va_mmax hC.1 hC.2.1 (hC.2.2.1.trans hL.1.symm) hC.2.2.2.1 (hts _ hw) (hts _ wm_max.1) (hts _ wm_max.2.1) (hts _ wm_max.2.2) hf (by rw [stv]; exact hl) hc.1 hc.2 hd (k H locs a hR hL)
theorem g_min (hC : CX p s m args meth c cc nL own B) {x y : Int32} {idx : Nat} (hd : decode cc pc = .ok (.invokestatic idx, 3)) (hw : Cond.methodLink own idx Lib.Math.min.name ∈ gtbl) (hf : 1 ≤ R.frames) (hl : st.length + 13 ≤ R.locals) (hc : cells ≤ R.cells ∧ slots ≤ R.slots) (k : G p l e R s m args below meth c Q D B nL cells slots ads sh I A (pc + 3) ls (.inl (mnI x y) :: st)) : G p l e R s m args below meth c Q D B nL cells slots ads sh I A pc ls (.inl y :: .inl x :: st) := by
  intro H locs a hR hL
  have hts := hC.2.2.2.2.1
  exact va_mmin hC.1 hC.2.1 (hC.2.2.1.trans hL.1.symm) hC.2.2.2.1 (hts _ hw) (hts _ wm_min.1) (hts _ wm_min.2.1) (hts _ wm_min.2.2) hf (by rw [stv]; exact hl) hc.1 hc.2 hd (k H locs a hR hL)
end GX
theorem bX8_isPlace_0_1 : okB cX8_isPlace RX8 0 [(3, 0, 0, 0, 0)] := And.intro ⟨_, dX8_isPlace_0, rfl⟩ trivial
theorem bX8_isPlace_14_15 : okB cX8_isPlace RX8 14 [(0, 0, 0, 0, 0)] := And.intro ⟨_, dX8_isPlace_14, by decide⟩ trivial
theorem bX8_isPlace_4_7 : okB cX8_isPlace RX8 4 [(3, 0, 0, 0, 0), (1, 0, 0, 0, 10)] := And.intro ⟨_, dX8_isPlace_4, rfl⟩ (And.intro ⟨_, dX8_isPlace_5, by decide⟩ trivial)
theorem bX8_isPlace_10_11 : okB cX8_isPlace RX8 10 [(0, 0, 0, 0, 1)] := And.intro ⟨_, dX8_isPlace_10, by decide⟩ trivial
set_option maxHeartbeats 4000000 in
set_option maxRecDepth 100000 in
theorem k_X8_isPlace (l : Launch) (D : va_G) (ads : AD) (I A : HI) (a1 : Int32) (po : Option AV → HI → HI → Prop)
    (hv : ((a1 < 0 → po (some (.inl 0)) I A) ∧ (¬ a1 < 0 → ((10 ≤ a1 → po (some (.inl 0)) I A) ∧ (¬ 10 ≤ a1 → po (some (.inl 1)) I A))))) : Ct l yX8_isPlace cX8_isPlace 1 (some .boolean) 0 0 D ads shp [.inl a1] I A po := by
  refine Ct_of (by decide) (Nat.le_of_ble_eq_true rfl) ?_
  intro p e s m args below meth c hC hr
  replace hC : CX p s m args meth c cX8_isPlace 1 RX8 (AdS ads s.heap.size) := hC
  show Gm p l e s m args below meth c D ads 0 0 1 po I A 0 [some (.inl a1)] []
  refine g_blk hC _ bX8_isPlace_0_1 (pc' := 1) (ls' := [some (.inl a1)]) (st' := [.inl a1]) (I' := I) rfl rfl ?_
  obtain ⟨hv1, hv2⟩ := hv
  refine g_iflt hC dX8_isPlace_1 (tgt := 14) (by decide) (fun hc => ?_) (fun hc => ?_)
  · have hv := hv1 hc
    clear hv1 hv2 hc
    refine g_blk hC _ bX8_isPlace_14_15 (pc' := 15) (ls' := [some (.inl a1)]) (st' := [.inl 0]) (I' := I) rfl rfl ?_
    exact g_reti hC hr (by decide) dX8_isPlace_15 hv
  · have hv := hv2 hc
    clear hv1 hv2 hc
    refine g_blk hC _ bX8_isPlace_4_7 (pc' := 7) (ls' := [some (.inl a1)]) (st' := [.inl 10, .inl a1]) (I' := I) rfl rfl ?_
    obtain ⟨hv1, hv2⟩ := hv
    refine g_cge hC dX8_isPlace_7 (tgt := 14) (by decide) (fun hc => ?_) (fun hc => ?_)
    · have hv := hv1 hc
      clear hv1 hv2 hc
      refine g_blk hC _ bX8_isPlace_14_15 (pc' := 15) (ls' := [some (.inl a1)]) (st' := [.inl 0]) (I' := I) rfl rfl ?_
      exact g_reti hC hr (by decide) dX8_isPlace_15 hv
    · have hv := hv2 hc
      clear hv1 hv2 hc
      refine g_blk hC _ bX8_isPlace_10_11 (pc' := 11) (ls' := [some (.inl a1)]) (st' := [.inl 1]) (I' := I) rfl rfl ?_
      refine g_goto hC dX8_isPlace_11 (tgt := 15) (by decide) ?_
      exact g_reti hC hr (by decide) dX8_isPlace_15 hv
set_option maxHeartbeats 4000000 in
set_option maxRecDepth 100000 in
theorem c_X8_isPlace (l : Launch) (D : va_G) (ads : AD) (I A : HI) (a1 : Int32) : Ct l yX8_isPlace cX8_isPlace 1 (some .boolean) 0 0 D ads shp [.inl a1] I A (qI (zP a1) I A) := by
  sorry
theorem bX8_arePlaces_0_1 : okB cX8_arePlaces RX8 0 [(3, 0, 0, 0, 0)] := And.intro ⟨_, dX8_arePlaces_0, rfl⟩ trivial
theorem bX8_arePlaces_24_25 : okB cX8_arePlaces RX8 24 [(0, 0, 0, 0, 0)] := And.intro ⟨_, dX8_arePlaces_24, by decide⟩ trivial
theorem bX8_arePlaces_4_7 : okB cX8_arePlaces RX8 4 [(3, 0, 0, 0, 0), (1, 0, 0, 0, 10)] := And.intro ⟨_, dX8_arePlaces_4, rfl⟩ (And.intro ⟨_, dX8_arePlaces_5, by decide⟩ trivial)
theorem bX8_arePlaces_10_11 : okB cX8_arePlaces RX8 10 [(3, 1, 0, 0, 0)] := And.intro ⟨_, dX8_arePlaces_10, rfl⟩ trivial
theorem bX8_arePlaces_14_17 : okB cX8_arePlaces RX8 14 [(3, 1, 0, 0, 0), (1, 0, 0, 0, 10)] := And.intro ⟨_, dX8_arePlaces_14, rfl⟩ (And.intro ⟨_, dX8_arePlaces_15, by decide⟩ trivial)
theorem bX8_arePlaces_20_21 : okB cX8_arePlaces RX8 20 [(0, 0, 0, 0, 1)] := And.intro ⟨_, dX8_arePlaces_20, by decide⟩ trivial
set_option maxHeartbeats 4000000 in
set_option maxRecDepth 100000 in
theorem k_X8_arePlaces (l : Launch) (D : va_G) (ads : AD) (I A : HI) (a1 : Int32) (a2 : Int32) (po : Option AV → HI → HI → Prop)
    (hv : ((a1 < 0 → po (some (.inl 0)) I A) ∧ (¬ a1 < 0 → ((10 ≤ a1 → po (some (.inl 0)) I A) ∧ (¬ 10 ≤ a1 → ((a2 < 0 → po (some (.inl 0)) I A) ∧ (¬ a2 < 0 → ((10 ≤ a2 → po (some (.inl 0)) I A) ∧ (¬ 10 ≤ a2 → po (some (.inl 1)) I A))))))))) : Ct l yX8_arePlaces cX8_arePlaces 2 (some .boolean) 0 0 D ads shp [.inl a1, .inl a2] I A po := by
  refine Ct_of (by decide) (Nat.le_of_ble_eq_true rfl) ?_
  intro p e s m args below meth c hC hr
  replace hC : CX p s m args meth c cX8_arePlaces 2 RX8 (AdS ads s.heap.size) := hC
  show Gm p l e s m args below meth c D ads 0 0 2 po I A 0 [some (.inl a1), some (.inl a2)] []
  refine g_blk hC _ bX8_arePlaces_0_1 (pc' := 1) (ls' := [some (.inl a1), some (.inl a2)]) (st' := [.inl a1]) (I' := I) rfl rfl ?_
  obtain ⟨hv1, hv2⟩ := hv
  refine g_iflt hC dX8_arePlaces_1 (tgt := 24) (by decide) (fun hc => ?_) (fun hc => ?_)
  · have hv := hv1 hc
    clear hv1 hv2 hc
    refine g_blk hC _ bX8_arePlaces_24_25 (pc' := 25) (ls' := [some (.inl a1), some (.inl a2)]) (st' := [.inl 0]) (I' := I) rfl rfl ?_
    exact g_reti hC hr (by decide) dX8_arePlaces_25 hv
  · have hv := hv2 hc
    clear hv1 hv2 hc
    refine g_blk hC _ bX8_arePlaces_4_7 (pc' := 7) (ls' := [some (.inl a1), some (.inl a2)]) (st' := [.inl 10, .inl a1]) (I' := I) rfl rfl ?_
    obtain ⟨hv1, hv2⟩ := hv
    refine g_cge hC dX8_arePlaces_7 (tgt := 24) (by decide) (fun hc => ?_) (fun hc => ?_)
    · have hv := hv1 hc
      clear hv1 hv2 hc
      refine g_blk hC _ bX8_arePlaces_24_25 (pc' := 25) (ls' := [some (.inl a1), some (.inl a2)]) (st' := [.inl 0]) (I' := I) rfl rfl ?_
      exact g_reti hC hr (by decide) dX8_arePlaces_25 hv
    · have hv := hv2 hc
      clear hv1 hv2 hc
      refine g_blk hC _ bX8_arePlaces_10_11 (pc' := 11) (ls' := [some (.inl a1), some (.inl a2)]) (st' := [.inl a2]) (I' := I) rfl rfl ?_
      obtain ⟨hv1, hv2⟩ := hv
      refine g_iflt hC dX8_arePlaces_11 (tgt := 24) (by decide) (fun hc => ?_) (fun hc => ?_)
      · have hv := hv1 hc
        clear hv1 hv2 hc
        refine g_blk hC _ bX8_arePlaces_24_25 (pc' := 25) (ls' := [some (.inl a1), some (.inl a2)]) (st' := [.inl 0]) (I' := I) rfl rfl ?_
        exact g_reti hC hr (by decide) dX8_arePlaces_25 hv
      · have hv := hv2 hc
        clear hv1 hv2 hc
        refine g_blk hC _ bX8_arePlaces_14_17 (pc' := 17) (ls' := [some (.inl a1), some (.inl a2)]) (st' := [.inl 10, .inl a2]) (I' := I) rfl rfl ?_
        obtain ⟨hv1, hv2⟩ := hv
        refine g_cge hC dX8_arePlaces_17 (tgt := 24) (by decide) (fun hc => ?_) (fun hc => ?_)
        · have hv := hv1 hc
          clear hv1 hv2 hc
          refine g_blk hC _ bX8_arePlaces_24_25 (pc' := 25) (ls' := [some (.inl a1), some (.inl a2)]) (st' := [.inl 0]) (I' := I) rfl rfl ?_
          exact g_reti hC hr (by decide) dX8_arePlaces_25 hv
        · have hv := hv2 hc
          clear hv1 hv2 hc
          refine g_blk hC _ bX8_arePlaces_20_21 (pc' := 21) (ls' := [some (.inl a1), some (.inl a2)]) (st' := [.inl 1]) (I' := I) rfl rfl ?_
          refine g_goto hC dX8_arePlaces_21 (tgt := 25) (by decide) ?_
          exact g_reti hC hr (by decide) dX8_arePlaces_25 hv
set_option maxHeartbeats 4000000 in
set_option maxRecDepth 100000 in
theorem c_X8_arePlaces (l : Launch) (D : va_G) (ads : AD) (I A : HI) (a1 : Int32) (a2 : Int32) : Ct l yX8_arePlaces cX8_arePlaces 2 (some .boolean) 0 0 D ads shp [.inl a1, .inl a2] I A (qI (zPP a1 a2) I A) := by
  sorry
theorem bX8_pair_0_5 : okB cX8_pair RX8 0 [(3, 0, 0, 0, 0), (0, 0, 0, 0, 5), (14, 0, 0, 0, 0), (3, 1, 0, 0, 0), (12, 0, 0, 0, 0)] := And.intro ⟨_, dX8_pair_0, rfl⟩ (And.intro ⟨_, dX8_pair_1, by decide⟩ (And.intro dX8_pair_2 (And.intro ⟨_, dX8_pair_3, rfl⟩ (And.intro dX8_pair_4 trivial))))
set_option maxHeartbeats 4000000 in
set_option maxRecDepth 100000 in
theorem k_X8_pair (l : Launch) (D : va_G) (ads : AD) (I A : HI) (a1 : Int32) (a2 : Int32) (po : Option AV → HI → HI → Prop)
    (hv : po (some (.inl ((a1 * 5) + a2))) I A) : Ct l yX8_pair cX8_pair 2 (some .int) 0 0 D ads shp [.inl a1, .inl a2] I A po := by
  refine Ct_of (by decide) (Nat.le_of_ble_eq_true rfl) ?_
  intro p e s m args below meth c hC hr
  replace hC : CX p s m args meth c cX8_pair 2 RX8 (AdS ads s.heap.size) := hC
  show Gm p l e s m args below meth c D ads 0 0 2 po I A 0 [some (.inl a1), some (.inl a2)] []
  refine g_blk hC _ bX8_pair_0_5 (pc' := 5) (ls' := [some (.inl a1), some (.inl a2)]) (st' := [.inl ((a1 * 5) + a2)]) (I' := I) rfl rfl ?_
  exact g_reti hC hr rfl dX8_pair_5 hv
set_option maxHeartbeats 4000000 in
set_option maxRecDepth 100000 in
theorem c_X8_pair (l : Launch) (D : va_G) (ads : AD) (I A : HI) (a1 : Int32) (a2 : Int32) : Ct l yX8_pair cX8_pair 2 (some .int) 0 0 D ads shp [.inl a1, .inl a2] I A (qI (a1 * 5 + a2) I A) := by
  sorry
theorem bJ7_fill_53178_0_3 : okB cJ7_fill_53178 RJ7 0 [(0, 0, 0, 0, 0), (7, 2, 0, 0, 0), (5, 0, 0, 0, 0)] := And.intro ⟨_, dJ7_fill_53178_0, by decide⟩ (And.intro ⟨_, dJ7_fill_53178_1, rfl⟩ (And.intro ⟨_, dJ7_fill_53178_2, rfl⟩ trivial))
theorem bJ7_fill_53178_4_5 : okB cJ7_fill_53178 RJ7 4 [(7, 3, 0, 0, 0)] := And.intro ⟨_, dJ7_fill_53178_4, rfl⟩ trivial
theorem bJ7_fill_53178_5_7 : okB cJ7_fill_53178 RJ7 5 [(3, 2, 0, 0, 0), (3, 3, 0, 0, 0)] := And.intro ⟨_, dJ7_fill_53178_5, rfl⟩ (And.intro ⟨_, dJ7_fill_53178_6, rfl⟩ trivial)
theorem bJ7_fill_53178_10_13 : okB cJ7_fill_53178 RJ7 10 [(5, 0, 0, 0, 0), (3, 2, 0, 0, 0), (3, 1, 0, 0, 0)] := And.intro ⟨_, dJ7_fill_53178_10, rfl⟩ (And.intro ⟨_, dJ7_fill_53178_11, rfl⟩ (And.intro ⟨_, dJ7_fill_53178_12, rfl⟩ trivial))
theorem bJ7_fill_53178_14_17 : okB cJ7_fill_53178 RJ7 14 [(11, 2, 0, 0, 1)] := And.intro ⟨_, dJ7_fill_53178_14, by decide⟩ trivial
set_option maxHeartbeats 4000000 in
set_option maxRecDepth 100000 in
theorem k_J7_fill_53178 (l : Launch) (D : va_G) (ads : AD) (I A : HI) (a2 : Int32) (k1 n1 : Nat) (hk1 : shp[k1]? = some (.inl n1)) (po : Option AV → HI → HI → Prop) (Iv5 : Int32 → HI → Prop) (mu5 : Int32 → HI → Nat)
    (hv : (Iv5 0 A ∧ ∀ (x2_5 : Int32) (A_5 : HI), Iv5 x2_5 A_5 → (((Int32.ofNat n1) ≤ x2_5 → po none I A_5) ∧ (¬ (Int32.ofNat n1) ≤ x2_5 → (vp_in x2_5 n1 ∧ (Iv5 (x2_5 + 1) (up2 A_5 k1 x2_5.toNatClampNeg a2) ∧ mu5 (x2_5 + 1) (up2 A_5 k1 x2_5.toNatClampNeg a2) < mu5 x2_5 A_5)))))) : Ct l yJ7_fill_53178 cJ7_fill_53178 4 none 0 0 D ads shp [.inr (some k1), .inl a2] I A po := by
  refine Ct_of (by decide) (Nat.le_of_ble_eq_true rfl) ?_
  intro p e s m args below meth c hC hr
  replace hC : CX p s m args meth c cJ7_fill_53178 4 RJ7 (AdS ads s.heap.size) := hC
  show Gm p l e s m args below meth c D ads 0 0 4 po I A 0 [some (.inr (some k1)), some (.inl a2), none, none] []
  refine g_blk hC _ bJ7_fill_53178_0_3 (pc' := 3) (ls' := [some (.inr (some k1)), some (.inl a2), some (.inl 0), none]) (st' := [.inr (some k1)]) (I' := I) rfl rfl ?_
  refine g_alen hC dJ7_fill_53178_3 (hk1) ?_
  refine g_blk hC _ bJ7_fill_53178_4_5 (pc' := 5) (ls' := [some (.inr (some k1)), some (.inl a2), some (.inl 0), some (.inl (Int32.ofNat n1))]) (st' := []) (I' := I) rfl rfl ?_
  obtain ⟨hi5, hb5⟩ := hv
  have L5 : ∀ (n : Nat) (x2_5 : Int32) (A_5 : HI), Iv5 x2_5 A_5 → mu5 x2_5 A_5 < n → Gm p l e s m args below meth c D ads 0 0 4 po I A_5 5 [some (.inr (some k1)), some (.inl a2), some (.inl x2_5), some (.inl (Int32.ofNat n1))] [] := by
    intro n
    induction n with
    | zero => intro x2_5 A_5 _ hn; exact absurd hn (Nat.not_lt_zero _)
    | succ n ih5 =>
      intro x2_5 A_5 hv hn5
      replace hv := hb5 x2_5 A_5 hv
      skip
      refine g_blk hC _ bJ7_fill_53178_5_7 (pc' := 7) (ls' := [some (.inr (some k1)), some (.inl a2), some (.inl x2_5), some (.inl (Int32.ofNat n1))]) (st' := [.inl (Int32.ofNat n1), .inl x2_5]) (I' := I) rfl rfl ?_
      obtain ⟨hv1, hv2⟩ := hv
      refine g_cge hC dJ7_fill_53178_7 (tgt := 20) (by decide) (fun hc => ?_) (fun hc => ?_)
      · have hv := hv1 hc
        clear hv1 hv2 hc
        exact g_retv hC hr dJ7_fill_53178_20 hv
      · have hv := hv2 hc
        clear hv1 hv2 hc
        refine g_blk hC _ bJ7_fill_53178_10_13 (pc' := 13) (ls' := [some (.inr (some k1)), some (.inl a2), some (.inl x2_5), some (.inl (Int32.ofNat n1))]) (st' := [.inl a2, .inl x2_5, .inr (some k1)]) (I' := I) rfl rfl ?_
        obtain ⟨hi, hv⟩ := hv
        refine g_iast hC dJ7_fill_53178_13 (hk1) hi ?_
        clear hi
        refine g_blk hC _ bJ7_fill_53178_14_17 (pc' := 17) (ls' := [some (.inr (some k1)), some (.inl a2), some (.inl (x2_5 + 1)), some (.inl (Int32.ofNat n1))]) (st' := []) (I' := I) rfl rfl ?_
        refine g_goto hC dJ7_fill_53178_17 (tgt := 5) (by decide) ?_
        exact g_weak (ls1 := [some (.inr (some k1)), some (.inl a2), some (.inl (x2_5 + 1)), some (.inl (Int32.ofNat n1))]) rfl (And.intro rfl (And.intro rfl (And.intro rfl (And.intro rfl trivial)))) (ih5 (x2_5 + 1) (up2 A_5 k1 x2_5.toNatClampNeg a2) hv.1 (Nat.lt_of_lt_of_le hv.2 (Nat.le_of_lt_succ hn5)))
  exact g_weak (ls1 := [some (.inr (some k1)), some (.inl a2), some (.inl 0), some (.inl (Int32.ofNat n1))]) rfl (And.intro rfl (And.intro rfl (And.intro rfl (And.intro rfl trivial)))) (L5 _ 0 A hi5 (Nat.lt_succ_self _))
set_option maxHeartbeats 4000000 in
set_option maxRecDepth 100000 in
theorem c_J7_fill_53178 (l : Launch) (D : va_G) (ads : AD) (I A : HI) (k1 : Nat) (a2 : Int32) (n1 : Nat) (hk1 : shp[k1]? = some (.inl n1)) (hn1 : n1 < 2 ^ 31) : Ct l yJ7_fill_53178 cJ7_fill_53178 4 none 0 0 D ads shp [.inr (some k1), .inl a2] I A (qN I (filA A k1 n1 a2)) := by
  sorry
