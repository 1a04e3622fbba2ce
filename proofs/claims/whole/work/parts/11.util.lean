/-! small words of numbers -/
def zP (x : Int32) : Int32 := if x < 0 ∨ 10 ≤ x then 0 else 1
def zPP (x y : Int32) : Int32 := if (x < 0 ∨ 10 ≤ x) ∨ (y < 0 ∨ 10 ≤ y) then 0 else 1
def mxI (x y : Int32) : Int32 := if x < y then y else x
def mnI (x y : Int32) : Int32 := if y < x then y else x
def filA (A : HI) (k n : Nat) (v : Int32) : HI := fun a b => if a = k ∧ b < n then v else A a b
section GX
variable {p : Program} {l : Launch} {e : Env} {R : Room} {s : State} {m : MethodId} {args : Array Value} {below : List Frame} {meth : Method} {c : Code} {Q : State → Prop} {D : va_G} {B : Nat → Prop} {nL cells slots : Nat} {ads : AD} {sh : SH} {I A : HI} {pc : Nat} {ls : List (Option AV)} {st : List AV} {cc : ByteArray} {own : String}
theorem wm_max : Cond.static Lib.Math.max.name ∈ gtbl ∧ Cond.initialized "java/lang/Math" ∈ gtbl ∧ Cond.code Lib.Math.max.name Lib.Math.max.code 2 (some .int) ∈ gtbl := ⟨gt_of (List.mem_append_right _ (by decide +kernel)) (by decide +kernel), gt_of (List.mem_append_right _ (by decide +kernel)) (by decide +kernel), gt_of (List.mem_append_right _ (by decide +kernel)) (by decide +kernel)⟩
theorem wm_min : Cond.static Lib.Math.min.name ∈ gtbl ∧ Cond.initialized "java/lang/Math" ∈ gtbl ∧ Cond.code Lib.Math.min.name Lib.Math.min.code 2 (some .int) ∈ gtbl := ⟨gt_of (List.mem_append_right _ (by decide +kernel)) (by decide +kernel), gt_of (List.mem_append_right _ (by decide +kernel)) (by decide +kernel), gt_of (List.mem_append_right _ (by decide +kernel)) (by decide +kernel)⟩
theorem g_max (hC : CX p s m args meth c cc nL own B) {x y : Int32} {idx : Nat} (hd : decode cc pc = .ok (.invokestatic idx, 3)) (hw : Cond.methodLink own idx Lib.Math.max.name ∈ gtbl) (hf : 1 ≤ R.frames) (hl : st.length + 13 ≤ R.locals) (hc : cells ≤ R.cells ∧ slots ≤ R.slots) (k : G p l e R s m args below meth c Q D B nL cells slots ads sh I A (pc + 3) ls (.inl (mxI x y) :: st)) : G p l e R s m args below meth c Q D B nL cells slots ads sh I A pc ls (.inl y :: .inl x :: st) := by
  intro H locs a hR hL
  have hts := hC.2.2.2.2.1
  exact va_mmax hC.1 hC.2.1 (hC.2.2.1.trans hL.1.symm) hC.2.2.2.1 (hts _ hw) (hts _ wm_max.1) (hts _ wm_max.2.1) (hts _ wm_max.2.2) hf (by rw [stv]; exact hl) hc.1 hc.2 hd (k H locs a hR hL)
theorem g_min (hC : CX p s m args meth c cc nL own B) {x y : Int32} {idx : Nat} (hd : decode cc pc = .ok (.invokestatic idx, 3)) (hw : Cond.methodLink own idx Lib.Math.min.name ∈ gtbl) (hf : 1 ≤ R.frames) (hl : st.length + 13 ≤ R.locals) (hc : cells ≤ R.cells ∧ slots ≤ R.slots) (k : G p l e R s m args below meth c Q D B nL cells slots ads sh I A (pc + 3) ls (.inl (mnI x y) :: st)) : G p l e R s m args below meth c Q D B nL cells slots ads sh I A pc ls (.inl y :: .inl x :: st) := by
  intro H locs a hR hL
  have hts := hC.2.2.2.2.1
  exact va_mmin hC.1 hC.2.1 (hC.2.2.1.trans hL.1.symm) hC.2.2.2.1 (hts _ hw) (hts _ wm_min.1) (hts _ wm_min.2.1) (hts _ wm_min.2.2) hf (by rw [stv]; exact hl) hc.1 hc.2 hd (k H locs a hR hL)
end GX

theorem qI_i {x v : Int32} {I A : HI} (h : x = v) : qI v I A (some (.inl x)) I A := ⟨by rw [h], rfl, rfl⟩
theorem qN_i {I A I' A' : HI} (h1 : I' = I) (h2 : A' = A) : qN I A none I' A' := ⟨rfl, h1, h2⟩
theorem qV_i {P : HI → HI → Prop} {I A : HI} (h : P I A) : qV P none I A := ⟨rfl, h⟩
theorem qJ_i {P : Int32 → HI → HI → Prop} {v : Int32} {I A : HI} (h : P v I A) : qJ P (some (.inl v)) I A := ⟨v, rfl, h⟩
/-! counters -/
theorem cn_lt {x : Int32} {j N : Nat} (h : x = nI j) (hj : j ≤ N) (hN : N < 2 ^ 31) (hc : ¬ nI N ≤ x) : j < N := by
  rcases Nat.lt_or_ge j N with q | q
  · exact q
  · exact absurd (by rw [h]; exact nI_le q (by omega)) hc
theorem cn_eq {x : Int32} {j N : Nat} (h : x = nI j) (hj : j ≤ N) (hN : N < 2 ^ 31) (hc : nI N ≤ x) : j = N := by
  rcases Nat.lt_or_ge j N with q | q
  · exact absurd (by rw [h] at hc; exact hc) (nI_ge q hN)
  · omega
theorem cn_mu {j N : Nat} (h : j < N) (hN : N < 2 ^ 31) : N - (nI j + 1).toNatClampNeg < N - (nI j).toNatClampNeg := by
  rw [nI_1, nI_clamp (by omega), nI_clamp (by omega)]
  omega
theorem cl_n {j : Nat} (h : j < 2 ^ 31) : (nI j).toNatClampNeg = j := nI_clamp h
theorem zP_ne {x : Int32} (h : ¬ zP x = 0) : ∃ j, j < 10 ∧ x = nI j := by
  unfold zP at h
  split at h
  · exact absurd rfl h
  · rename_i q
    have q1 : ¬ x < 0 := fun z => q (Or.inl z)
    have q2 : ¬ nI 10 ≤ x := fun z => q (Or.inr z)
    obtain ⟨j, h1, h2⟩ := nI_of q1
    refine ⟨j, ?_, h2⟩
    rcases Nat.lt_or_ge j 10 with z | z
    · exact z
    · exact absurd (by rw [h2]; exact nI_le z h1) q2
theorem zP_of {j : Nat} (h : j < 10) : zP (nI j) = 1 := by
  have : ∀ j, j < 10 → zP (nI j) = 1 := by decide +kernel
  exact this j h
theorem zPP_ne {x y : Int32} (h : ¬ zPP x y = 0) : ∃ i j, i < 10 ∧ j < 10 ∧ x = nI i ∧ y = nI j := by
  have hx : ¬ zP x = 0 := by
    intro z
    apply h
    unfold zPP
    unfold zP at z
    split at z
    · rename_i q
      rw [if_pos (Or.inl q)]
    · cases z
  have hy : ¬ zP y = 0 := by
    intro z
    apply h
    unfold zPP
    unfold zP at z
    split at z
    · rename_i q
      rw [if_pos (Or.inr q)]
    · cases z
  obtain ⟨i, a1, a2⟩ := zP_ne hx
  obtain ⟨j, b1, b2⟩ := zP_ne hy
  exact ⟨i, j, a1, b1, a2, b2⟩
theorem zPP_of {i j : Nat} (h : i < 10) (h2 : j < 10) : zPP (nI i) (nI j) = 1 := by
  have : ∀ i, i < 10 → ∀ j, j < 10 → zPP (nI i) (nI j) = 1 := by decide +kernel
  exact this i h j h2
theorem ix_a (i j : Nat) : nI i * 10 + nI j = nI (10 * i + j) := by
  rw [show (10 : Int32) = nI 10 from rfl, pk_mul, nI_add, Nat.mul_comm]
theorem ix_b (i j : Nat) : 10 * nI i + nI j = nI (10 * i + j) := by
  rw [show (10 : Int32) = nI 10 from rfl, pk_mul, nI_add]
theorem ix_5 (i j : Nat) : nI i * 5 + nI j = nI (5 * i + j) := by
  rw [show (5 : Int32) = nI 5 from rfl, pk_mul, nI_add, Nat.mul_comm]
theorem vi_pp {x y : Int32} (h : ¬ zPP x y = 0) : vp_in (x * 10 + y) 100 := by
  obtain ⟨i, j, h1, h2, rfl, rfl⟩ := zPP_ne h
  rw [ix_a]
  exact vp_in_nI (by omega) (by omega)
theorem vi_ab {x y : Int32} (h1 : vp_in x 10) (h2 : vp_in y 10) : vp_in (x * 10 + y) 100 ∧ vp_in (10 * x + y) 100 := by
  obtain ⟨i, hi, rfl⟩ := vp_in_of h1 (by omega)
  obtain ⟨j, hj, rfl⟩ := vp_in_of h2 (by omega)
  rw [ix_a, ix_b]
  exact ⟨vp_in_nI (by omega) (by omega), vp_in_nI (by omega) (by omega)⟩
theorem vi_mono {x : Int32} {a b : Nat} (h : vp_in x a) (hab : a ≤ b) : vp_in x b := fun q => h (q.elim Or.inl (fun z => Or.inr (Nat.le_trans hab z)))
theorem nle {x y : Int32} (h : ¬ x ≤ y) : y < x := Int32.not_le.mp h
theorem nlt {x y : Int32} (h : ¬ x < y) : y ≤ x := Int32.not_lt.mp h
theorem le_nlt {x y : Int32} (h : x ≤ y) : ¬ y < x := Int32.not_lt.mpr h
theorem lt_nle {x y : Int32} (h : x < y) : ¬ y ≤ x := Int32.not_le.mpr h
theorem bX8_isPlace_0_1 : okB cX8_isPlace RX8 0 [(3, 0, 0, 0, 0)] := And.intro ⟨_, dX8_isPlace_0, rfl⟩ trivial
theorem bX8_isPlace_14_15 : okB cX8_isPlace RX8 14 [(0, 0, 0, 0, 0)] := And.intro ⟨_, dX8_isPlace_14, by decide⟩ trivial
theorem bX8_isPlace_4_7 : okB cX8_isPlace RX8 4 [(3, 0, 0, 0, 0), (1, 0, 0, 0, 10)] := And.intro ⟨_, dX8_isPlace_4, rfl⟩ (And.intro ⟨_, dX8_isPlace_5, by decide⟩ trivial)
theorem bX8_isPlace_10_11 : okB cX8_isPlace RX8 10 [(0, 0, 0, 0, 1)] := And.intro ⟨_, dX8_isPlace_10, by decide⟩ trivial
set_option maxHeartbeats 4000000 in
set_option maxRecDepth 100000 in
theorem k_X8_isPlace (l : Launch) (D : va_G) (ads : AD) (I A : HI) (a1 : Int32) (po : Option AV → HI → HI → Prop)
    (hv : ((a1 < 0 → po (some (.inl 0)) I A) ∧ (¬ a1 < 0 → ((10 ≤ a1 → po (some (.inl 0)) I A) ∧ (¬ 10 ≤ a1 → po (some (.inl 1)) I A))))) : Ct l yX8_isPlace cX8_isPlace 1 (some .boolean) 0 0 D ads shp [.inl a1] I A po := by
  refine Ct_of (by decide) (Nat.le_of_ble_eq_true rfl) ?_
  intro p e s m args below meth c hC hr
  replace hC : CX p s m args meth c cX8_isPlace 1 RX8 (AdS ads s.heap.size) := hC
  show Gm p l e s m args below meth c D ads 0 0 1 po I A 0 [some (.inl a1)] []
  refine g_blk hC _ bX8_isPlace_0_1 (pc' := 1) (ls' := [some (.inl a1)]) (st' := [.inl a1]) (I' := I) rfl rfl ?_
  obtain ⟨hv1, hv2⟩ := hv
  refine g_iflt hC dX8_isPlace_1 (tgt := 14) (by decide) (fun hc => ?_) (fun hc => ?_)
  · have hv := hv1 hc
    clear hv1 hv2 hc
    refine g_blk hC _ bX8_isPlace_14_15 (pc' := 15) (ls' := [some (.inl a1)]) (st' := [.inl 0]) (I' := I) rfl rfl ?_
    exact g_reti hC hr (by decide) dX8_isPlace_15 hv
  · have hv := hv2 hc
    clear hv1 hv2 hc
    refine g_blk hC _ bX8_isPlace_4_7 (pc' := 7) (ls' := [some (.inl a1)]) (st' := [.inl 10, .inl a1]) (I' := I) rfl rfl ?_
    obtain ⟨hv1, hv2⟩ := hv
    refine g_cge hC dX8_isPlace_7 (tgt := 14) (by decide) (fun hc => ?_) (fun hc => ?_)
    · have hv := hv1 hc
      clear hv1 hv2 hc
      refine g_blk hC _ bX8_isPlace_14_15 (pc' := 15) (ls' := [some (.inl a1)]) (st' := [.inl 0]) (I' := I) rfl rfl ?_
      exact g_reti hC hr (by decide) dX8_isPlace_15 hv
    · have hv := hv2 hc
      clear hv1 hv2 hc
      refine g_blk hC _ bX8_isPlace_10_11 (pc' := 11) (ls' := [some (.inl a1)]) (st' := [.inl 1]) (I' := I) rfl rfl ?_
      refine g_goto hC dX8_isPlace_11 (tgt := 15) (by decide) ?_
      exact g_reti hC hr (by decide) dX8_isPlace_15 hv
set_option maxHeartbeats 4000000 in
set_option maxRecDepth 100000 in
theorem c_X8_isPlace (l : Launch) (D : va_G) (ads : AD) (I A : HI) (a1 : Int32) : Ct l yX8_isPlace cX8_isPlace 1 (some .boolean) 0 0 D ads shp [.inl a1] I A (qI (zP a1) I A) := by
  refine k_X8_isPlace l D ads I A a1 _ ⟨fun h => qI_i ?_, fun h => ⟨fun h2 => qI_i ?_, fun h2 => qI_i ?_⟩⟩ <;> simp [zP, *]
theorem bX8_arePlaces_0_1 : okB cX8_arePlaces RX8 0 [(3, 0, 0, 0, 0)] := And.intro ⟨_, dX8_arePlaces_0, rfl⟩ trivial
theorem bX8_arePlaces_24_25 : okB cX8_arePlaces RX8 24 [(0, 0, 0, 0, 0)] := And.intro ⟨_, dX8_arePlaces_24, by decide⟩ trivial
theorem bX8_arePlaces_4_7 : okB cX8_arePlaces RX8 4 [(3, 0, 0, 0, 0), (1, 0, 0, 0, 10)] := And.intro ⟨_, dX8_arePlaces_4, rfl⟩ (And.intro ⟨_, dX8_arePlaces_5, by decide⟩ trivial)
theorem bX8_arePlaces_10_11 : okB cX8_arePlaces RX8 10 [(3, 1, 0, 0, 0)] := And.intro ⟨_, dX8_arePlaces_10, rfl⟩ trivial
theorem bX8_arePlaces_14_17 : okB cX8_arePlaces RX8 14 [(3, 1, 0, 0, 0), (1, 0, 0, 0, 10)] := And.intro ⟨_, dX8_arePlaces_14, rfl⟩ (And.intro ⟨_, dX8_arePlaces_15, by decide⟩ trivial)
theorem bX8_arePlaces_20_21 : okB cX8_arePlaces RX8 20 [(0, 0, 0, 0, 1)] := And.intro ⟨_, dX8_arePlaces_20, by decide⟩ trivial
set_option maxHeartbeats 4000000 in
set_option maxRecDepth 100000 in
theorem k_X8_arePlaces (l : Launch) (D : va_G) (ads : AD) (I A : HI) (a1 : Int32) (a2 : Int32) (po : Option AV → HI → HI → Prop)
    (hv : ((a1 < 0 → po (some (.inl 0)) I A) ∧ (¬ a1 < 0 → ((10 ≤ a1 → po (some (.inl 0)) I A) ∧ (¬ 10 ≤ a1 → ((a2 < 0 → po (some (.inl 0)) I A) ∧ (¬ a2 < 0 → ((10 ≤ a2 → po (some (.inl 0)) I A) ∧ (¬ 10 ≤ a2 → po (some (.inl 1)) I A))))))))) : Ct l yX8_arePlaces cX8_arePlaces 2 (some .boolean) 0 0 D ads shp [.inl a1, .inl a2] I A po := by
  refine Ct_of (by decide) (Nat.le_of_ble_eq_true rfl) ?_
  intro p e s m args below meth c hC hr
  replace hC : CX p s m args meth c cX8_arePlaces 2 RX8 (AdS ads s.heap.size) := hC
  show Gm p l e s m args below meth c D ads 0 0 2 po I A 0 [some (.inl a1), some (.inl a2)] []
  refine g_blk hC _ bX8_arePlaces_0_1 (pc' := 1) (ls' := [some (.inl a1), some (.inl a2)]) (st' := [.inl a1]) (I' := I) rfl rfl ?_
  obtain ⟨hv1, hv2⟩ := hv
  refine g_iflt hC dX8_arePlaces_1 (tgt := 24) (by decide) (fun hc => ?_) (fun hc => ?_)
  · have hv := hv1 hc
    clear hv1 hv2 hc
    refine g_blk hC _ bX8_arePlaces_24_25 (pc' := 25) (ls' := [some (.inl a1), some (.inl a2)]) (st' := [.inl 0]) (I' := I) rfl rfl ?_
    exact g_reti hC hr (by decide) dX8_arePlaces_25 hv
  · have hv := hv2 hc
    clear hv1 hv2 hc
    refine g_blk hC _ bX8_arePlaces_4_7 (pc' := 7) (ls' := [some (.inl a1), some (.inl a2)]) (st' := [.inl 10, .inl a1]) (I' := I) rfl rfl ?_
    obtain ⟨hv1, hv2⟩ := hv
    refine g_cge hC dX8_arePlaces_7 (tgt := 24) (by decide) (fun hc => ?_) (fun hc => ?_)
    · have hv := hv1 hc
      clear hv1 hv2 hc
      refine g_blk hC _ bX8_arePlaces_24_25 (pc' := 25) (ls' := [some (.inl a1), some (.inl a2)]) (st' := [.inl 0]) (I' := I) rfl rfl ?_
      exact g_reti hC hr (by decide) dX8_arePlaces_25 hv
    · have hv := hv2 hc
      clear hv1 hv2 hc
      refine g_blk hC _ bX8_arePlaces_10_11 (pc' := 11) (ls' := [some (.inl a1), some (.inl a2)]) (st' := [.inl a2]) (I' := I) rfl rfl ?_
      obtain ⟨hv1, hv2⟩ := hv
      refine g_iflt hC dX8_arePlaces_11 (tgt := 24) (by decide) (fun hc => ?_) (fun hc => ?_)
      · have hv := hv1 hc
        clear hv1 hv2 hc
        refine g_blk hC _ bX8_arePlaces_24_25 (pc' := 25) (ls' := [some (.inl a1), some (.inl a2)]) (st' := [.inl 0]) (I' := I) rfl rfl ?_
        exact g_reti hC hr (by decide) dX8_arePlaces_25 hv
      · have hv := hv2 hc
        clear hv1 hv2 hc
        refine g_blk hC _ bX8_arePlaces_14_17 (pc' := 17) (ls' := [some (.inl a1), some (.inl a2)]) (st' := [.inl 10, .inl a2]) (I' := I) rfl rfl ?_
        obtain ⟨hv1, hv2⟩ := hv
        refine g_cge hC dX8_arePlaces_17 (tgt := 24) (by decide) (fun hc => ?_) (fun hc => ?_)
        · have hv := hv1 hc
          clear hv1 hv2 hc
          refine g_blk hC _ bX8_arePlaces_24_25 (pc' := 25) (ls' := [some (.inl a1), some (.inl a2)]) (st' := [.inl 0]) (I' := I) rfl rfl ?_
          exact g_reti hC hr (by decide) dX8_arePlaces_25 hv
        · have hv := hv2 hc
          clear hv1 hv2 hc
          refine g_blk hC _ bX8_arePlaces_20_21 (pc' := 21) (ls' := [some (.inl a1), some (.inl a2)]) (st' := [.inl 1]) (I' := I) rfl rfl ?_
          refine g_goto hC dX8_arePlaces_21 (tgt := 25) (by decide) ?_
          exact g_reti hC hr (by decide) dX8_arePlaces_25 hv
set_option maxHeartbeats 4000000 in
set_option maxRecDepth 100000 in
theorem c_X8_arePlaces (l : Launch) (D : va_G) (ads : AD) (I A : HI) (a1 : Int32) (a2 : Int32) : Ct l yX8_arePlaces cX8_arePlaces 2 (some .boolean) 0 0 D ads shp [.inl a1, .inl a2] I A (qI (zPP a1 a2) I A) := by
  refine k_X8_arePlaces l D ads I A a1 a2 _ ⟨fun h => qI_i ?_, fun h => ⟨fun h2 => qI_i ?_, fun h2 => ⟨fun h3 => qI_i ?_, fun h3 => ⟨fun h4 => qI_i ?_, fun h4 => qI_i ?_⟩⟩⟩⟩ <;> simp [zPP, *]
theorem bX8_pair_0_5 : okB cX8_pair RX8 0 [(3, 0, 0, 0, 0), (0, 0, 0, 0, 5), (14, 0, 0, 0, 0), (3, 1, 0, 0, 0), (12, 0, 0, 0, 0)] := And.intro ⟨_, dX8_pair_0, rfl⟩ (And.intro ⟨_, dX8_pair_1, by decide⟩ (And.intro dX8_pair_2 (And.intro ⟨_, dX8_pair_3, rfl⟩ (And.intro dX8_pair_4 trivial))))
set_option maxHeartbeats 4000000 in
set_option maxRecDepth 100000 in
theorem k_X8_pair (l : Launch) (D : va_G) (ads : AD) (I A : HI) (a1 : Int32) (a2 : Int32) (po : Option AV → HI → HI → Prop)
    (hv : po (some (.inl ((a1 * 5) + a2))) I A) : Ct l yX8_pair cX8_pair 2 (some .int) 0 0 D ads shp [.inl a1, .inl a2] I A po := by
  refine Ct_of (by decide) (Nat.le_of_ble_eq_true rfl) ?_
  intro p e s m args below meth c hC hr
  replace hC : CX p s m args meth c cX8_pair 2 RX8 (AdS ads s.heap.size) := hC
  show Gm p l e s m args below meth c D ads 0 0 2 po I A 0 [some (.inl a1), some (.inl a2)] []
  refine g_blk hC _ bX8_pair_0_5 (pc' := 5) (ls' := [some (.inl a1), some (.inl a2)]) (st' := [.inl ((a1 * 5) + a2)]) (I' := I) rfl rfl ?_
  exact g_reti hC hr rfl dX8_pair_5 hv
set_option maxHeartbeats 4000000 in
set_option maxRecDepth 100000 in
theorem c_X8_pair (l : Launch) (D : va_G) (ads : AD) (I A : HI) (a1 : Int32) (a2 : Int32) : Ct l yX8_pair cX8_pair 2 (some .int) 0 0 D ads shp [.inl a1, .inl a2] I A (qI (a1 * 5 + a2) I A) := by
  exact k_X8_pair l D ads I A a1 a2 _ (qI_i rfl)
theorem bJ7_fill_53178_0_3 : okB cJ7_fill_53178 RJ7 0 [(0, 0, 0, 0, 0), (7, 2, 0, 0, 0), (5, 0, 0, 0, 0)] := And.intro ⟨_, dJ7_fill_53178_0, by decide⟩ (And.intro ⟨_, dJ7_fill_53178_1, rfl⟩ (And.intro ⟨_, dJ7_fill_53178_2, rfl⟩ trivial))
theorem bJ7_fill_53178_4_5 : okB cJ7_fill_53178 RJ7 4 [(7, 3, 0, 0, 0)] := And.intro ⟨_, dJ7_fill_53178_4, rfl⟩ trivial
theorem bJ7_fill_53178_5_7 : okB cJ7_fill_53178 RJ7 5 [(3, 2, 0, 0, 0), (3, 3, 0, 0, 0)] := And.intro ⟨_, dJ7_fill_53178_5, rfl⟩ (And.intro ⟨_, dJ7_fill_53178_6, rfl⟩ trivial)
theorem bJ7_fill_53178_10_13 : okB cJ7_fill_53178 RJ7 10 [(5, 0, 0, 0, 0), (3, 2, 0, 0, 0), (3, 1, 0, 0, 0)] := And.intro ⟨_, dJ7_fill_53178_10, rfl⟩ (And.intro ⟨_, dJ7_fill_53178_11, rfl⟩ (And.intro ⟨_, dJ7_fill_53178_12, rfl⟩ trivial))
theorem bJ7_fill_53178_14_17 : okB cJ7_fill_53178 RJ7 14 [(11, 2, 0, 0, 1)] := And.intro ⟨_, dJ7_fill_53178_14, by decide⟩ trivial
set_option maxHeartbeats 4000000 in
set_option maxRecDepth 100000 in
theorem k_J7_fill_53178 (l : Launch) (D : va_G) (ads : AD) (I A : HI) (a2 : Int32) (k1 n1 : Nat) (hk1 : shp[k1]? = some (.inl n1)) (po : Option AV → HI → HI → Prop) (Iv5 : Int32 → HI → Prop) (mu5 : Int32 → HI → Nat)
    (hv : (Iv5 0 A ∧ ∀ (x2_5 : Int32) (A_5 : HI), Iv5 x2_5 A_5 → (((Int32.ofNat n1) ≤ x2_5 → po none I A_5) ∧ (¬ (Int32.ofNat n1) ≤ x2_5 → (vp_in x2_5 n1 ∧ (Iv5 (x2_5 + 1) (up2 A_5 k1 x2_5.toNatClampNeg a2) ∧ mu5 (x2_5 + 1) (up2 A_5 k1 x2_5.toNatClampNeg a2) < mu5 x2_5 A_5)))))) : Ct l yJ7_fill_53178 cJ7_fill_53178 4 none 0 0 D ads shp [.inr (some k1), .inl a2] I A po := by
  refine Ct_of (by decide) (Nat.le_of_ble_eq_true rfl) ?_
  intro p e s m args below meth c hC hr
  replace hC : CX p s m args meth c cJ7_fill_53178 4 RJ7 (AdS ads s.heap.size) := hC
  show Gm p l e s m args below meth c D ads 0 0 4 po I A 0 [some (.inr (some k1)), some (.inl a2), none, none] []
  refine g_blk hC _ bJ7_fill_53178_0_3 (pc' := 3) (ls' := [some (.inr (some k1)), some (.inl a2), some (.inl 0), none]) (st' := [.inr (some k1)]) (I' := I) rfl rfl ?_
  refine g_alen hC dJ7_fill_53178_3 (hk1) ?_
  refine g_blk hC _ bJ7_fill_53178_4_5 (pc' := 5) (ls' := [some (.inr (some k1)), some (.inl a2), some (.inl 0), some (.inl (Int32.ofNat n1))]) (st' := []) (I' := I) rfl rfl ?_
  obtain ⟨hi5, hb5⟩ := hv
  have L5 : ∀ (n : Nat) (x2_5 : Int32) (A_5 : HI), Iv5 x2_5 A_5 → mu5 x2_5 A_5 < n → Gm p l e s m args below meth c D ads 0 0 4 po I A_5 5 [some (.inr (some k1)), some (.inl a2), some (.inl x2_5), some (.inl (Int32.ofNat n1))] [] := by
    intro n
    induction n with
    | zero => intro x2_5 A_5 _ hn; exact absurd hn (Nat.not_lt_zero _)
    | succ n ih5 =>
      intro x2_5 A_5 hv hn5
      replace hv := hb5 x2_5 A_5 hv
      skip
      refine g_blk hC _ bJ7_fill_53178_5_7 (pc' := 7) (ls' := [some (.inr (some k1)), some (.inl a2), some (.inl x2_5), some (.inl (Int32.ofNat n1))]) (st' := [.inl (Int32.ofNat n1), .inl x2_5]) (I' := I) rfl rfl ?_
      obtain ⟨hv1, hv2⟩ := hv
      refine g_cge hC dJ7_fill_53178_7 (tgt := 20) (by decide) (fun hc => ?_) (fun hc => ?_)
      · have hv := hv1 hc
        clear hv1 hv2 hc
        exact g_retv hC hr dJ7_fill_53178_20 hv
      · have hv := hv2 hc
        clear hv1 hv2 hc
        refine g_blk hC _ bJ7_fill_53178_10_13 (pc' := 13) (ls' := [some (.inr (some k1)), some (.inl a2), some (.inl x2_5), some (.inl (Int32.ofNat n1))]) (st' := [.inl a2, .inl x2_5, .inr (some k1)]) (I' := I) rfl rfl ?_
        obtain ⟨hi, hv⟩ := hv
        refine g_iast hC dJ7_fill_53178_13 (hk1) hi ?_
        clear hi
        refine g_blk hC _ bJ7_fill_53178_14_17 (pc' := 17) (ls' := [some (.inr (some k1)), some (.inl a2), some (.inl (x2_5 + 1)), some (.inl (Int32.ofNat n1))]) (st' := []) (I' := I) rfl rfl ?_
        refine g_goto hC dJ7_fill_53178_17 (tgt := 5) (by decide) ?_
        exact g_weak (ls1 := [some (.inr (some k1)), some (.inl a2), some (.inl (x2_5 + 1)), some (.inl (Int32.ofNat n1))]) rfl (And.intro rfl (And.intro rfl (And.intro rfl (And.intro rfl trivial)))) (ih5 (x2_5 + 1) (up2 A_5 k1 x2_5.toNatClampNeg a2) hv.1 (Nat.lt_of_lt_of_le hv.2 (Nat.le_of_lt_succ hn5)))
  exact g_weak (ls1 := [some (.inr (some k1)), some (.inl a2), some (.inl 0), some (.inl (Int32.ofNat n1))]) rfl (And.intro rfl (And.intro rfl (And.intro rfl (And.intro rfl trivial)))) (L5 _ 0 A hi5 (Nat.lt_succ_self _))
set_option maxHeartbeats 4000000 in
set_option maxRecDepth 100000 in
theorem c_J7_fill_53178 (l : Launch) (D : va_G) (ads : AD) (I A : HI) (k1 : Nat) (a2 : Int32) (n1 : Nat) (hk1 : shp[k1]? = some (.inl n1)) (hn1 : n1 < 2 ^ 31) : Ct l yJ7_fill_53178 cJ7_fill_53178 4 none 0 0 D ads shp [.inr (some k1), .inl a2] I A (qN I (filA A k1 n1 a2)) := by
  refine k_J7_fill_53178 l D ads I A a2 k1 n1 hk1 _ (fun x A' => ∃ j, j ≤ n1 ∧ x = nI j ∧ A' = filA A k1 j a2) (fun x _ => n1 - x.toNatClampNeg) ⟨⟨0, Nat.zero_le _, rfl, ?_⟩, ?_⟩
  · funext a b
    simp [filA]
  · rintro x A' ⟨j, h1, rfl, rfl⟩
    refine ⟨fun h => ?_, fun h => ?_⟩
    · have e := cn_eq rfl h1 hn1 h
      subst e
      exact qN_i rfl rfl
    · have hj := cn_lt rfl h1 hn1 h
      refine ⟨vp_in_nI hj hn1, ⟨j + 1, hj, nI_1 j, ?_⟩, cn_mu hj hn1⟩
      rw [cl_n (by omega)]
      funext a b
      unfold up2 filA
      by_cases e1 : a = k1
      · by_cases e2 : b = j
        · simp [e1, e2]
        · by_cases e3 : b < j
          · simp [e1, e2, e3, Nat.lt_succ_of_lt e3]
          · simp [e1, e2, e3, show ¬ b < j + 1 by omega]
      · simp [e1]
