/-! the first state, the law's loop, its start -/
theorem nm_X8_init : nmOk yX8_init 0 := ⟨by decide +kernel, by decide +kernel, by decide +kernel⟩
theorem wl_L_9 : Cond.methodLink RL 9 yX8_init ∈ gtbl := gt_of (List.mem_append_right _ (List.mem_of_getElem? (i := 15) (by decide +kernel))) (by decide +kernel)
theorem wi_X8_init : Cond.instanceMethod yX8_init ∈ gtbl := gt_of (List.mem_append_right _ (List.mem_of_getElem? (i := 16) (by decide +kernel))) (by decide +kernel)
theorem wc_X8_init : Cond.code yX8_init cX8_init 1 none ∈ gtbl := gt_of (List.mem_append_right _ (List.mem_of_getElem? (i := 17) (by decide +kernel))) (by decide +kernel)
theorem nm_X9_init : nmOk yX9_init 0 := ⟨by decide +kernel, by decide +kernel, by decide +kernel⟩
theorem wl_L_12 : Cond.methodLink RL 12 yX9_init ∈ gtbl := gt_of (List.mem_append_right _ (List.mem_of_getElem? (i := 686) (by decide +kernel))) (by decide +kernel)
theorem wi_X9_init : Cond.instanceMethod yX9_init ∈ gtbl := gt_of (List.mem_append_right _ (List.mem_of_getElem? (i := 687) (by decide +kernel))) (by decide +kernel)
theorem wc_X9_init : Cond.code yX9_init cX9_init 1 none ∈ gtbl := gt_of (List.mem_append_right _ (List.mem_of_getElem? (i := 688) (by decide +kernel))) (by decide +kernel)
def nul : HI := fun _ _ => 0
theorem za_nul {n : Nat} : ZA n nul nul := ⟨fun _ _ _ => rfl, fun _ _ => rfl⟩
def kl0 : Nat → Int32 := fun b => if b < 10 then -1 else 0
/-- what the class's constructor leaves -/
def fst8 (I A : HI) : Prop := XOK I A ∧ xSt I A = (fun _ => 0, kl0, fun _ => 0, 4, 0, 0) ∧ ZA 96 I A
theorem fo_0 : FO (fun _ => 0) := ⟨fun _ _ => ⟨show (0 : Int32) ≤ 0 by decide, show (0 : Int32) ≤ 99 by decide⟩, fun _ _ => rfl, by decide +kernel⟩
theorem sok_0 : SOK (fun _ => 0, kl0, fun _ => 0, 4, 0, 0) := ⟨fo_0, fun p q hp _ _ h => absurd (if_pos hp) h, ⟨0, by decide, rfl⟩, Or.inl rfl, fun _ j hj => if_pos hj⟩
theorem first8 {I A : HI} (h : srq (up2 ((up2 (up2 (up2 (up2 (up2 nul 1 1 0) 3 2 0) 3 11 0) 3 12 0) 3 13 0)) 26 2 0) (filA nul 27 10 ((-1))) I A) : fst8 (up2 (up2 (up2 (up2 I 0 6 4) 0 7 0) 0 8 0) 0 9 0) A := by
  obtain ⟨hZ, hC, hk⟩ := h
  have z : ∀ k j, up2 ((up2 (up2 (up2 (up2 (up2 nul 1 1 0) 3 2 0) 3 11 0) 3 12 0) 3 13 0)) 26 2 0 k j = 0 := by
    intro k j
    unfold up2 nul
    repeat' split
    all_goals rfl
  have eI : ∀ k, k < 29 → ∀ j, I k j = 0 := fun k hk' j => by rw [(hk k hk').1]; exact z k j
  have e2 : A 2 = fun _ => 0 := by rw [(hk 2 (by decide)).2, fil_off (by decide)]; rfl
  have e27 : A 27 = kl0 := by rw [(hk 27 (by decide)).2, fil_row]; rfl
  have e28 : A 28 = fun _ => 0 := by rw [(hk 28 (by decide)).2, fil_off (by decide)]; rfl
  have eS : xSt (up2 (up2 (up2 (up2 I 0 6 4) 0 7 0) 0 8 0) 0 9 0) A = (fun _ => 0, kl0, fun _ => 0, 4, 0, 0) := by
    unfold xSt
    rw [e2, e27, e28, up2_j (by decide), up2_j (by decide), up2_j (by decide), up2_s, up2_j (by decide), up2_j (by decide), up2_s, up2_k (by decide), up2_k (by decide), up2_k (by decide), up2_k (by decide), eI 26 (by decide)]
  refine ⟨⟨by rw [eS]; exact sok_0, ?_, ?_, Or.inl ?_, Or.inl up2_s⟩, eS, ⟨fun k hk' j => ?_, fun k hk' => hZ.2 k (by omega)⟩⟩
  · rw [up2_k (by decide), up2_k (by decide), up2_k (by decide), up2_k (by decide), eI 1 (by decide), e2]
    have : flC (fun _ => 0) = 0 := by decide +kernel
    rw [this]
    rfl
  · exact hC.off (fun n _ => ⟨by rw [up2_k (by omega), up2_k (by omega), up2_k (by omega), up2_k (by omega)], by rw [up2_k (by omega), up2_k (by omega), up2_k (by omega), up2_k (by omega)]⟩) (fun _ _ _ => rfl)
  · rw [up2_j (by decide), up2_s]
  · rw [up2_k (by omega), up2_k (by omega), up2_k (by omega), up2_k (by omega)]
    exact hZ.1 k (by omega) j
theorem ch_10 {A : HI} : up2 (up2 (up2 (up2 (up2 (up2 (up2 (up2 (up2 (up2 A 98 (0 : Int32).toNatClampNeg ((-1))) 98 (1 : Int32).toNatClampNeg ((-1))) 98 (2 : Int32).toNatClampNeg ((-1))) 98 (3 : Int32).toNatClampNeg ((-1))) 98 (4 : Int32).toNatClampNeg ((-1))) 98 (5 : Int32).toNatClampNeg ((-1))) 98 (6 : Int32).toNatClampNeg ((-1))) 98 (7 : Int32).toNatClampNeg ((-1))) 98 (8 : Int32).toNatClampNeg ((-1))) 98 (9 : Int32).toNatClampNeg ((-1)) = filA A 98 10 (-1) := by
  have h0 : up2 A 98 0 (-1) = filA A 98 1 (-1) := by
    have := fil_s (A := A) (k := 98) (j := 0) (v := -1)
    rw [fil_0] at this
    exact this
  rw [show (0 : Int32).toNatClampNeg = 0 by decide, show (1 : Int32).toNatClampNeg = 1 by decide, show (2 : Int32).toNatClampNeg = 2 by decide, show (3 : Int32).toNatClampNeg = 3 by decide, show (4 : Int32).toNatClampNeg = 4 by decide, show (5 : Int32).toNatClampNeg = 5 by decide, show (6 : Int32).toNatClampNeg = 6 by decide, show (7 : Int32).toNatClampNeg = 7 by decide, show (8 : Int32).toNatClampNeg = 8 by decide, show (9 : Int32).toNatClampNeg = 9 by decide, h0, fil_s, fil_s, fil_s, fil_s, fil_s, fil_s, fil_s, fil_s, fil_s]
theorem first9 {I A I' A' : HI} (h : fst8 I A) (hI : I' = up2 I 96 2 4) (hA : A' = filA A 98 10 (-1)) : BOK I' A' := by
  subst hI hA
  obtain ⟨h1, h2, hZ⟩ := h
  have hs : LoS I A (up2 I 96 2 4) (filA A 98 10 (-1)) := fun k hk => ⟨up2_off (by omega), fil_off (by omega)⟩
  obtain ⟨x, ex⟩ := h1.lo hs
  have em : mSt (up2 I 96 2 4) (filA A 98 10 (-1)) = (fun _ => 0, kl0, fun _ => 0, 4, 0, 0) := by
    unfold mSt
    rw [fil_off (q := 97) (by decide), fil_off (q := 99) (by decide), fil_row, up2_s, up2_j (by decide), up2_j (by decide), hZ.2 97 (by decide), hZ.2 98 (by decide), hZ.2 99 (by decide), hZ.1 96 (by decide), hZ.1 96 (by decide)]
    rfl
  refine ⟨x, ⟨by rw [em]; exact sok_0, Or.inl ?_⟩, by rw [ex, h2, em]⟩
  rw [up2_j (by decide)]
  exact hZ.1 96 (by decide) 22
theorem nst_all {s : State} {b : Nat} (hts : ∀ w ∈ lw_tbl, w.before #[Value.ref b] s = true) : ∀ w ∈ nstw, va_Nw w s := by
  have key : ∀ w ∈ nstw, w ∈ lw_tbl := by decide +kernel
  intro w hw
  have h := hts w (key w hw)
  obtain ⟨a, i, x, z, rfl⟩ := nst_form w hw
  exact va_Nw.of rfl h
theorem z_shp : z125 = shp := by decide +kernel
theorem head_lt {L i : Nat} (hL : L ≤ 2560) (hi : i ≤ 2560) (h : ¬ nI L - 5 < nI i) : i + 5 ≤ L := by
  rcases Nat.lt_or_ge L 5 with z | z
  · have h1 : nI i ≤ nI L - 5 := nlt h
    have h2 : nI 0 ≤ nI i := nI_le (Nat.zero_le _) (by omega)
    have h3 : nI 0 ≤ nI L - 5 := Int32.le_trans h2 h1
    have h4 : ∀ L, L < 5 → ¬ nI 0 ≤ nI L - 5 := by decide +kernel
    exact absurd h3 (h4 L z)
  · have e : nI L - 5 = nI (L - 5) := by
      have := nI_sub (L - 5) 5
      rw [show L - 5 + 5 = L by omega] at this
      exact this
    rw [e] at h
    have := mt (nI_ltI (by omega) (by omega)).mpr h
    omega
section LS
variable {p : Program} {l : Launch} {e : Env} {s : State} {m : MethodId} {below : List Frame} {meth : Method} {c : Code} {D : va_G} {ads : AD} {b L : Nat} {xs : Nat → Int32}
set_option maxHeartbeats 4000000 in
theorem l_loop (hC : LCX p s m meth c b) (hr : meth.sig.returnType = ret) (hX : va_X b L xs s s.heap) (hbl : b < s.heap.size) (hL : L ≤ 2560) : ∀ (n i : Nat) (I A : HI) (H : Heap) (locs : List Loc) (a : Array Slot), i ≤ 2560 → L - i < n → BOK I A → RW D (fun q => s.heap.size ≤ q) s ads shp I A H locs → lv_has a 4 [(3, .int (nI i)), (2, .ref (adr ads 96)), (1, .ref (adr ads 0)), (0, .ref b)] → W p l e room_1 s m #[Value.ref b] below meth c H locs 600000 7302250 (lw_Z below #[Value.ref b] s) (F0 m 18 a []) := by
  intro n
  induction n with
  | zero => intro i I A H locs a _ h; exact absurd h (Nat.not_lt_zero _)
  | succ n ih =>
    intro i I A H locs a hi hn hB hR hl
    have h0 := lv_at hl 3 rfl
    have h1 := lv_at hl 2 rfl
    have h2 := lv_at hl 1 rfl
    have h3 := lv_at hl 0 rfl
    refine lv_iload_n hC.1 hC.2.1 dL_law_18 rfl h3 ?_
    refine lv_aload_n hC.1 hC.2.1 dL_law_19 rfl h0 ?_
    refine va_slen hC.1 hC.2.1 hX hbl (Nat.not_le.mpr hbl) hR.2.2.2.2 dL_law_20 ?_
    refine lv_iconst (v := 5) hC.1 hC.2.1 dL_law_21 (by decide) ?_
    refine lv_isub hC.1 hC.2.1 dL_law_22 ?_
    refine lv_icmp_gt hC.1 hC.2.1 dL_law_23 (tgt := 586) (by decide) (fun _ => ?_) (fun hc => ?_)
    · refine lv_iconst (v := 1) hC.1 hC.2.1 dL_law_586 (by decide) ?_
      exact va_forget hR.2.2.2.2.2.2 (lw_ret hC.1 hC.2.1 hr hC.2.2.2.2.2.2.2 dL_law_587)
    · have hi5 : i + 5 ≤ L := head_lt hL hi hc
      have nx : ∀ I' A' H' locs', BOK I' A' → RW D (fun q => s.heap.size ≤ q) s ads shp I' A' H' locs' → W p l e room_1 s m #[Value.ref b] below meth c H' locs' 600000 7302250 (lw_Z below #[Value.ref b] s) (F0 m 580 a []) := by
        intro I' A' H' locs' hB' hR'
        refine lv_iinc (k := 0) (v := nI (i + 5)) (lv' := [(3, .int (nI (i + 5))), (2, .ref (adr ads 96)), (1, .ref (adr ads 0)), (0, .ref b)]) hC.1 hC.2.1 dL_law_580 hl rfl (nI_add i 5) (by decide) rfl (fun a' ha' => ?_)
        exact lv_goto hC.1 hC.2.1 dL_law_583 (tgt := 18) (by decide) (ih (i + 5) I' A' H' locs' a' (by omega) (by omega) hB' hR' ha')
      refine lv_aload_n hC.1 hC.2.1 dL_law_26 rfl h0 ?_
      refine lv_iload_n hC.1 hC.2.1 dL_law_27 rfl h3 ?_
      refine va_sld hC.1 hC.2.1 hX hbl (Nat.not_le.mpr hbl) hR.2.2.2.2 (nI_in (show i < L by omega) (by omega)) dL_law_28 ?_
      refine lv_bipush (v := 31) hC.1 hC.2.1 dL_law_29 (by decide) ?_
      refine lv_iand hC.1 hC.2.1 dL_law_31 ?_
      generalize xs (nI i).toNatClampNeg &&& 31 = x
      by_cases ho : x.toInt < 0 ∨ 17 < x.toInt
      · exact lv_tableOut hC.1 hC.2.1 dL_law_32 ho (tgt := 580) (by decide) (nx I A H locs hB hR)
      have hx1 : ¬ x.toInt < 0 := fun z => ho (Or.inl z)
      have hx2 : ¬ 17 < x.toInt := fun z => ho (Or.inr z)
      have all : x.toInt = 0 ∨ x.toInt = 1 ∨ x.toInt = 2 ∨ x.toInt = 3 ∨ x.toInt = 4 ∨ x.toInt = 5 ∨ x.toInt = 6 ∨ x.toInt = 7 ∨ x.toInt = 8 ∨ x.toInt = 9 ∨ x.toInt = 10 ∨ x.toInt = 11 ∨ x.toInt = 12 ∨ x.toInt = 13 ∨ x.toInt = 14 ∨ x.toInt = 15 ∨ x.toInt = 16 ∨ x.toInt = 17 := by omega
      rcases all with h | h | h | h | h | h | h | h | h | h | h | h | h | h | h | h | h | h
      · exact lv_tableIn hC.1 hC.2.1 dL_law_32 hx1 hx2 (off := 88) (by rw [h]; rfl) (tgt := 120) (by decide) (la_0 hC hX hbl hL hi5 hl.1 h0 h1 h2 h3 hB hR nx)
      · exact lv_tableIn hC.1 hC.2.1 dL_law_32 hx1 hx2 (off := 131) (by rw [h]; rfl) (tgt := 163) (by decide) (la_1 hC hX hbl hL hi5 hl.1 h0 h1 h2 h3 hB hR nx)
      · exact lv_tableIn hC.1 hC.2.1 dL_law_32 hx1 hx2 (off := 142) (by rw [h]; rfl) (tgt := 174) (by decide) (la_2 hC hX hbl hL hi5 hl.1 h0 h1 h2 h3 hB hR nx)
      · exact lv_tableIn hC.1 hC.2.1 dL_law_32 hx1 hx2 (off := 175) (by rw [h]; rfl) (tgt := 207) (by decide) (la_3 hC hX hbl hL hi5 hl.1 h0 h1 h2 h3 hB hR nx)
      · exact lv_tableIn hC.1 hC.2.1 dL_law_32 hx1 hx2 (off := 198) (by rw [h]; rfl) (tgt := 230) (by decide) (la_4 hC hX hbl hL hi5 hl.1 h0 h1 h2 h3 hB hR nx)
      · exact lv_tableIn hC.1 hC.2.1 dL_law_32 hx1 hx2 (off := 231) (by rw [h]; rfl) (tgt := 263) (by decide) (la_5 hC hX hbl hL hi5 hl.1 h0 h1 h2 h3 hB hR nx)
      · exact lv_tableIn hC.1 hC.2.1 dL_law_32 hx1 hx2 (off := 264) (by rw [h]; rfl) (tgt := 296) (by decide) (la_6 hC hX hbl hL hi5 hl.1 h0 h1 h2 h3 hB hR nx)
      · exact lv_tableIn hC.1 hC.2.1 dL_law_32 hx1 hx2 (off := 287) (by rw [h]; rfl) (tgt := 319) (by decide) (la_7 hC hX hbl hL hi5 hl.1 h0 h1 h2 h3 hB hR nx)
      · exact lv_tableIn hC.1 hC.2.1 dL_law_32 hx1 hx2 (off := 310) (by rw [h]; rfl) (tgt := 342) (by decide) (la_8 hC hX hbl hL hi5 hl.1 h0 h1 h2 h3 hB hR nx)
      · exact lv_tableIn hC.1 hC.2.1 dL_law_32 hx1 hx2 (off := 333) (by rw [h]; rfl) (tgt := 365) (by decide) (la_9 hC hX hbl hL hi5 hl.1 h0 h1 h2 h3 hB hR nx)
      · exact lv_tableIn hC.1 hC.2.1 dL_law_32 hx1 hx2 (off := 346) (by rw [h]; rfl) (tgt := 378) (by decide) (la_10 hC hX hbl hL hi5 hl.1 h0 h1 h2 h3 hB hR nx)
      · exact lv_tableIn hC.1 hC.2.1 dL_law_32 hx1 hx2 (off := 369) (by rw [h]; rfl) (tgt := 401) (by decide) (la_11 hC hX hbl hL hi5 hl.1 h0 h1 h2 h3 hB hR nx)
      · exact lv_tableIn hC.1 hC.2.1 dL_law_32 hx1 hx2 (off := 392) (by rw [h]; rfl) (tgt := 424) (by decide) (la_12 hC hX hbl hL hi5 hl.1 h0 h1 h2 h3 hB hR nx)
      · exact lv_tableIn hC.1 hC.2.1 dL_law_32 hx1 hx2 (off := 425) (by rw [h]; rfl) (tgt := 457) (by decide) (la_13 hC hX hbl hL hi5 hl.1 h0 h1 h2 h3 hB hR nx)
      · exact lv_tableIn hC.1 hC.2.1 dL_law_32 hx1 hx2 (off := 458) (by rw [h]; rfl) (tgt := 490) (by decide) (la_14 hC hX hbl hL hi5 hl.1 h0 h1 h2 h3 hB hR nx)
      · exact lv_tableIn hC.1 hC.2.1 dL_law_32 hx1 hx2 (off := 511) (by rw [h]; rfl) (tgt := 543) (by decide) (la_15 hC hX hbl hL hi5 hl.1 h0 h1 h2 h3 hB hR nx)
      · exact lv_tableIn hC.1 hC.2.1 dL_law_32 hx1 hx2 (off := 524) (by rw [h]; rfl) (tgt := 556) (by decide) (la_16 hC hX hbl hL hi5 hl.1 h0 h1 h2 h3 hB hR nx)
      · exact lv_tableIn hC.1 hC.2.1 dL_law_32 hx1 hx2 (off := 535) (by rw [h]; rfl) (tgt := 567) (by decide) (la_17 hC hX hbl hL hi5 hl.1 h0 h1 h2 h3 hB hR nx)
end LS
set_option maxHeartbeats 4000000 in
set_option maxRecDepth 100000 in
theorem whole_start {p : Program} {e : Env} {s : State} {m : MethodId} {below : List Frame} {meth : Method} {c : Code} (l : Launch) {b L : Nat} {xs : Nat → Int32} (hL : L ≤ 2560) (C0 : lw_At p s m meth c b L xs) : W p l e room_1 s m #[Value.ref b] below meth c s.heap [] 0 0 (lw_Z below #[Value.ref b] s) (entryFrame m ([Value.ref b] : List Value).toArray 4) := by
  obtain ⟨hx, hb, hr, hml, hown, hts, hX, hbl, hlocks, hgv⟩ := id C0
  have hC : LCX p s m meth c b := ⟨hx, hb, hml, hown, fun w hw => hts w (List.mem_filter.mp hw).1, fun q h => h, nst_all hts, hlocks⟩
  have hE : EX s := ⟨va_AO.of (hts _ (List.mem_append_right _ (List.mem_of_getElem? (i := 128) (by decide +kernel)))), va_AOA.of (hts _ (List.mem_append_right _ (List.mem_of_getElem? (i := 91) (by decide +kernel))))⟩
  obtain ⟨D, hK⟩ := known hC.2.2.2.2.1
  have hR0 : RW D (fun q => s.heap.size ≤ q) s [] [] nul nul s.heap [] := ⟨rfl, hK, fun k q h => by simp [wld] at h, ⟨fun i j p q h => by simp [wld] at h, fun k q h => by simp [wld] at h⟩, va_S.rf⟩
  have hl := lv_entry ([.ref b]) (n := 4) (Nat.le_of_ble_eq_true rfl)
  rw [lg_entry_eq]
  generalize (lg_sl ([.ref b]) ++ List.replicate (4 - (lg_sl ([.ref b])).length) Slot.unset).toArray = ls at hl ⊢
  have hl : lv_has ls 4 [(0, .ref b)] := hl
  refine w_new hC (ci := 8) (q := clsN 8) (fs := [some none, some none, some none, some none, some none, some none, none, none, none, none]) (rest := []) rfl wk2_L_7 wm_X8 wn_X8 (by decide) rfl (fun _ => rfl) rfl (by decide) (by decide) dL_law_0 hR0 (fun x1 H1 locs1 hR1 => ?_)
  refine lv_dup hC.1 hC.2.1 dL_law_3 rfl ?_
  refine w_callI hC hE (kG_X8_init l D ([] ++ [x1]) nul nul za_nul fst8 (fun I' A' h => first8 h)) dL_law_4 nm_X8_init rfl wl_L_9 wi_X8_init wn_X8 wc_X8_init ⟨by decide, by decide⟩ (rest := [.ref x1.1]) rfl (Nat.le_of_ble_eq_true rfl) ⟨by decide, by decide⟩ hR1 hl.1 (fun nw1 I1 A1 H2 locs2 hp1 hR2 => ?_)
  refine lv_astore_n (lv' := [(1, .ref x1.1), (0, .ref b)]) hC.1 hC.2.1 dL_law_7 rfl hl (by decide) rfl (fun ls hl => ?_)
  have n90 : z90.length = 96 := by decide +kernel
  refine w_new hC (ci := 9) (q := clsN 9) (fs := [none, some none, none, none, none, some none, some none, none, none, some none, some none, some none, none, some none, none, some none, some none, some none, some none, some none, some none, some none, none, none, some none, some none, some none, none, none]) (rest := []) rfl wk2_L_10 wm_X9 wn_X9 (by decide) rfl (fun j => by rw [n90]; exact hp1.2.2.1 96 (by decide) j) (by decide +kernel) (by decide) (by decide) dL_law_8 hR2 (fun x2 H3 locs3 hR3 => ?_)
  refine lv_dup hC.1 hC.2.1 dL_law_11 rfl ?_
  have e91 : z90 ++ [.inr (.inr (9, [none, some none, none, none, none, some none, some none, none, none, some none, some none, some none, none, some none, none, some none, some none, some none, some none, some none, some none, some none, none, none, some none, some none, some none, none, none]))] = z91 := by decide +kernel
  rw [e91] at hR3
  have a96 : adr ([] ++ [x1] ++ nw1 ++ [x2]) 96 = x2.1 := by
    have := adr_new (ads := [] ++ [x1] ++ nw1) (nw := [x2]) (k := 0) rfl
    rw [hR2.1, n90] at this
    exact this
  refine w_callI hC hE (cG_X9_init l D ([] ++ [x1] ++ nw1 ++ [x2]) I1 A1 ⟨fun k hk => hp1.2.2.1 k (by omega), fun k hk => hp1.2.2.2 k (by omega)⟩) dL_law_12 nm_X9_init rfl wl_L_12 wi_X9_init wn_X9 wc_X9_init ⟨by decide, by decide⟩ (rest := [.ref x2.1]) (by rw [a96]) (Nat.le_of_ble_eq_true rfl) ⟨by decide, by decide⟩ hR3 hl.1 (fun nw2 I2 A2 H4 locs4 hp2 hR4 => ?_)
  refine lv_astore_n (lv' := [(2, .ref x2.1), (1, .ref x1.1), (0, .ref b)]) hC.1 hC.2.1 dL_law_15 rfl hl (by decide) rfl (fun ls hl => ?_)
  refine lv_iconst (v := 0) hC.1 hC.2.1 dL_law_16 (by decide) ?_
  refine lv_istore_n (lv' := [(3, .int 0), (2, .ref x2.1), (1, .ref x1.1), (0, .ref b)]) hC.1 hC.2.1 dL_law_17 rfl hl (by decide) rfl (fun ls hl => ?_)
  refine W.widen (k := 600000) (n := 7302250) (by decide) (by decide) ?_
  rw [z_shp] at hR4
  have b96 : adr ([] ++ [x1] ++ nw1 ++ [x2] ++ nw2) 96 = x2.1 := by
    rw [adr_app (by have := hR3.1; rw [this]; decide +kernel), a96]
  refine l_loop (ads := [] ++ [x1] ++ nw1 ++ [x2] ++ nw2) hC hr hX hbl hL (L + 1) 0 I2 A2 H4 locs4 ls (by decide) (by omega) (first9 hp1 hp2.1 (hp2.2.trans ch_10)) hR4 ?_
  rw [b96]
  exact hl
