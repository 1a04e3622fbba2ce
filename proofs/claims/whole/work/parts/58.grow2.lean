/-! rows that make arrays, put references, call constructors -/
theorem zip_get {ads : AD} {sh : SH} {i : Nat} {x : Nat × ClassId} {c : SC} (h1 : ads[i]? = some x) (h2 : sh[i]? = some c) : (ads.zip sh)[i]? = some (x, c) := List.getElem?_zip_eq_some.mpr ⟨h1, h2⟩
theorem wld_len2 {ads : AD} {sh : SH} {I A : HI} (h : ads.length = sh.length) : (wld ads sh I A).length = sh.length := by
  rw [wld_len, h, Nat.min_self]
theorem adr_new {ads nw : AD} {k : Nat} {x : Nat × ClassId} (h : nw[k]? = some x) : adr (ads ++ nw) (ads.length + k) = x.1 := by
  unfold adr
  rw [List.getD_eq_getElem?_getD, List.getElem?_append_right (by omega), Nat.add_sub_cancel_left, h]
  rfl
theorem wld_setC {ads : AD} {sh : SH} {I A : HI} {q : Nat} {x : Nat × ClassId} {c' : SC} (h1 : ads[q]? = some x) (hq : q < sh.length) : wld ads (sh.set q c') I A = (wld ads sh I A).set q (wcell ads I A q (x, c')) := by
  have hqa : q < ads.length := (List.getElem?_eq_some_iff.mp h1).1
  apply List.ext_getElem?
  intro i
  by_cases hi : q = i
  · subst hi
    have hl : q < (wld ads sh I A).length := by
      rw [wld_len]
      omega
    rw [List.getElem?_set_self hl]
    exact wld_get h1 (List.getElem?_set_self hq)
  · rw [List.getElem?_set_ne hi]
    unfold wld
    rw [List.getElem?_mapIdx, List.getElem?_mapIdx]
    congr 1
    cases z : ads[i]? with
    | none =>
      rw [List.getElem?_eq_none (by rw [List.length_zip]; have := List.getElem?_eq_none_iff.mp z; omega), List.getElem?_eq_none (by rw [List.length_zip]; have := List.getElem?_eq_none_iff.mp z; omega)]
    | some y =>
      cases w : sh[i]? with
      | none =>
        rw [List.getElem?_eq_none (by rw [List.length_zip, List.length_set]; have := List.getElem?_eq_none_iff.mp w; omega), List.getElem?_eq_none (by rw [List.length_zip]; have := List.getElem?_eq_none_iff.mp w; omega)]
      | some v => rw [zip_get z (show (sh.set q c')[i]? = some v by rw [List.getElem?_set_ne hi]; exact w), zip_get z w]
theorem tys_setC {ads : AD} {sh : SH} {q : Nat} {x : Nat × ClassId} {c c' : SC} (h1 : ads[q]? = some x) (h2 : sh[q]? = some c) (h : ctys (x, c') = ctys (x, c)) : tysOf ads (sh.set q c') = tysOf ads sh := by
  unfold tysOf
  have key : (ads.zip (sh.set q c')) = (ads.zip sh).set q (x, c') := by
    apply List.ext_getElem?
    intro i
    have hz := zip_get h1 h2
    have hl : q < (ads.zip sh).length := (List.getElem?_eq_some_iff.mp hz).1
    by_cases hi : q = i
    · subst hi
      rw [List.getElem?_set_self hl]
      exact zip_get h1 (List.getElem?_set_self (List.getElem?_eq_some_iff.mp h2).1)
    · rw [List.getElem?_set_ne hi]
      cases z : ads[i]? with
      | none =>
        rw [List.getElem?_eq_none (by rw [List.length_zip]; have := List.getElem?_eq_none_iff.mp z; omega), List.getElem?_eq_none (by rw [List.length_zip]; have := List.getElem?_eq_none_iff.mp z; omega)]
      | some y =>
        cases w : sh[i]? with
        | none =>
          rw [List.getElem?_eq_none (by rw [List.length_zip, List.length_set]; have := List.getElem?_eq_none_iff.mp w; omega), List.getElem?_eq_none (by rw [List.length_zip]; have := List.getElem?_eq_none_iff.mp w; omega)]
        | some v => rw [zip_get z (show (sh.set q c')[i]? = some v by rw [List.getElem?_set_ne hi]; exact w), zip_get z w]
  rw [key]
  have hz := zip_get h1 h2
  generalize ads.zip sh = L at hz
  clear key h1 h2
  induction L generalizing q with
  | nil => simp at hz
  | cons y r ih =>
    cases q with
    | zero =>
      simp only [List.getElem?_cons_zero, Option.some.injEq] at hz
      subst hz
      rw [List.set_cons_zero, List.filterMap_cons, List.filterMap_cons, h]
    | succ q =>
      rw [List.getElem?_cons_succ] at hz
      rw [List.set_cons_succ, List.filterMap_cons, List.filterMap_cons, ih hz]
section GR2
variable {p : Program} {l : Launch} {e : Env} {R : Room} {s : State} {m : MethodId} {args : Array Value} {below : List Frame} {meth : Method} {c : Code} {Q : State → Prop} {D : va_G} {B : Nat → Prop} {nL cells slots : Nat} {ads : AD} {sh : SH} {I A : HI} {pc : Nat} {ls : List (Option AV)} {st : List AV} {cc : ByteArray} {own : String}
theorem g_newa (hC : CX p s m args meth c cc nL own B) {n : Int32} {N : Nat} (harr : Cond.arrayClass .int ∈ gtbl) (hn : ¬ n < 0) (hN : n.toNatClampNeg = N) (hb : N * 4 ≤ 536870912) (hz : A sh.length = fun _ => 0) (hsh : shOK sh = true) (hls : (lsOK sh.length ls && stOK sh.length st) = true) (hcells : cells + 1 ≤ R.cells) (hslots : slots + N ≤ R.slots) (hd : decode cc pc = .ok (.newarray .int, 2))
    (kk : ∀ x : Nat × ClassId, G p l e R s m args below meth c Q D B nL (cells + 1) (slots + N) (ads ++ [x]) (sh ++ [.inl N]) I A (pc + 2) ls (.inr (some sh.length) :: st)) : G p l e R s m args below meth c Q D B nL cells slots ads sh I A pc ls (.inl n :: st) := by
  intro H locs a hR hL
  have hts := hC.2.2.2.2.1
  rw [Bool.and_eq_true] at hls
  have hl := hR.1
  refine va_newa (atype := .int) (ty := .int) (a0 := (N, .inl (fun _ => 0))) hC.1 hC.2.1 (hts _ harr) rfl hR.2.1 hR.2.2.1 hR.2.2.2.1 hR.2.2.2.2 hC.2.2.2.2.2.1 (fun cA => rfl) hn hN hb hcells hslots hd (fun b cA H1 hK hP hD hS => ?_)
  have ew : wld (ads ++ [(b, cA)]) (sh ++ [.inl N]) I A = wld ads sh I A ++ [(b, .inl (cA, N, .inl (fun _ => 0)))] := by
    rw [wld_app hl hsh]
    congr 1
    show [(b, Sum.inl (cA, N, Sum.inl (A (sh.length + 0))))] = _
    rw [Nat.add_zero, hz]
  have k := kk (b, cA) H1 locs a ⟨by rw [List.length_append, List.length_append, hl]; rfl, by rw [tys_app hl]; exact hK, by rw [ew]; exact hP, by rw [ew]; exact hD, hS⟩ (hL.app (by rw [hl]; exact hls.1))
  have ea : adr (ads ++ [(b, cA)]) sh.length = b := by
    have := adr_new (ads := ads) (nw := [(b, cA)]) (k := 0) rfl
    rw [Nat.add_zero, hl] at this
    exact this
  have es : ((.inr (some sh.length) :: st : List AV).map (cv (ads ++ [(b, cA)]))) = Value.ref b :: st.map (cv ads) := by
    show Value.ref (adr (ads ++ [(b, cA)]) sh.length) :: st.map (cv (ads ++ [(b, cA)])) = _
    rw [ea, st_app (by rw [hl]; exact hls.2)]
  exact es ▸ k
theorem g_anew (hC : CX p s m args meth c cc nL own B) (hE : EX s) {n : Int32} {N idx : Nat} (hcl : Cond.classLink own idx RX0 ∈ gtbl) (hn : ¬ n < 0) (hN : n.toNatClampNeg = N) (hb : N * 4 ≤ 536870912) (hsh : shOK sh = true) (hls : (lsOK sh.length ls && stOK sh.length st) = true) (hcells : cells + 1 ≤ R.cells) (hslots : slots + N ≤ R.slots) (hd : decode cc pc = .ok (.anewarray idx, 3))
    (kk : ∀ x : Nat × ClassId, G p l e R s m args below meth c Q D B nL (cells + 1) (slots + N) (ads ++ [x]) (sh ++ [.inr (.inl (0, List.replicate N none))]) I A (pc + 3) ls (.inr (some sh.length) :: st)) : G p l e R s m args below meth c Q D B nL cells slots ads sh I A pc ls (.inl n :: st) := by
  intro H locs a hR hL
  have hts := hC.2.2.2.2.1
  rw [Bool.and_eq_true] at hls
  have hl := hR.1
  refine va_newq hC.1 hC.2.1 hC.2.2.2.1 (hts _ hcl) hE.1 hR.2.1 hR.2.2.1 hR.2.2.2.1 hR.2.2.2.2 hC.2.2.2.2.2.1 hn hN hb hcells hslots hd (fun b cA H1 hK hP hD hS => ?_)
  have ew : wld (ads ++ [(b, cA)]) (sh ++ [.inr (.inl (0, List.replicate N none))]) I A = wld ads sh I A ++ [(b, .inl (cA, N, .inr (.inr (.inr (.inr (fun _ => none))))))] := by
    rw [wld_app hl hsh]
    congr 1
    show [(b, Sum.inl (cA, (List.replicate N (none : Option Nat)).length, Sum.inr (Sum.inr (Sum.inr (Sum.inr (fun i => ((List.replicate N (none : Option Nat)).getD i none).map (adr (ads ++ [(b, cA)]))))))))] = _
    have e1 : (fun i => ((List.replicate N (none : Option Nat)).getD i none).map (adr (ads ++ [(b, cA)]))) = fun _ => none := by
      funext i
      rw [List.getD_eq_getElem?_getD, List.getElem?_replicate]
      split <;> rfl
    rw [e1, List.length_replicate]
  have k := kk (b, cA) H1 locs a ⟨by rw [List.length_append, List.length_append, hl]; rfl, by rw [tys_app hl]; exact hK, by rw [ew]; exact hP, by rw [ew]; exact hD, hS⟩ (hL.app (by rw [hl]; exact hls.1))
  have ea : adr (ads ++ [(b, cA)]) sh.length = b := by
    have := adr_new (ads := ads) (nw := [(b, cA)]) (k := 0) rfl
    rw [Nat.add_zero, hl] at this
    exact this
  have es : ((.inr (some sh.length) :: st : List AV).map (cv (ads ++ [(b, cA)]))) = Value.ref b :: st.map (cv ads) := by
    show Value.ref (adr (ads ++ [(b, cA)]) sh.length) :: st.map (cv (ads ++ [(b, cA)])) = _
    rw [ea, st_app (by rw [hl]; exact hls.2)]
  exact es ▸ k
/-- new int[N][K] -/
theorem g_mna (hC : CX p s m args meth c cc nL own B) (hE : EX s) {n k : Int32} {N K idx : Nat} (hcl : Cond.classLink own idx "[[I" ∈ gtbl) (harr : Cond.arrayClass .int ∈ gtbl) (hn : ¬ n < 0) (hk : ¬ k < 0) (hN : n.toNatClampNeg = N) (hK : k.toNatClampNeg = K) (hb1 : N * 4 ≤ 536870912) (hb2 : K * 4 ≤ 536870912) (hz : ∀ i, A (sh.length + i) = fun _ => 0) (hsh : shOK sh = true) (hls : (lsOK sh.length ls && stOK sh.length st) = true) (hcells : cells + (1 + N) ≤ R.cells) (hslots : slots + (N + N * K) ≤ R.slots) (hd : decode cc pc = .ok (.multianewarray idx 2, 4))
    (kk : ∀ nw : AD, nw.length = 1 + N → G p l e R s m args below meth c Q D B nL (cells + 1 + N) (slots + N + N * K) (ads ++ nw) (sh ++ (.inr (.inl (1, (List.range N).map (fun i => some (sh.length + 1 + i)))) :: List.replicate N (.inl K))) I A (pc + 4) ls (.inr (some sh.length) :: st)) : G p l e R s m args below meth c Q D B nL cells slots ads sh I A pc ls (.inl k :: .inl n :: st) := by
  intro H locs a hR hL
  have hts := hC.2.2.2.2.1
  rw [Bool.and_eq_true] at hls
  have hl := hR.1
  obtain ⟨cy, kA, comp, f1, f2, f3⟩ := Cond.arrayClass_spec (hts _ harr)
  have hP0 : va_P D vwCl (wld ads sh I A ++ va_pl [] (fun _ => .inr (0, []))) H := by
    show va_P D vwCl (wld ads sh I A ++ []) H
    rw [List.append_nil]
    exact hR.2.2.1
  have hD0 : va_D B (wld ads sh I A ++ va_pl [] (fun _ => .inr (0, []))) := by
    show va_D B (wld ads sh I A ++ [])
    rw [List.append_nil]
    exact hR.2.2.2.1
  refine va_mna (ty := .int) (cy := cy) (z := (K, .inl (fun _ => 0))) hC.1 hC.2.1 hC.2.2.2.1 (hts _ hcl) (va_AOA.use hE.2) (hts _ harr) f1 hR.2.1 hP0 hD0 hR.2.2.2.2 hC.2.2.2.2.2.1 hn hk hN hK hb1 hb2 (by omega) rfl rfl hcells hslots (fun c9 => by show ({ cls := c9, slots := Array.replicate K (.int 0), vm := .none } : Cell) = _; rw [arrV_new]; rfl) hd (fun b r cA H1 hr1 hr2 hK2 hP hD hS => ?_)
  obtain ⟨nw, hnw⟩ : ∃ nw : AD, nw = (b, cA) :: (List.range N).map (fun i => (r i, cy)) := ⟨_, rfl⟩
  have hnl : nw.length = 1 + N := by
    rw [hnw, List.length_cons, List.length_map, List.length_range]
    omega
  have hrow : ∀ i, i < N → nw[1 + i]? = some (r i, cy) := by
    intro i hi
    rw [hnw, Nat.add_comm, List.getElem?_cons_succ, List.getElem?_map, List.getElem?_range hi]
    rfl
  have ea : adr (ads ++ nw) sh.length = b := by
    have := adr_new (ads := ads) (nw := nw) (k := 0) (x := (b, cA)) (by rw [hnw]; rfl)
    rw [Nat.add_zero, hl] at this
    exact this
  have er : ∀ i, i < N → adr (ads ++ nw) (sh.length + 1 + i) = r i := by
    intro i hi
    have := adr_new (ads := ads) (hrow i hi)
    rw [hl] at this
    rw [Nat.add_assoc]
    exact this
  have ew : wld (ads ++ nw) (sh ++ (.inr (.inl (1, (List.range N).map (fun i => some (sh.length + 1 + i)))) :: List.replicate N (.inl K))) I A = (wld ads sh I A ++ [(b, .inl (cA, N, .inr (.inr (.inr (.inr (fun i => if i < N then some (r i) else none))))))]) ++ va_pl ([] ++ (List.range N).map r) (vr_up (fun _ => .inr (0, [])) ((List.range N).map r) (.inl (cy, (K, .inl (fun _ => 0))))) := by
    rw [wld_app hl hsh, List.append_assoc]
    congr 1
    apply List.ext_getElem?
    intro i
    rw [List.getElem?_mapIdx]
    cases i with
    | zero =>
      rw [hnw]
      show some (wcell _ I A (sh.length + 0) ((b, cA), .inr (.inl (1, (List.range N).map (fun i => some (sh.length + 1 + i)))))) = some _
      rw [← hnw]
      show some (b, Sum.inl (cA, ((List.range N).map (fun i => some (sh.length + 1 + i))).length, Sum.inr (Sum.inr (Sum.inr (Sum.inr (fun i => (((List.range N).map (fun i => some (sh.length + 1 + i))).getD i none).map (adr (ads ++ nw)))))))) = some _
      have e1 : (fun i => (((List.range N).map (fun i => some (sh.length + 1 + i))).getD i none).map (adr (ads ++ nw))) = fun i => if i < N then some (r i) else none := by
        funext i
        rw [List.getD_eq_getElem?_getD, List.getElem?_map]
        by_cases hi : i < N
        · rw [List.getElem?_range hi, if_pos hi]
          show some (adr (ads ++ nw) (sh.length + 1 + i)) = _
          rw [er i hi]
        · rw [List.getElem?_eq_none (by rw [List.length_range]; omega), if_neg hi]
          rfl
      rw [e1, List.length_map, List.length_range]
    | succ j =>
      show _ = (va_pl ([] ++ (List.range N).map r) (vr_up (fun _ => .inr (0, [])) ((List.range N).map r) (.inl (cy, (K, .inl (fun _ => 0))))))[j]?
      unfold va_pl
      rw [List.nil_append, List.getElem?_map, List.getElem?_map]
      by_cases hj : j < N
      · rw [List.getElem?_range hj]
        have hz2 : (nw.zip (Sum.inr (Sum.inl (1, (List.range N).map (fun i => some (sh.length + 1 + i)))) :: List.replicate N (Sum.inl K) : SH))[j + 1]? = some ((r j, cy), .inl K) := List.getElem?_zip_eq_some.mpr ⟨by rw [Nat.add_comm]; exact hrow j hj, by rw [List.getElem?_cons_succ, List.getElem?_replicate, if_pos hj]⟩
        rw [hz2]
        show some (r j, Sum.inl (cy, K, Sum.inl (A (sh.length + (j + 1))))) = some (r j, vr_up _ ((List.range N).map r) _ (r j))
        rw [hz, vr_up_in (List.mem_map.mpr ⟨j, List.mem_range.mpr hj, rfl⟩)]
      · rw [List.getElem?_eq_none (l := nw.zip _) (by rw [List.length_zip, hnl, List.length_cons, List.length_replicate]; omega), List.getElem?_eq_none (l := List.range N) (by rw [List.length_range]; omega)]
        rfl
  have eK : va_K D vwCl (tysOf (ads ++ nw) (sh ++ (.inr (.inl (1, (List.range N).map (fun i => some (sh.length + 1 + i)))) :: List.replicate N (.inl K)))) s := by
    rw [tys_app hl]
    have hK3 : va_K D vwCl ((nw.zip (Sum.inr (Sum.inl (1, (List.range N).map (fun i => some (sh.length + 1 + i)))) :: List.replicate N (Sum.inl K) : SH)).filterMap ctys) s := by
      refine ⟨hR.2.1.1, fun k9 x hx => ?_⟩
      obtain ⟨y, hy, hc⟩ := List.mem_filterMap.mp (List.mem_of_getElem? hx)
      rw [hnw, List.zip_cons_cons] at hy
      rcases List.mem_cons.mp hy with h | h
      · rw [h] at hc
        cases hc
        exact hK2.2 (tysOf ads sh).length _ (by rw [List.getElem?_append_right (Nat.le_refl _), Nat.sub_self]; rfl)
      · obtain ⟨y1, y2⟩ := y
        have h1 := List.of_mem_zip h
        obtain ⟨i, hi, e1⟩ := List.mem_map.mp h1.1
        have e2 := List.eq_of_mem_replicate h1.2
        rw [← e1, e2] at hc
        cases hc
        exact ⟨fun N9 z9 => ⟨fun k h => (by cases h), kA, f2, comp, f3⟩, f1⟩
    exact hR.2.1.app hK3
  have k2 := kk nw hnl H1 locs a ⟨by rw [List.length_append, List.length_append, hl, hnl, List.length_cons, List.length_replicate]; omega, eK, by rw [ew]; exact hP, by rw [ew]; exact hD, hS⟩ (hL.app (by rw [hl]; exact hls.1))
  have es : ((.inr (some sh.length) :: st : List AV).map (cv (ads ++ nw))) = Value.ref b :: st.map (cv ads) := by
    show Value.ref (adr (ads ++ nw) sh.length) :: st.map (cv (ads ++ nw)) = _
    rw [ea, st_app (by rw [hl]; exact hls.2)]
  exact es ▸ k2
/-- a final reference of the object that is made -/
theorem g_putR (hC : CX p s m args meth c cc nL own B) (hin : meth.name = "<init>") {idx ci k q r : Nat} {fs : List (Option (Option Nat))} (hs : sh[q]? = some (.inr (.inr (ci, fs)))) (hk : k < (clsN ci).2.2) (hkl : k < fs.length) (hw : fldw own idx ci k ∈ gtbl) (hfin : ((clsN ci).2.1 k).2.2.2 = true) (hdecl : ((clsN ci).2.1 k).1 = own) (hty : ∃ ty, parseFieldDescriptor ((clsN ci).2.1 k).2.2.1 = some ty ∧ ∀ b : Nat, narrow ty (.ref b) = .ref b ∧ fits ty (.ref b) = true) (hd : decode cc pc = .ok (.putfield idx, 3))
    (kk : G p l e R s m args below meth c Q D B nL cells slots ads (sh.set q (.inr (.inr (ci, fs.set k (some (some r)))))) I A (pc + 3) ls st) : G p l e R s m args below meth c Q D B nL cells slots ads sh I A pc ls (.inr (some r) :: .inr (some q) :: st) := by
  intro H locs a hR hL
  obtain ⟨x, hx⟩ := ad_get hR hs
  have hwl := wld_get (I := I) (A := A) hx hs
  have ha : adr ads q = x.1 := adr_of hx
  obtain ⟨rr, hr, -⟩ := hR.2.2.1 q _ hwl
  have hr : vwCl[ci]? = some rr := hr
  have hn := cls_n hr
  unfold fldw at hw
  rw [hn] at hw hk hfin hdecl hty
  obtain ⟨ty, h1, h2⟩ := hty
  have hkl2 : k < (fsv ads I q fs).length := by
    unfold fsv
    rw [List.length_mapIdx]
    exact hkl
  show W p l e R s m args below meth c H locs cells slots Q (F0 m pc a (.ref (adr ads r) :: .ref (adr ads q) :: st.map (cv ads)))
  rw [ha]
  refine va_putF (C := rr.1) (T := rr.2.1) (N := rr.2.2) (ty := ty) hC.1 hC.2.1 hC.2.2.2.2.1 (cls_in hr) (tyN ci) (cls_ty hr).1 (cls_ty hr).2 hC.2.2.2.1 hR.2.1 hR.2.2.1 hR.2.2.2.1 hR.2.2.2.2 q hwl hr k hk (hC.2.2.2.2.1 _ hw) (fun _ h9 => h9) hfin hin hdecl h1 (h2 _).1 (h2 _).2 hkl2 hd (fun H1 locs1 hP hD hS => ?_)
  have ef : (fsv ads I q fs).set k (.ref (adr ads r)) = fsv ads I q (fs.set k (some (some r))) := by
    apply List.ext_getElem?
    intro i
    by_cases hi : k = i
    · subst hi
      rw [List.getElem?_set_self hkl2, fsv_get (List.getElem?_set_self hkl)]
      rfl
    · rw [List.getElem?_set_ne hi]
      unfold fsv
      rw [List.getElem?_mapIdx, List.getElem?_mapIdx, List.getElem?_set_ne hi]
  have ew : (wld ads sh I A).set q (x.1, .inr (ci, (fsv ads I q fs).set k (.ref (adr ads r)))) = wld ads (sh.set q (.inr (.inr (ci, fs.set k (some (some r)))))) I A := by
    rw [wld_setC hx (List.getElem?_eq_some_iff.mp hs).1, ef]
    rfl
  rw [ew] at hP hD
  exact kk H1 locs1 a ⟨by rw [List.length_set]; exact hR.1, by rw [tys_setC (c' := .inr (.inr (ci, fs.set k (some (some r))))) hx hs rfl]; exact hR.2.1, hP, hD, hS⟩ hL
/-- a final int of the object that is made -/
theorem g_putI (hC : CX p s m args meth c cc nL own B) (hin : meth.name = "<init>") {idx ci k q : Nat} {v : Int32} {fs : List (Option (Option Nat))} (hs : sh[q]? = some (.inr (.inr (ci, fs)))) (hf : fs[k]? = some none) (hk : k < (clsN ci).2.2) (hw : fldw own idx ci k ∈ gtbl) (hfin : ((clsN ci).2.1 k).2.2.2 = true) (hdecl : ((clsN ci).2.1 k).1 = own) (hty : parseFieldDescriptor ((clsN ci).2.1 k).2.2.1 = some .int) (hd : decode cc pc = .ok (.putfield idx, 3))
    (kk : G p l e R s m args below meth c Q D B nL cells slots ads sh (up2 I q k v) A (pc + 3) ls st) : G p l e R s m args below meth c Q D B nL cells slots ads sh I A pc ls (.inl v :: .inr (some q) :: st) := by
  intro H locs a hR hL
  obtain ⟨x, hx⟩ := ad_get hR hs
  have hwl := wld_get (I := I) (A := A) hx hs
  have ha : adr ads q = x.1 := adr_of hx
  obtain ⟨rr, hr, -⟩ := hR.2.2.1 q _ hwl
  have hr : vwCl[ci]? = some rr := hr
  have hn := cls_n hr
  unfold fldw at hw
  rw [hn] at hw hk hfin hdecl hty
  have hkl2 : k < (fsv ads I q fs).length := (List.getElem?_eq_some_iff.mp (fsv_get (ads := ads) (I := I) (k := q) hf)).1
  show W p l e R s m args below meth c H locs cells slots Q (F0 m pc a (.int v :: .ref (adr ads q) :: st.map (cv ads)))
  rw [ha]
  refine va_putF (C := rr.1) (T := rr.2.1) (N := rr.2.2) (ty := .int) hC.1 hC.2.1 hC.2.2.2.2.1 (cls_in hr) (tyN ci) (cls_ty hr).1 (cls_ty hr).2 hC.2.2.2.1 hR.2.1 hR.2.2.1 hR.2.2.2.1 hR.2.2.2.2 q hwl hr k hk (hC.2.2.2.2.1 _ hw) (fun _ h9 => h9) hfin hin hdecl hty rfl rfl hkl2 hd (fun H1 locs1 hP hD hS => ?_)
  rw [wld_setI hx hs hf] at hP hD
  exact kk H1 locs1 a ⟨hR.1, hR.2.1, hP, hD, hS⟩ hL
/-- an object of Changes into the array of them -/
theorem g_aastQ (hC : CX p s m args meth c cc nL own B) {i : Int32} {q r : Nat} {L : List (Option Nat)} {fs : List (Option (Option Nat))} (hs : sh[q]? = some (.inr (.inl (0, L)))) (hv : sh[r]? = some (.inr (.inr (0, fs)))) (hi : vp_in i L.length) (hd : decode cc pc = .ok (.aastore, 1))
    (kk : G p l e R s m args below meth c Q D B nL cells slots ads (sh.set q (.inr (.inl (0, L.set i.toNatClampNeg (some r))))) I A (pc + 1) ls st) : G p l e R s m args below meth c Q D B nL cells slots ads sh I A pc ls (.inr (some r) :: .inl i :: .inr (some q) :: st) := by
  intro H locs a hR hL
  obtain ⟨x, hx⟩ := ad_get hR hs
  obtain ⟨y, hy⟩ := ad_get hR hv
  have hwq := wld_get (I := I) (A := A) hx hs
  have hwr := wld_get (I := I) (A := A) hy hv
  have ha : adr ads q = x.1 := adr_of hx
  have hb : adr ads r = y.1 := adr_of hy
  obtain ⟨t, ht⟩ := tys_ref hx hs
  obtain ⟨rr, hr, -⟩ := hR.2.2.1 r _ hwr
  have hr : vwCl[0]? = some rr := hr
  have hlt : i.toNatClampNeg < L.length := vin_lt hi
  have ern : rr.1 = RX0 := by
    have := cls_n hr
    rw [← this]
    rfl
  show W p l e R s m args below meth c H locs cells slots Q (F0 m pc a (.ref (adr ads r) :: .int i :: .ref (adr ads q) :: st.map (cv ads)))
  rw [ha, hb]
  refine va_astq hC.1 hC.2.1 hR.2.1 hR.2.2.1 hR.2.2.2.1 hR.2.2.2.2 q t r 0 hwq (by rw [ern]; exact ht) hwr hr hi hd (fun H1 locs1 hP hD hS => ?_)
  have ew : (wld ads sh I A).set q (x.1, .inl (x.2, L.length, .inr (.inr (.inr (.inr (va_up (fun i => (L.getD i none).map (adr ads)) i.toNatClampNeg (some y.1))))))) = wld ads (sh.set q (.inr (.inl (0, L.set i.toNatClampNeg (some r))))) I A := by
    rw [wld_setC hx (List.getElem?_eq_some_iff.mp hs).1]
    congr 1
    show _ = (x.1, Sum.inl (x.2, (L.set i.toNatClampNeg (some r)).length, Sum.inr (Sum.inr (Sum.inr (Sum.inr (fun j => ((L.set i.toNatClampNeg (some r)).getD j none).map (adr ads)))))))
    have e1 : (fun j => ((L.set i.toNatClampNeg (some r)).getD j none).map (adr ads)) = va_up (fun i => (L.getD i none).map (adr ads)) i.toNatClampNeg (some y.1) := by
      funext j
      unfold va_up
      by_cases hj : j = i.toNatClampNeg
      · rw [if_pos hj, hj, List.getD_eq_getElem?_getD, List.getElem?_set_self hlt]
        show some (adr ads r) = _
        rw [hb]
      · rw [if_neg hj, List.getD_eq_getElem?_getD, List.getElem?_set_ne (fun z => hj z.symm), ← List.getD_eq_getElem?_getD]
    rw [e1, List.length_set]
  rw [ew] at hP hD
  exact kk H1 locs1 a ⟨by rw [List.length_set]; exact hR.1, by rw [tys_setC (c' := .inr (.inl (0, L.set i.toNatClampNeg (some r)))) hx hs rfl]; exact hR.2.1, hP, hD, hS⟩ hL
theorem g_obj (hC : CX p s m args meth c cc nL own B) {idx q : Nat} (hwl : Cond.methodLink own idx Lib.objectInit ∈ gtbl) (hwi : Cond.instanceMethod Lib.objectInit ∈ gtbl) (hwc : Cond.code Lib.objectInit ⟨#[0xb1]⟩ 1 none ∈ gtbl) (hd : decode cc pc = .ok (.invokespecial idx, 3)) (hf : 1 ≤ R.frames) (hlo : st.length + 12 ≤ R.locals) (kk : G p l e R s m args below meth c Q D B nL cells slots ads sh I A (pc + 3) ls st) : G p l e R s m args below meth c Q D B nL cells slots ads sh I A pc ls (.inr (some q) :: st) := by
  intro H locs a hR hL
  have hts := hC.2.2.2.2.1
  exact W.objInit hC.1 hC.2.1 hC.2.2.2.1 (hts _ hwl) (hts _ hwi) (hts _ hwc) rfl (hL.1.trans hC.2.2.1.symm) rfl hd hf (by show 2 * 0 + _ + 12 ≤ _; rw [stv]; omega) (kk H locs a hR hL)
end GR2
/-! contracts of constructors -/
def CPreG (D : va_G) (ads : AD) (sh : SH) (sz : Nat) (av : List AV) (I A : HI) : Array Value → State → Prop := va_Pc (av.map (cv ads)) (fun U => U.heap.size = sz ∧ ads.length = sh.length ∧ va_K D vwCl (tysOf ads sh) U ∧ va_P D vwCl (wld ads sh I A) U.heap ∧ va_D (fun _ => True) (wld ads sh I A) ∧ (∀ w ∈ nstw, va_Nw w U) ∧ EX U)
def CPostG (D : va_G) (ads : AD) (sh' : SH) (sz : Nat) (post : HI → HI → Prop) : Array Value → State → Outcome → State → Prop := fun _ st oc t =>
  (∃ (nw : AD) (I A : HI), oc = .returned none ∧ (ads ++ nw).length = sh'.length ∧ post I A ∧ va_P D vwCl (wld (ads ++ nw) sh' I A) t.heap ∧ va_D (AdS ads sz) (wld (ads ++ nw) sh' I A) ∧ va_K D vwCl (tysOf (ads ++ nw) sh') t) ∧ va_F (AdS ads sz) st t
def CtG (l : Launch) (y : MethodName) (cc : ByteArray) (nL fr lc mc ms : Nat) (D : va_G) (ads : AD) (sh : SH) (av : List AV) (I A : HI) (sh' : SH) (post : HI → HI → Prop) : Prop :=
  ∀ sz : Nat, Met l y (Cond.code y cc nL none :: gtbl) { frames := fr, cells := mc, slots := ms, locals := lc } (CPreG D ads sh sz av I A) (CPostG D ads sh' sz post) mc ms (AdS ads sz)
theorem CPreG.blind {D : va_G} {ads : AD} {sh : SH} {I A : HI} {sz : Nat} {av : List AV} : FrameBlind (CPreG D ads sh sz av I A) := by
  intro a U g mk q
  obtain ⟨q0, q1, q2, qK, qP, qD, qN, qE⟩ := q
  exact ⟨q0, q1, q2, va_K.moved (u := U) (U := U.calling g mk a) (Vm.Alike.refl U.vm) qK, qP, qD, nst_same (u := U) (U := U.calling g mk a) rfl qN, EX.moved (u := U) (U := U.calling g mk a) (Vm.Alike.refl U.vm) qE⟩
section GR3
variable {p : Program} {l : Launch} {e : Env} {R : Room} {s : State} {m : MethodId} {args : Array Value} {below : List Frame} {meth : Method} {c : Code} {Q : State → Prop} {D : va_G} {B : Nat → Prop} {nL cells slots : Nat} {ads : AD} {sh : SH} {I A : HI} {pc : Nat} {ls : List (Option AV)} {st : List AV} {cc : ByteArray} {own : String}
theorem g_preG {av : List AV} {H : Heap} {locs : List Loc} (hC : CX p s m args meth c cc nL own B) (hE : EX s) (hR : RW D B s ads sh I A H locs) {U : State} (hU : U.heap = H) (hW : s.WarmedH U.vm) : CPreG D ads sh H.size av I A (av.map (cv ads)).toArray U :=
  ⟨rfl, by rw [hU], hR.1, va_K.moved hW.alike hR.2.1, by rw [hU]; exact hR.2.2.1, hR.2.2.2.1.weaken (fun _ _ _ _ => trivial), nst_moved hW hC.2.2.2.2.2.2.1, EX.moved hW.alike hE⟩
theorem g_runG {sh' : SH} {post : HI → HI → Prop} {a0 : Array Value} {rest st0 : List AV} {mc ms : Nat} (hC : CX p s m args meth c cc nL own B) (hls : (lsOK sh.length ls && stOK sh.length rest) = true)
    (hr : ∀ (H : Heap) (locs : List Loc) (a : Array Slot), RW D B s ads sh I A H locs → LH ads nL ls a → va_Run p l e R s m args below meth c H locs cells slots mc ms (F0 m pc a (st0.map (cv ads))) (rest.map (cv ads)) (CPostG D ads sh' H.size post a0) (AdS ads H.size))
    (kk : ∀ (nw : AD) (I' A' : HI), post I' A' → G p l e R s m args below meth c Q D B nL (cells + mc) (slots + ms) (ads ++ nw) sh' I' A' (pc + 3) ls rest) : G p l e R s m args below meth c Q D B nL cells slots ads sh I A pc ls st0 := by
  intro H locs a hR hL T hT X
  rw [Bool.and_eq_true] at hls
  have hF := AdS_sub hR.1 hR.2.2.2.1 hR.2.2.2.2 hC.2.2.2.2.2.1
  obtain ⟨v, st₀, t, T', L, h0, X', hLf, e1, e2, ⟨⟨nw, I', A', hv, hnl, hp, hb, hd, hkk⟩, hz, hk⟩, stp⟩ := hr H locs a hR hL T hT X
  cases hv
  rw [h0] at hz hk
  have hS := hR.2.2.2.2
  have hvm : s.vm.Alike t.vm := by rw [← e2]; exact X'.warmed.alike
  obtain ⟨t2, a1, b1⟩ := kk nw I' A' hp T'.heap (locs ++ L) a ⟨hnl, va_K.moved hvm.symm hkk, by rw [e1]; exact hb, hd.weaken (fun _ q _ h => hF _ h), Nat.le_trans hS.1 (by rw [e1]; exact hz), fun q h1 h2 => by rw [e1, hk q (Nat.lt_of_lt_of_le h1 hS.1) (fun z => h2 (hF q z))]; exact hS.2.1 q h1 h2, fun q hq => by
      rcases List.mem_append.mp hq with h | h
      · exact hS.2.2 q h
      · exact hF _ (hLf q h)⟩ (hL.app (by rw [hR.1]; exact hls.1)) T' rfl X'
  refine ⟨t2, stp t2 ?_, b1⟩
  show Steps p.tables e below (T'.setTop { (F0 m pc a (st0.map (cv ads))) with pc := pc + 3, stack := [] ++ rest.map (cv ads) }) t2
  rw [List.nil_append, ← st_app (st := rest) (nw := nw) (by rw [hR.1]; exact hls.2)]
  exact a1
theorem g_callI {y : MethodName} {cy : ByteArray} {nY fr lc mc ms idx k : Nat} {as rest st0 : List AV} {sh' : SH} {post : HI → HI → Prop} (hC : CX p s m args meth c cc nL own B) (hE : EX s) (hM : CtG l y cy nY fr lc mc ms D ads sh (.inr (some k) :: as) I A sh' post)
    (hd : decode cc pc = .ok (.invokespecial idx, 3)) (hy : nmOk y as.length) (hni : y.name = "<init>") (hwl : Cond.methodLink own idx y ∈ gtbl) (hwi : Cond.instanceMethod y ∈ gtbl) (hwn : Cond.initialized y.cls ∈ gtbl) (hwc : Cond.code y cy nY none ∈ gtbl)
    (hfr : fr + 1 ≤ R.frames ∧ 8 + (nY + 11) + lc ≤ R.locals) (hst : st0 = as.reverse ++ .inr (some k) :: rest) (hrs : rest.length ≤ 8) (hcs : cells + mc ≤ R.cells ∧ slots + ms ≤ R.slots) (hls : (lsOK sh.length ls && stOK sh.length rest) = true)
    (kk : ∀ (nw : AD) (I' A' : HI), post I' A' → G p l e R s m args below meth c Q D B nL (cells + mc) (slots + ms) (ads ++ nw) sh' I' A' (pc + 3) ls rest) : G p l e R s m args below meth c Q D B nL cells slots ads sh I A pc ls st0 := by
  refine g_runG (a0 := ((.inr (some k) :: as : List AV).map (cv ads)).toArray) hC hls (fun H locs a hR hL => ?_) kk
  have hts := hC.2.2.2.2.1
  exact va_runI (p := p) (l := l) (e := e) (R := R) (below := below) (meth := meth) (H := H) (locs := locs) (cells := cells) (slots := slots) (b := adr ads k) (As := as.map (cv ads)) (rest := rest.map (cv ads)) (g := F0 m pc a (st0.map (cv ads))) ⟨hC.1, hC.2.1, hC.2.2.1, hC.2.2.2.1, hts⟩ (hM H.size)
    (cwI as.length hts (cb_of (fr := 0) (lc := 0) (idx := 0) (n := 0) hts hwc) rfl rfl rfl (hts _ hwn) (hts _ hwl) (hts _ hwi) hni hy hfr)
    ⟨CPreG.blind, fun U hU hW => g_preG (av := .inr (some k) :: as) hC hE hR hU hW⟩ rfl (by rw [List.length_map]) hL.1 (by rw [hst]; simp [cv]) (by show 2 * 0 + _ ≤ 8; rw [stv]; omega) hd hcs
theorem g_callIN {y : MethodName} {host : String} {cy : ByteArray} {nY fr lc mc ms idx k : Nat} {as rest st0 : List AV} {sh' : SH} {post : HI → HI → Prop} (hC : CX p s m args meth c cc nL own B) (hE : EX s) (hM : CtG l y cy nY fr lc mc ms D ads sh (.inr (some k) :: as) I A sh' post)
    (hd : decode cc pc = .ok (.invokespecial idx, 3)) (hy : nmOk y as.length) (hni : y.name = "<init>") (hwl : Cond.methodLinkNest own idx y host ∈ nstw) (hwi : Cond.instanceMethod y ∈ gtbl) (hwn : Cond.initialized y.cls ∈ gtbl) (hwc : Cond.code y cy nY none ∈ gtbl)
    (hfr : fr + 1 ≤ R.frames ∧ 8 + (nY + 11) + lc ≤ R.locals) (hst : st0 = as.reverse ++ .inr (some k) :: rest) (hrs : rest.length ≤ 8) (hcs : cells + mc ≤ R.cells ∧ slots + ms ≤ R.slots) (hls : (lsOK sh.length ls && stOK sh.length rest) = true)
    (kk : ∀ (nw : AD) (I' A' : HI), post I' A' → G p l e R s m args below meth c Q D B nL (cells + mc) (slots + ms) (ads ++ nw) sh' I' A' (pc + 3) ls rest) : G p l e R s m args below meth c Q D B nL cells slots ads sh I A pc ls st0 := by
  refine g_runG (a0 := ((.inr (some k) :: as : List AV).map (cv ads)).toArray) hC hls (fun H locs a hR hL => ?_) kk
  have hts := hC.2.2.2.2.1
  exact va_runIN (p := p) (l := l) (e := e) (R := R) (below := below) (meth := meth) (H := H) (locs := locs) (cells := cells) (slots := slots) (b := adr ads k) (As := as.map (cv ads)) (rest := rest.map (cv ads)) (g := F0 m pc a (st0.map (cv ads))) ⟨hC.1, hC.2.1, hC.2.2.1, hC.2.2.2.1, hts⟩ (hM H.size)
    ⟨va_cnB as.length hts (cb_of (fr := 0) (lc := 0) (idx := 0) (n := 0) hts hwc) rfl rfl rfl (hC.2.2.2.2.2.2.1 _ hwl) (hts _ hwn) hy hfr, hni, hts _ hwi⟩
    ⟨CPreG.blind, fun U hU hW => g_preG (av := .inr (some k) :: as) hC hE hR hU hW⟩ rfl (by rw [List.length_map]) hL.1 (by rw [hst]; simp [cv]) (by show 2 * 0 + _ ≤ 8; rw [stv]; omega) hd hcs
theorem g_retG {post : HI → HI → Prop} {ads0 nw : AD} (hC : CX p s m args meth c cc nL own (AdS ads0 s.heap.size)) (hr : meth.sig.returnType = none) (hd : decode cc pc = .ok (.return_, 1)) (hp : post I A) : G p l e R s m args below meth c (MQ below (CPostG D ads0 sh s.heap.size post) args s cells slots (AdS ads0 s.heap.size)) D (AdS ads0 s.heap.size) nL cells slots (ads0 ++ nw) sh I A pc ls [] :=
  fun H locs a hR hL => W.vret hC.1 hC.2.1 hr (fun t ht hW => ⟨⟨nw, I, A, rfl, hR.1, hp, by rw [ht]; exact hR.2.2.1, hR.2.2.2.1, va_K.moved hW.alike hR.2.1⟩, hR.2.2.2.2.F ht⟩) hR.2.2.2.2.2.2 hd hC.2.2.2.2.2.2.2
end GR3
/-- a constructor's contract out of its walk -/
theorem CtG_of {l : Launch} {y : MethodName} {cc : ByteArray} {nL fr lc mc ms : Nat} {D : va_G} {ads : AD} {sh sh' : SH} {av : List AV} {I A : HI} {post : HI → HI → Prop} (hy : plainName y.cls = true) (hni : y.name = "<init>") (hn : av.length ≤ nL)
    (body : ∀ (p : Program) (e : Env) (s : State) (m : MethodId) (args : Array Value) (below : List Frame) (meth : Method) (c : Code), CX p s m args meth c cc nL y.cls (AdS ads s.heap.size) → EX s → meth.name = "<init>" → meth.sig.returnType = none →
      G p l e { frames := fr, cells := mc, slots := ms, locals := lc } s m args below meth c (MQ below (CPostG D ads sh' s.heap.size post) args s mc ms (AdS ads s.heap.size)) D (AdS ads s.heap.size) nL 0 0 ads sh I A 0 (av.map some ++ List.replicate (nL - av.length) none) []) : CtG l y cc nL fr lc mc ms D ads sh av I A sh' post := by
  intro sz
  refine Met.ofW (cc := cc) (maxL := nL) (ret := none) hy rfl ?_
  intro p e s m args below meth c s₁ B hml hv
  obtain ⟨rfl, hsz, hlen, hK, hP, hD, hN, hE⟩ := hv
  subst hsz
  have hts := atoms_spec (ws := Cond.code y cc nL none :: gtbl) B.pre
  have hown : s.vm.findClass y.cls = some m.cls := findClass_of_methodNamed B.named
  have hin : meth.name = "<init>" := by
    rw [(name_of_methodNamed B.named B.method).1]
    exact hni
  have hsl : ∀ (vs : List AV), lg_sl (vs.map (cv ads)) = vs.map (fun v => Slot.val (cv ads v)) := by
    intro vs
    induction vs with
    | nil => rfl
    | cons v r ih =>
      unfold lg_sl at ih ⊢
      rw [List.map_cons, List.flatMap_cons, ih, cv_cat]
      rfl
  have hl := lv_entry (av.map (cv ads)) (n := nL) (by rw [hsl, List.length_map]; exact hn)
  rw [lg_entry_eq]
  refine body p e s m _ below meth c ⟨B.exec, B.bytes, hml, hown, fun w h => hts w (List.mem_cons_of_mem _ h), fun q h => Or.inr h, hN, B.notSynchronized⟩ hE hin B.returns s.heap [] _ ⟨hlen, hK, hP, wld_self hD, va_S.rf⟩ ⟨hl.1, by simp; omega, hl.2.1, fun i v hi => ?_⟩
  have hi2 : i < av.length := by
    rcases Nat.lt_or_ge i av.length with h | h
    · exact h
    · rw [List.getElem?_append_right (by rw [List.length_map]; exact h)] at hi
      have := List.mem_of_getElem? hi
      simp at this
  rw [List.getElem?_append_left (by rw [List.length_map]; exact hi2), List.getElem?_map] at hi
  have hv : av[i]? = some v := by
    cases h9 : av[i]? with
    | none => rw [h9] at hi; cases hi
    | some w => rw [h9] at hi; cases hi; rfl
  rw [List.getElem?_toArray, hsl, List.getElem?_append_left (by rw [List.length_map]; exact hi2), List.getElem?_map, hv]
  rfl
