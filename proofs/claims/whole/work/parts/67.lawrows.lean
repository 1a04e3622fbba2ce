theorem wm_X8 : Cond.instantiable RX8 10 ∈ gtbl := gt_of (List.mem_append_right _ (List.mem_of_getElem? (i := 14) (by decide +kernel))) (by decide +kernel)
theorem wm_X9 : Cond.instantiable RX9 29 ∈ gtbl := gt_of (List.mem_append_right _ (List.mem_of_getElem? (i := 685) (by decide +kernel))) (by decide +kernel)
/-! the law: what the two sides leave each other, the first state, rows for the law's own frame -/
theorem XOK.lo {I A I' A' : HI} (h : XOK I A) (hs : LoS I A I' A') : XOK I' A' ∧ xSt I' A' = xSt I A := by
  have e : xSt I' A' = xSt I A := by
    unfold xSt
    rw [(hs 2 (by decide)).2, (hs 27 (by decide)).2, (hs 28 (by decide)).2, (hs 0 (by decide)).1, (hs 26 (by decide)).1]
  refine ⟨?_, e⟩
  obtain ⟨h1, h2, h3, h4, h5⟩ := h
  refine ⟨by rw [e]; exact h1, by rw [(hs 1 (by decide)).1, (hs 2 (by decide)).2]; exact h2, h3.off (fun n hn => ⟨by rw [(hs _ (by omega)).1], by rw [(hs _ (by omega)).1]⟩) (fun k _ hk => (hs k (by omega)).2), ?_, ?_⟩
  · rw [(hs 0 (by decide)).1]
    rcases h4 with z | ⟨z, r1, r2⟩
    · exact Or.inl z
    · refine Or.inr ⟨z, ?_, ?_⟩
      · rw [(hs 2 (by decide)).2]
        exact r1.off (hs 3 (by decide)).1 (hs 9 (by decide)).2 (hs 10 (by decide)).2 (hs 11 (by decide)).2 (hs 12 (by decide)).2
      · rw [(hs 2 (by decide)).2]
        exact r2.off (fun k hk => (hs _ (by omega)).2)
  · rw [(hs 0 (by decide)).1]
    rcases h5 with z | ⟨z, z2, r⟩
    · exact Or.inl z
    · refine Or.inr ⟨z, z2, ?_⟩
      unfold OdX OrdOK CsOK PrN prQ at r ⊢
      rw [(hs 2 (by decide)).2, (hs 27 (by decide)).2, (hs 28 (by decide)).2, (hs 0 (by decide)).1, (hs 29 (by decide)).1, (hs 67 (by decide)).2]
      exact r
theorem MOK.hi {I A I' A' : HI} (h : MOK I A) (hs : HiS I A I' A') : MOK I' A' ∧ mSt I' A' = mSt I A := by
  have e : mSt I' A' = mSt I A := by
    unfold mSt
    rw [(hs 97 (by decide)).2, (hs 98 (by decide)).2, (hs 99 (by decide)).2, (hs 96 (by decide)).1]
  refine ⟨⟨by rw [e]; exact h.1, ?_⟩, e⟩
  have := h.2
  unfold mRo0 StOK StN at this ⊢
  rw [(hs 96 (by decide)).1, (hs 110 (by decide)).2]
  exact this
/-- both sides hold the same -/
def BOK (I A : HI) : Prop := XOK I A ∧ MOK I A ∧ xSt I A = mSt I A
theorem inst_in {ci : Nat} {q : vw_C} (h : vwCl[ci]? = some q) : Cond.instantiable q.1 q.2.2 ∈ gtbl := by
  match ci, h with
  | 0, h => cases h; exact wm_X0
  | 1, h => cases h; exact wm_X1
  | 2, h => cases h; exact wm_X2
  | 3, h => cases h; exact wm_X3
  | 4, h => cases h; exact wm_X4
  | 5, h => cases h; exact wm_X5
  | 6, h => cases h; exact wm_X6
  | 7, h => cases h; exact wm_X7
  | 8, h => cases h; exact wm_X8
  | 9, h => cases h; exact wm_X9
  | k + 10, h => simp [vwCl] at h
theorem known {s : State} {args : Array Value} (hts : ∀ w ∈ gtbl, w.before args s = true) : ∃ D : va_G, va_K D vwCl [] s := by
  have h : ∀ k : Nat, ∃ x : ClassId × (Nat → Nat), ∀ q, vwCl[k]? = some q → u_Kn s q.1 q.2.1 q.2.2 x.1 x.2 := by
    intro k
    cases z : vwCl[k]? with
    | none => exact ⟨(0, fun _ => 0), fun q h => by cases h⟩
    | some q =>
      obtain ⟨c, f, hk⟩ := u_known (C := q.1) (T := q.2.1) (N := q.2.2) (n := q.2.2) hts (cls_in z) (hts _ (inst_in z))
      exact ⟨(c, f), fun q' h => by cases h; exact hk⟩
  obtain ⟨f, hf⟩ := Classical.axiomOfChoice h
  exact ⟨(fun k => (f k).1, fun k => (f k).2), fun k q hq => hf k q hq, fun k q h => by simp at h⟩
section WR
variable {p : Program} {l : Launch} {e : Env} {R : Room} {s : State} {m : MethodId} {args : Array Value} {below : List Frame} {meth : Method} {c : Code} {Q : State → Prop} {D : va_G} {B : Nat → Prop} {nL cells slots : Nat} {ads : AD} {sh : SH} {I A : HI} {pc : Nat} {cc : ByteArray} {own : String} {H : Heap} {locs : List Loc} {a : Array Slot}
theorem w_new (hC : CX p s m args meth c cc nL own B) {rest : List Value} {idx ci : Nat} {q : vw_C} {fs : List (Option (Option Nat))} (hq : vwCl[ci]? = some q) (hcl : Cond.classLink own idx q.1 ∈ gtbl) (hinst : Cond.instantiable q.1 q.2.2 ∈ gtbl) (hini : Cond.initialized q.1 ∈ gtbl) (hfs : ∀ j, j < q.2.2 → defaultValue (tyN ci j) = vp_V (fsv [] (fun _ _ => 0) 0 fs) j) (hdf : fs.all isDf = true) (hz : ∀ j, I sh.length j = 0) (hsh : shOK sh = true) (hcells : cells + 1 ≤ R.cells) (hslots : slots + q.2.2 ≤ R.slots) (hd : decode cc pc = .ok (.new idx, 3)) (hR : RW D B s ads sh I A H locs)
    (kk : ∀ (x : Nat × ClassId) (H' : Heap) (locs' : List Loc), RW D B s (ads ++ [x]) (sh ++ [.inr (.inr (ci, fs))]) I A H' locs' → W p l e R s m args below meth c H' locs' (cells + 1) (slots + q.2.2) Q (F0 m (pc + 3) a (.ref x.1 :: rest))) : W p l e R s m args below meth c H locs cells slots Q (F0 m pc a rest) := by
  obtain ⟨q1, q2, q3⟩ := q
  have hts := hC.2.2.2.2.1
  have hl := hR.1
  refine va_new (ci := ci) (fs := fsv [] (fun _ _ => 0) 0 fs) (C := q1) (T := q2) (N := q3) hC.1 hC.2.1 hts (cls_in hq) (tyN ci) (cls_ty hq).1 hC.2.2.2.1 (hts _ hcl) (hts _ hinst) (hts _ hini) hR.2.1 hR.2.2.1 hR.2.2.2.1 hR.2.2.2.2 hC.2.2.2.2.2.1 hq hfs hcells hslots hd (fun b H1 hP hD hS => ?_)
  have e : wld (ads ++ [(b, 0)]) (sh ++ [.inr (.inr (ci, fs))]) I A = wld ads sh I A ++ [(b, .inr (ci, fsv [] (fun _ _ => 0) 0 fs))] := by
    rw [wld_app hl hsh]
    congr 1
    show [(b, Sum.inr (ci, fsv (ads ++ [(b, 0)]) I (sh.length + 0) fs))] = _
    rw [Nat.add_zero, fsv_df hdf hz]
  exact kk (b, 0) H1 _ ⟨by rw [List.length_append, List.length_append, hl]; rfl, by rw [tys_app hl]; show va_K D vwCl (tysOf ads sh ++ []) s; rw [List.append_nil]; exact hR.2.1, by rw [e]; exact hP, by rw [e]; exact hD, hS⟩
theorem w_callI {y : MethodName} {cy : ByteArray} {nY fr lc mc ms idx k : Nat} {rest st0 : List Value} {sh' : SH} {post : HI → HI → Prop} (hC : CX p s m args meth c cc nL own B) (hE : EX s) (hM : CtG l y cy nY fr lc mc ms D ads sh [.inr (some k)] I A sh' post)
    (hd : decode cc pc = .ok (.invokespecial idx, 3)) (hy : nmOk y 0) (hni : y.name = "<init>") (hwl : Cond.methodLink own idx y ∈ gtbl) (hwi : Cond.instanceMethod y ∈ gtbl) (hwn : Cond.initialized y.cls ∈ gtbl) (hwc : Cond.code y cy nY none ∈ gtbl)
    (hfr : fr + 1 ≤ R.frames ∧ 8 + (nY + 11) + lc ≤ R.locals) (hst : st0 = .ref (adr ads k) :: rest) (hrs : (rest.map fun v => v.category).sum ≤ 8) (hcs : cells + mc ≤ R.cells ∧ slots + ms ≤ R.slots) (hR : RW D B s ads sh I A H locs) (ha : a.size = nL)
    (kk : ∀ (nw : AD) (I' A' : HI) (H' : Heap) (locs' : List Loc), post I' A' → RW D B s (ads ++ nw) sh' I' A' H' locs' → W p l e R s m args below meth c H' locs' (cells + mc) (slots + ms) Q (F0 m (pc + 3) a rest)) : W p l e R s m args below meth c H locs cells slots Q (F0 m pc a st0) := by
  intro T hT X
  have hts := hC.2.2.2.2.1
  have hF := AdS_sub hR.1 hR.2.2.2.1 hR.2.2.2.2 hC.2.2.2.2.2.1
  have hrun : va_Run p l e R s m args below meth c H locs cells slots mc ms (F0 m pc a st0) rest (CPostG D ads sh' H.size post (([.inr (some k)] : List AV).map (cv ads)).toArray) (AdS ads H.size) := va_runI (p := p) (l := l) (e := e) (R := R) (below := below) (meth := meth) (H := H) (locs := locs) (cells := cells) (slots := slots) (b := adr ads k) (As := []) (rest := rest) (g := F0 m pc a st0) ⟨hC.1, hC.2.1, hC.2.2.1, hC.2.2.2.1, hts⟩ (hM H.size)
    (cwI 0 hts (cb_of (fr := 0) (lc := 0) (idx := 0) (n := 0) hts hwc) rfl rfl rfl (hts _ hwn) (hts _ hwl) (hts _ hwi) hni hy hfr)
    ⟨CPreG.blind, fun U hU hW => g_preG (av := [.inr (some k)]) hC hE hR hU hW⟩ rfl rfl ha (by rw [hst]; rfl) (by show 2 * 0 + _ ≤ 8; omega) hd hcs
  obtain ⟨v, st₀, t, T', L, h0, X', hLf, e1, e2, ⟨⟨nw, I', A', hv, hnl, hp, hb, hdd, hkk⟩, hz, hk⟩, stp⟩ := hrun T hT X
  cases hv
  rw [h0] at hz hk
  have hS := hR.2.2.2.2
  have hvm : s.vm.Alike t.vm := by rw [← e2]; exact X'.warmed.alike
  obtain ⟨t2, a1, b1⟩ := kk nw I' A' T'.heap (locs ++ L) hp ⟨hnl, va_K.moved hvm.symm hkk, by rw [e1]; exact hb, hdd.weaken (fun _ q _ h => hF _ h), Nat.le_trans hS.1 (by rw [e1]; exact hz), fun q h1 h2 => by rw [e1, hk q (Nat.lt_of_lt_of_le h1 hS.1) (fun z => h2 (hF q z))]; exact hS.2.1 q h1 h2, fun q hq => by
      rcases List.mem_append.mp hq with h | h
      · exact hS.2.2 q h
      · exact hF _ (hLf q h)⟩ T' rfl X'
  exact ⟨t2, stp t2 a1, b1⟩
theorem w_callV {y : MethodName} {cy : ByteArray} {nY fr lc idx k ci : Nat} {fs : List (Option (Option Nat))} {ret : Option FieldType} {as : List AV} {rest st0 : List Value} {post : Option AV → HI → HI → Prop} (hC : CX p s m args meth c cc nL own B) (hM : Ct l y cy nY ret fr lc D ads sh (.inr (some k) :: as) I A post)
    (hd : decode cc pc = .ok (.invokevirtual idx, 3)) (hy : nmOk y as.length) (hs : sh[k]? = some (.inr (.inr (ci, fs)))) (hcy : (clsN ci).1 = y.cls) (hwl : Cond.methodLink own idx y ∈ gtbl) (hwi : Cond.instanceMethod y ∈ gtbl) (hws : Cond.selects y.cls y y ∈ gtbl) (hwn : Cond.initialized y.cls ∈ gtbl) (hwc : Cond.code y cy nY ret ∈ gtbl)
    (hfr : fr + 1 ≤ R.frames ∧ 8 + (nY + 11) + lc ≤ R.locals) (hst : st0 = (as.map (cv ads)).reverse ++ .ref (adr ads k) :: rest) (hrs : (rest.map fun v => v.category).sum ≤ 8) (hcs : cells ≤ R.cells ∧ slots ≤ R.slots) (hR : RW D B s ads sh I A H locs) (ha : a.size = nL)
    (kk : ∀ (r : Option AV) (I' A' : HI), post r I' A' → ∀ (H' : Heap) (locs' : List Loc), RW D B s ads sh I' A' H' locs' → W p l e R s m args below meth c H' locs' cells slots Q (F0 m (pc + 3) a ((r.map (cv ads)).toList ++ rest))) : W p l e R s m args below meth c H locs cells slots Q (F0 m pc a st0) := by
  intro T hT X
  have hts := hC.2.2.2.2.1
  have hF := AdS_sub hR.1 hR.2.2.2.1 hR.2.2.2.2 hC.2.2.2.2.2.1
  obtain ⟨x, hx⟩ := ad_get hR hs
  have hw := wld_get (I := I) (A := A) hx hs
  have hax : adr ads k = x.1 := adr_of hx
  obtain ⟨r9, hr9, -⟩ := hR.2.2.1 k _ hw
  have hr9 : vwCl[ci]? = some r9 := hr9
  have hcl : r9.1 = y.cls := by rw [← cls_n hr9]; exact hcy
  have hrun := va_runV (p := p) (l := l) (e := e) (R := R) (below := below) (meth := meth) (H := H) (locs := locs) (cells := cells) (slots := slots) (C := y.cls) (b := adr ads k) (As := as.map (cv ads)) (rest := rest) (g := F0 m pc a st0) ⟨hC.1, hC.2.1, hC.2.2.1, hC.2.2.2.1, hts⟩ (hM H.size)
    ⟨callB_of as.length hts (cb_of (fr := 0) (lc := 0) (idx := 0) (n := 0) hts hwc) rfl rfl rfl (hts _ hwn) (hts _ hwl) hy hfr, hts _ hwi, hts _ hws⟩
    ⟨CPre.blind, by rw [hax]; have := va_recv hR.2.1 hR.2.2.1 hr9 hw; rw [hcl] at this; exact this, fun U hU hW => g_pre (av := .inr (some k) :: as) hC hR hU hW⟩ rfl (by rw [List.length_map]) ha (by rw [hst]) (by show 2 * 0 + _ ≤ 8; omega) hd hcs
  obtain ⟨v, st₀, t, T', L, h0, X', hLf, e1, e2, ⟨⟨r, I', A', hv, hp, hb⟩, hz, hk⟩, stp⟩ := hrun T hT X
  cases hv
  rw [h0] at hz hk
  have hS := hR.2.2.2.2
  obtain ⟨t2, a1, b1⟩ := kk r I' A' hp T'.heap (locs ++ L) ⟨hR.1, hR.2.1, by rw [e1]; exact hb, wld_D hR.2.2.2.1 (fun _ h => h), Nat.le_trans hS.1 (by rw [e1]; exact hz), fun q h1 h2 => by rw [e1, hk q (Nat.lt_of_lt_of_le h1 hS.1) (fun z => h2 (hF q z))]; exact hS.2.1 q h1 h2, fun q hq => by
      rcases List.mem_append.mp hq with h | h
      · exact hS.2.2 q h
      · exact hF _ (hLf q h)⟩ T' rfl X'
  exact ⟨t2, stp t2 a1, b1⟩
end WR
