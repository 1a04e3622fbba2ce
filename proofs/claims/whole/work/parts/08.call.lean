/-! stretches, contracts, calls, returns -/
def okB (cc : ByteArray) (own : String) : Nat → List AI → Prop
  | _, [] => True
  | pc, x :: r => ok1 cc own pc x ∧ okB cc own (pc + lnA x.1) r
def lnB : List AI → Nat
  | [] => 0
  | x :: r => lnA x.1 + lnB r
def psB (sh : SH) : List AI → CF → Option CF
  | [], c => some c
  | x :: r, c => match ps sh x c with
    | some c' => psB sh r c'
    | none => none
/-- a contract's start and end -/
def CPre (D : va_G) (ads : AD) (sh : SH) (sz : Nat) (av : List AV) (I A : HI) : Array Value → State → Prop := va_Pc (av.map (cv ads)) (fun U => U.heap.size = sz ∧ ads.length = sh.length ∧ va_K D vwCl (tysOf ads sh) U ∧ va_P D vwCl (wld ads sh I A) U.heap ∧ va_D (fun _ => True) (wld ads sh I A) ∧ ∀ w ∈ nstw, va_Nw w U)
def CPost (D : va_G) (ads : AD) (sh : SH) (sz : Nat) (post : Option AV → HI → HI → Prop) : Array Value → State → Outcome → State → Prop := fun _ st oc t =>
  (∃ (r : Option AV) (I A : HI), oc = .returned (r.map (cv ads)) ∧ post r I A ∧ va_P D vwCl (wld ads sh I A) t.heap) ∧ va_F (AdS ads sz) st t
def Ct (l : Launch) (y : MethodName) (cc : ByteArray) (nL : Nat) (ret : Option FieldType) (fr lc : Nat) (D : va_G) (ads : AD) (sh : SH) (av : List AV) (I A : HI) (post : Option AV → HI → HI → Prop) : Prop :=
  ∀ sz : Nat, Met l y (Cond.code y cc nL ret :: gtbl) { frames := fr, cells := 0, slots := 0, locals := lc } (CPre D ads sh sz av I A) (CPost D ads sh sz post) 0 0 (AdS ads sz)
section GC
variable {p : Program} {l : Launch} {e : Env} {R : Room} {s : State} {m : MethodId} {args : Array Value} {below : List Frame} {meth : Method} {c : Code} {Q : State → Prop} {D : va_G} {B : Nat → Prop} {nL cells slots : Nat} {ads : AD} {sh : SH} {I A : HI} {pc : Nat} {ls : List (Option AV)} {st : List AV} {cc : ByteArray} {own : String}
theorem g_blk (hC : CX p s m args meth c cc nL own B) (b : List AI) : ∀ {pc pc' : Nat} {ls ls' : List (Option AV)} {st st' : List AV} {I I' : HI}, okB cc own pc b → psB sh b (ls, st, I) = some (ls', st', I') → pc + lnB b = pc' → G p l e R s m args below meth c Q D B nL cells slots ads sh I' A pc' ls' st' → G p l e R s m args below meth c Q D B nL cells slots ads sh I A pc ls st := by
  induction b with
  | nil =>
    intro pc pc' ls ls' st st' I I' _ h2 h3 kk
    cases h2
    subst h3
    exact kk
  | cons x r ih =>
    intro pc pc' ls ls' st st' I I' h1 h2 h3 kk
    simp only [psB] at h2
    split at h2
    · rename_i c' hc
      obtain ⟨l1, s1, i1⟩ := c'
      exact g_ps hC x h1.1 hc (ih h1.2 h2 (by rw [← h3]; show _ = pc + (lnA x.1 + lnB r); omega) kk)
    · cases h2
theorem stv (rest : List AV) : ((rest.map (cv ads)).map fun v => v.category).sum = rest.length := by
  induction rest with
  | nil => rfl
  | cons a r ih =>
    simp only [List.map_cons, List.sum_cons, List.length_cons, ih, cv_cat]
    omega
theorem nst_form : ∀ w ∈ nstw, ∃ (a : String) (i : Nat) (x : MethodName) (h : String), w = .methodLinkNest a i x h := by
  intro w hw
  simp only [nstw, List.mem_cons, List.not_mem_nil, or_false] at hw
  rcases hw with rfl | rfl | rfl | rfl | rfl | rfl | rfl | rfl <;> exact ⟨_, _, _, _, rfl⟩
theorem nst_same {u U : State} (h : u.vm = U.vm) (hZ : ∀ w ∈ nstw, va_Nw w u) : ∀ w ∈ nstw, va_Nw w U := by
  intro w hw
  obtain ⟨a, i, x, z, rfl⟩ := nst_form w hw
  exact va_Nw.same rfl h (hZ _ hw)
theorem CPre.blind {sz : Nat} {av : List AV} : FrameBlind (CPre D ads sh sz av I A) := by
  intro a U g mk q
  obtain ⟨q0, q1, q2, qK, qP, qD, qN⟩ := q
  exact ⟨q0, q1, q2, va_K.moved (u := U) (U := U.calling g mk a) (Vm.Alike.refl U.vm) qK, qP, qD, nst_same (u := U) (U := U.calling g mk a) rfl qN⟩
/-- the links of nest mates are the same in a warmer machine -/
theorem nst_moved {U : State} (hW : s.WarmedH U.vm) (h : ∀ w ∈ nstw, va_Nw w s) : ∀ w ∈ nstw, va_Nw w U := by
  intro w hw
  obtain ⟨a, i, x, z, rfl⟩ := nst_form w hw
  exact va_Nw.warmM hW (h _ hw)
theorem g_run {post : Option AV → HI → HI → Prop} {a0 : Array Value} {rest st0 : List AV} (hC : CX p s m args meth c cc nL own B)
    (hr : ∀ (H : Heap) (locs : List Loc) (a : Array Slot), RW D B s ads sh I A H locs → LH ads nL ls a → va_Run p l e R s m args below meth c H locs cells slots 0 0 (F0 m pc a (st0.map (cv ads))) (rest.map (cv ads)) (CPost D ads sh H.size post a0) (AdS ads H.size))
    (kk : ∀ (r : Option AV) (I' A' : HI), post r I' A' → G p l e R s m args below meth c Q D B nL cells slots ads sh I' A' (pc + 3) ls (r.toList ++ rest)) : G p l e R s m args below meth c Q D B nL cells slots ads sh I A pc ls st0 := by
  intro H locs a hR hL T hT X
  have hF := AdS_sub hR.1 hR.2.2.2.1 hR.2.2.2.2 hC.2.2.2.2.2.1
  obtain ⟨v, st₀, t, T', L, h0, X', hLf, e1, e2, ⟨⟨r, I', A', hv, hp, hb⟩, hz, hk⟩, stp⟩ := hr H locs a hR hL T hT X
  cases hv
  rw [h0] at hz hk
  have hS := hR.2.2.2.2
  obtain ⟨t2, a1, b1⟩ := kk r I' A' hp T'.heap (locs ++ L) a ⟨hR.1, hR.2.1, by rw [e1]; exact hb, wld_D hR.2.2.2.1 (fun _ h => h), Nat.le_trans hS.1 (by rw [e1]; exact hz), fun q h1 h2 => by rw [e1, hk q (Nat.lt_of_lt_of_le h1 hS.1) (fun z => h2 (hF q z))]; exact hS.2.1 q h1 h2, fun q hq => by
      rcases List.mem_append.mp hq with h | h
      · exact hS.2.2 q h
      · exact hF _ (hLf q h)⟩ hL T' rfl X'
  refine ⟨t2, stp t2 ?_, b1⟩
  have : ((r.map (cv ads)).toList ++ rest.map (cv ads)) = (r.toList ++ rest).map (cv ads) := by
    cases r <;> simp
  show Steps p.tables e below (T'.setTop { (F0 m pc a (st0.map (cv ads))) with pc := pc + 3, stack := (r.map (cv ads)).toList ++ rest.map (cv ads) }) t2
  rw [this]
  exact a1
theorem cb_of {y : MethodName} {cy : ByteArray} {nY fr lc idx n : Nat} {ret : Option FieldType} (hts : ∀ w ∈ gtbl, w.before args s = true) (hc : Cond.code y cy nY ret ∈ gtbl) : GoodIn gtbl (Cond.code y cy nY ret :: gtbl) := by
  intro w hw
  rcases List.mem_cons.mp hw with rfl | h
  · exact ⟨hc, good_of_word (gt_good hc)⟩
  · exact ⟨h, good_of_word (gt_good h)⟩
/-- what a call's row asks of the callee's name: n parameters -/
def nmOk (y : MethodName) (n : Nat) : Prop := y.cls ≠ "java/lang/invoke/MethodHandle" ∧ y.cls ≠ "java/lang/invoke/VarHandle" ∧ (parseMethodDescriptor y.desc).map (fun d => d.parameters.length) = some n
theorem g_pre {av : List AV} {H : Heap} {locs : List Loc} (hC : CX p s m args meth c cc nL own B) (hR : RW D B s ads sh I A H locs) {U : State} (hU : U.heap = H) (hW : s.WarmedH U.vm) : CPre D ads sh H.size av I A (av.map (cv ads)).toArray U :=
  ⟨rfl, by rw [hU], hR.1, va_K.moved hW.alike hR.2.1, by rw [hU]; exact hR.2.2.1, hR.2.2.2.1.weaken (fun _ _ _ _ => trivial), nst_moved hW hC.2.2.2.2.2.2.1⟩
/-- a virtual call -/
theorem g_callV {y : MethodName} {cy : ByteArray} {nY fr lc idx k ci : Nat} {fs : List (Option (Option Nat))} {ret : Option FieldType} {as rest st0 : List AV} {post : Option AV → HI → HI → Prop} (hC : CX p s m args meth c cc nL own B) (hM : Ct l y cy nY ret fr lc D ads sh (.inr (some k) :: as) I A post)
    (hd : decode cc pc = .ok (.invokevirtual idx, 3)) (hy : nmOk y as.length) (hs : sh[k]? = some (.inr (.inr (ci, fs)))) (hcy : (clsN ci).1 = y.cls) (hwl : Cond.methodLink own idx y ∈ gtbl) (hwi : Cond.instanceMethod y ∈ gtbl) (hws : Cond.selects y.cls y y ∈ gtbl) (hwn : Cond.initialized y.cls ∈ gtbl) (hwc : Cond.code y cy nY ret ∈ gtbl)
    (hfr : fr + 1 ≤ R.frames ∧ 8 + (nY + 11) + lc ≤ R.locals) (hst : st0 = as.reverse ++ .inr (some k) :: rest) (hrs : rest.length ≤ 8) (hcs : cells ≤ R.cells ∧ slots ≤ R.slots)
    (kk : ∀ (r : Option AV) (I' A' : HI), post r I' A' → G p l e R s m args below meth c Q D B nL cells slots ads sh I' A' (pc + 3) ls (r.toList ++ rest)) : G p l e R s m args below meth c Q D B nL cells slots ads sh I A pc ls st0 := by
  refine g_run (a0 := ((.inr (some k) :: as : List AV).map (cv ads)).toArray) hC (fun H locs a hR hL => ?_) kk
  obtain ⟨x, hx⟩ := ad_get hR hs
  have hw := wld_get (I := I) (A := A) hx hs
  have ha : adr ads k = x.1 := adr_of hx
  obtain ⟨r9, hr9, -⟩ := hR.2.2.1 k _ hw
  have hr9 : vwCl[ci]? = some r9 := hr9
  have hcl : r9.1 = y.cls := by rw [← cls_n hr9]; exact hcy
  have hts := hC.2.2.2.2.1
  have hrun := va_runV (p := p) (l := l) (e := e) (R := R) (below := below) (meth := meth) (H := H) (locs := locs) (cells := cells) (slots := slots) (C := y.cls) (b := adr ads k) (As := as.map (cv ads)) (rest := rest.map (cv ads)) (g := F0 m pc a (st0.map (cv ads))) ⟨hC.1, hC.2.1, hC.2.2.1, hC.2.2.2.1, hts⟩ (hM H.size)
    ⟨callB_of as.length hts (cb_of (fr := 0) (lc := 0) (idx := 0) (n := 0) hts hwc) rfl rfl rfl (hts _ hwn) (hts _ hwl) hy hfr, hts _ hwi, hts _ hws⟩
    ⟨CPre.blind, by rw [ha]; have := va_recv hR.2.1 hR.2.2.1 hr9 hw; rw [hcl] at this; exact this, fun U hU hW => g_pre (av := .inr (some k) :: as) hC hR hU hW⟩ rfl (by rw [List.length_map]) hL.1 (by rw [hst]; simp [cv]) (by show 2 * 0 + _ ≤ 8; rw [stv]; omega) hd hcs
  exact hrun
/-- a static call in the same class, or to the JDK -/
theorem g_callS {y : MethodName} {cy : ByteArray} {nY fr lc idx : Nat} {ret : Option FieldType} {as rest st0 : List AV} {post : Option AV → HI → HI → Prop} (hC : CX p s m args meth c cc nL own B) (hM : Ct l y cy nY ret fr lc D ads sh as I A post)
    (hd : decode cc pc = .ok (.invokestatic idx, 3)) (hy : nmOk y as.length) (hwl : Cond.methodLink own idx y ∈ gtbl) (hwi : Cond.static y ∈ gtbl) (hwn : Cond.initialized y.cls ∈ gtbl) (hwc : Cond.code y cy nY ret ∈ gtbl)
    (hfr : fr + 1 ≤ R.frames ∧ 8 + (nY + 11) + lc ≤ R.locals) (hst : st0 = as.reverse ++ rest) (hrs : rest.length ≤ 8) (hcs : cells ≤ R.cells ∧ slots ≤ R.slots)
    (kk : ∀ (r : Option AV) (I' A' : HI), post r I' A' → G p l e R s m args below meth c Q D B nL cells slots ads sh I' A' (pc + 3) ls (r.toList ++ rest)) : G p l e R s m args below meth c Q D B nL cells slots ads sh I A pc ls st0 := by
  refine g_run (a0 := (as.map (cv ads)).toArray) hC (fun H locs a hR hL => ?_) kk
  have hts := hC.2.2.2.2.1
  exact va_runS (p := p) (l := l) (e := e) (R := R) (below := below) (meth := meth) (H := H) (locs := locs) (cells := cells) (slots := slots) (As := as.map (cv ads)) (rest := rest.map (cv ads)) (g := F0 m pc a (st0.map (cv ads))) ⟨hC.1, hC.2.1, hC.2.2.1, hC.2.2.2.1, hts⟩ (hM H.size)
    ⟨callB_of as.length hts (cb_of (fr := 0) (lc := 0) (idx := 0) (n := 0) hts hwc) rfl rfl rfl (hts _ hwn) (hts _ hwl) hy hfr, hts _ hwi⟩
    ⟨CPre.blind, fun U hU hW => g_pre (av := as) hC hR hU hW⟩ rfl (by rw [List.length_map]) hL.1 (by rw [hst]; simp) (by show 2 * 0 + _ ≤ 8; rw [stv]; omega) hd hcs
/-- a static call to a nest mate -/
theorem g_callN {y : MethodName} {host : String} {cy : ByteArray} {nY fr lc idx : Nat} {ret : Option FieldType} {as rest st0 : List AV} {post : Option AV → HI → HI → Prop} (hC : CX p s m args meth c cc nL own B) (hM : Ct l y cy nY ret fr lc D ads sh as I A post)
    (hd : decode cc pc = .ok (.invokestatic idx, 3)) (hy : nmOk y as.length) (hwl : Cond.methodLinkNest own idx y host ∈ nstw) (hwi : Cond.static y ∈ gtbl) (hwn : Cond.initialized y.cls ∈ gtbl) (hwc : Cond.code y cy nY ret ∈ gtbl)
    (hfr : fr + 1 ≤ R.frames ∧ 8 + (nY + 11) + lc ≤ R.locals) (hst : st0 = as.reverse ++ rest) (hrs : rest.length ≤ 8) (hcs : cells ≤ R.cells ∧ slots ≤ R.slots)
    (kk : ∀ (r : Option AV) (I' A' : HI), post r I' A' → G p l e R s m args below meth c Q D B nL cells slots ads sh I' A' (pc + 3) ls (r.toList ++ rest)) : G p l e R s m args below meth c Q D B nL cells slots ads sh I A pc ls st0 := by
  refine g_run (a0 := (as.map (cv ads)).toArray) hC (fun H locs a hR hL => ?_) kk
  have hts := hC.2.2.2.2.1
  exact va_runSN (p := p) (l := l) (e := e) (R := R) (below := below) (meth := meth) (H := H) (locs := locs) (cells := cells) (slots := slots) (As := as.map (cv ads)) (rest := rest.map (cv ads)) (g := F0 m pc a (st0.map (cv ads))) ⟨hC.1, hC.2.1, hC.2.2.1, hC.2.2.2.1, hts⟩ (hM H.size)
    ⟨va_cnB as.length hts (cb_of (fr := 0) (lc := 0) (idx := 0) (n := 0) hts hwc) rfl rfl rfl (hC.2.2.2.2.2.2.1 _ hwl) (hts _ hwn) hy hfr, hts _ hwi, trivial⟩
    ⟨CPre.blind, fun U hU hW => g_pre (av := as) hC hR hU hW⟩ rfl (by rw [List.length_map]) hL.1 (by rw [hst]; simp) (by show 2 * 0 + _ ≤ 8; rw [stv]; omega) hd hcs
/-! returns -/
theorem g_reti {post : Option AV → HI → HI → Prop} {ty : FieldType} {v : Int32} (hC : CX p s m args meth c cc nL own (AdS ads s.heap.size)) (hr : meth.sig.returnType = some ty) (hn : narrow ty (.int v) = .int v) (hd : decode cc pc = .ok (.ireturn, 1)) (hp : post (some (.inl v)) I A) : G p l e R s m args below meth c (MQ below (CPost D ads sh s.heap.size post) args s cells slots (AdS ads s.heap.size)) D (AdS ads s.heap.size) nL cells slots ads sh I A pc ls [.inl v] :=
  fun H locs a hR hL => W.zret hC.1 hC.2.1 hr hn (fun t ht hW => ⟨⟨some (.inl v), I, A, rfl, hp, by rw [ht]; exact hR.2.2.1⟩, hR.2.2.2.2.F ht⟩) hR.2.2.2.2.2.2 hd hC.2.2.2.2.2.2.2
theorem g_retv {post : Option AV → HI → HI → Prop} (hC : CX p s m args meth c cc nL own (AdS ads s.heap.size)) (hr : meth.sig.returnType = none) (hd : decode cc pc = .ok (.return_, 1)) (hp : post none I A) : G p l e R s m args below meth c (MQ below (CPost D ads sh s.heap.size post) args s cells slots (AdS ads s.heap.size)) D (AdS ads s.heap.size) nL cells slots ads sh I A pc ls [] :=
  fun H locs a hR hL => W.vret hC.1 hC.2.1 hr (fun t ht hW => ⟨⟨none, I, A, rfl, hp, by rw [ht]; exact hR.2.2.1⟩, hR.2.2.2.2.F ht⟩) hR.2.2.2.2.2.2 hd hC.2.2.2.2.2.2.2
theorem g_reta {post : Option AV → HI → HI → Prop} {rt : FieldType} {k : Nat} (hC : CX p s m args meth c cc nL own (AdS ads s.heap.size)) (hr : meth.sig.returnType = some rt) (hrt : (∃ n, rt = .object n) ∨ ∃ t, rt = .array t) (hd : decode cc pc = .ok (.areturn, 1)) (hp : post (some (.inr (some k))) I A) : G p l e R s m args below meth c (MQ below (CPost D ads sh s.heap.size post) args s cells slots (AdS ads s.heap.size)) D (AdS ads s.heap.size) nL cells slots ads sh I A pc ls [.inr (some k)] :=
  fun H locs a hR hL => W.aret hC.1 hC.2.1 hr hrt (Or.inr ⟨_, rfl⟩) (fun t ht hW => ⟨⟨some (.inr (some k)), I, A, rfl, hp, by rw [ht]; exact hR.2.2.1⟩, hR.2.2.2.2.F ht⟩) hR.2.2.2.2.2.2 hd hC.2.2.2.2.2.2.2
end GC
/-- a contract out of a walk from the entry -/
theorem Ct_of {l : Launch} {y : MethodName} {cc : ByteArray} {nL : Nat} {ret : Option FieldType} {fr lc : Nat} {D : va_G} {ads : AD} {sh : SH} {av : List AV} {I A : HI} {post : Option AV → HI → HI → Prop} (hy : plainName y.cls = true) (hn : av.length ≤ nL)
    (body : ∀ (p : Program) (e : Env) (s : State) (m : MethodId) (args : Array Value) (below : List Frame) (meth : Method) (c : Code), CX p s m args meth c cc nL y.cls (AdS ads s.heap.size) → meth.sig.returnType = ret →
      G p l e { frames := fr, cells := 0, slots := 0, locals := lc } s m args below meth c (MQ below (CPost D ads sh s.heap.size post) args s 0 0 (AdS ads s.heap.size)) D (AdS ads s.heap.size) nL 0 0 ads sh I A 0 (av.map some ++ List.replicate (nL - av.length) none) []) : Ct l y cc nL ret fr lc D ads sh av I A post := by
  intro sz
  refine Met.ofW (cc := cc) (maxL := nL) (ret := ret) hy rfl ?_
  intro p e s m args below meth c s₁ B hml hv
  obtain ⟨rfl, hsz, hlen, hK, hP, hD, hN⟩ := hv
  subst hsz
  have hts := atoms_spec (ws := Cond.code y cc nL ret :: gtbl) B.pre
  have hown : s.vm.findClass y.cls = some m.cls := findClass_of_methodNamed B.named
  have hsl : ∀ (vs : List AV), lg_sl (vs.map (cv ads)) = vs.map (fun v => Slot.val (cv ads v)) := by
    intro vs
    induction vs with
    | nil => rfl
    | cons v r ih =>
      unfold lg_sl at ih ⊢
      rw [List.map_cons, List.flatMap_cons, ih, cv_cat]
      rfl
  have hl := lv_entry (av.map (cv ads)) (n := nL) (by rw [hsl, List.length_map]; exact hn)
  rw [lg_entry_eq]
  refine body p e s m _ below meth c ⟨B.exec, B.bytes, hml, hown, fun w h => hts w (List.mem_cons_of_mem _ h), fun q h => Or.inr h, hN, B.notSynchronized⟩ B.returns s.heap [] _ ⟨hlen, hK, hP, wld_self hD, va_S.rf⟩ ⟨hl.1, by simp; omega, hl.2.1, fun i v hi => ?_⟩
  have hi2 : i < av.length := by
    rcases Nat.lt_or_ge i av.length with h | h
    · exact h
    · rw [List.getElem?_append_right (by rw [List.length_map]; exact h)] at hi
      have := List.mem_of_getElem? hi
      simp at this
  rw [List.getElem?_append_left (by rw [List.length_map]; exact hi2), List.getElem?_map] at hi
  have hv : av[i]? = some v := by
    cases h9 : av[i]? with
    | none => rw [h9] at hi; cases hi
    | some w => rw [h9] at hi; cases hi; rfl
  rw [List.getElem?_toArray, hsl, List.getElem?_append_left (by rw [List.length_map]; exact hi2), List.getElem?_map, hv]
  rfl
