/-! the goal G over the abstract state, and a row for each kind of instruction -/
/-- the nest mates' links, that are no words of a method's list -/
def nstw : List Cond := [.methodLinkNest RX8 11 yX2_init RX8, .methodLinkNest RX0 43 yX8_pair RX8, .methodLinkNest RX2 19 yX8_arePlaces RX8, .methodLinkNest RX5 74 yX8_arePlaces RX8, .methodLinkNest RX3 78 yX8_pair RX8, .methodLinkNest RX4 32 yX8_arePlaces RX8, .methodLinkNest RX1 19 yX8_isPlace RX8, .methodLinkNest RX4 28 yX8_isPlace RX8]
def RW (D : va_G) (B : Nat → Prop) (s : State) (ads : AD) (sh : SH) (I A : HI) (H : Heap) (locs : List Loc) : Prop :=
  ads.length = sh.length ∧ va_K D vwCl (tysOf ads sh) s ∧ va_P D vwCl (wld ads sh I A) H ∧ va_D B (wld ads sh I A) ∧ va_S B s.heap H locs
/-- what is fixed while a method runs -/
def CX (p : Program) (s : State) (m : MethodId) (args : Array Value) (meth : Method) (c : Code) (cc : ByteArray) (nL : Nat) (own : String) (B : Nat → Prop) : Prop :=
  p.tables.exec = Jvm.exec ∧ c.code = cc ∧ c.maxLocals = nL ∧ s.vm.findClass own = some m.cls ∧ (∀ w ∈ gtbl, w.before args s = true) ∧ (∀ q : Nat, s.heap.size ≤ q → B q) ∧ (∀ w ∈ nstw, va_Nw w s) ∧ meth.locks = false
def G (p : Program) (l : Launch) (e : Env) (R : Room) (s : State) (m : MethodId) (args : Array Value) (below : List Frame) (meth : Method) (c : Code) (Q : State → Prop) (D : va_G) (B : Nat → Prop) (nL : Nat) (cells slots : Nat) (ads : AD) (sh : SH) (I A : HI) (pc : Nat) (ls : List (Option AV)) (st : List AV) : Prop :=
  ∀ (H : Heap) (locs : List Loc) (a : Array Slot), RW D B s ads sh I A H locs → LH ads nL ls a → W p l e R s m args below meth c H locs cells slots Q (F0 m pc a (st.map (cv ads)))
section GG
variable {p : Program} {l : Launch} {e : Env} {R : Room} {s : State} {m : MethodId} {args : Array Value} {below : List Frame} {meth : Method} {c : Code} {Q : State → Prop} {D : va_G} {B : Nat → Prop} {nL cells slots : Nat} {ads : AD} {sh : SH} {I A : HI} {pc : Nat} {ls : List (Option AV)} {st : List AV} {cc : ByteArray} {own : String}
/-! branches -/
theorem g_goto (hC : CX p s m args meth c cc nL own B) {off : Int} {tgt : Nat} (hd : decode cc pc = .ok (.goto off, 3)) (ht : (pc : Int) + off = (tgt : Int)) (k : G p l e R s m args below meth c Q D B nL cells slots ads sh I A tgt ls st) : G p l e R s m args below meth c Q D B nL cells slots ads sh I A pc ls st :=
  fun H locs a hR hL => lv_goto hC.1 hC.2.1 hd ht (k H locs a hR hL)
theorem g_ifeq (hC : CX p s m args meth c cc nL own B) {x : Int32} {off : Int} {tgt : Nat} (hd : decode cc pc = .ok (.ifCond .eq off, 3)) (ht : (pc : Int) + off = (tgt : Int)) (kt : x = 0 → G p l e R s m args below meth c Q D B nL cells slots ads sh I A tgt ls st) (kf : ¬ x = 0 → G p l e R s m args below meth c Q D B nL cells slots ads sh I A (pc + 3) ls st) : G p l e R s m args below meth c Q D B nL cells slots ads sh I A pc ls (.inl x :: st) :=
  fun H locs a hR hL => lv_if_eq hC.1 hC.2.1 hd ht (fun h => kt h H locs a hR hL) (fun h => kf h H locs a hR hL)
theorem g_ifne (hC : CX p s m args meth c cc nL own B) {x : Int32} {off : Int} {tgt : Nat} (hd : decode cc pc = .ok (.ifCond .ne off, 3)) (ht : (pc : Int) + off = (tgt : Int)) (kt : ¬ x = 0 → G p l e R s m args below meth c Q D B nL cells slots ads sh I A tgt ls st) (kf : x = 0 → G p l e R s m args below meth c Q D B nL cells slots ads sh I A (pc + 3) ls st) : G p l e R s m args below meth c Q D B nL cells slots ads sh I A pc ls (.inl x :: st) :=
  fun H locs a hR hL => lv_if_ne hC.1 hC.2.1 hd ht (fun h => kt h H locs a hR hL) (fun h => kf h H locs a hR hL)
theorem g_iflt (hC : CX p s m args meth c cc nL own B) {x : Int32} {off : Int} {tgt : Nat} (hd : decode cc pc = .ok (.ifCond .lt off, 3)) (ht : (pc : Int) + off = (tgt : Int)) (kt : x < 0 → G p l e R s m args below meth c Q D B nL cells slots ads sh I A tgt ls st) (kf : ¬ x < 0 → G p l e R s m args below meth c Q D B nL cells slots ads sh I A (pc + 3) ls st) : G p l e R s m args below meth c Q D B nL cells slots ads sh I A pc ls (.inl x :: st) :=
  fun H locs a hR hL => lv_if_lt hC.1 hC.2.1 hd ht (fun h => kt h H locs a hR hL) (fun h => kf h H locs a hR hL)
theorem g_ifge (hC : CX p s m args meth c cc nL own B) {x : Int32} {off : Int} {tgt : Nat} (hd : decode cc pc = .ok (.ifCond .ge off, 3)) (ht : (pc : Int) + off = (tgt : Int)) (kt : 0 ≤ x → G p l e R s m args below meth c Q D B nL cells slots ads sh I A tgt ls st) (kf : ¬ 0 ≤ x → G p l e R s m args below meth c Q D B nL cells slots ads sh I A (pc + 3) ls st) : G p l e R s m args below meth c Q D B nL cells slots ads sh I A pc ls (.inl x :: st) :=
  fun H locs a hR hL => lv_if_ge hC.1 hC.2.1 hd ht (fun h => kt h H locs a hR hL) (fun h => kf h H locs a hR hL)
theorem g_ifgt (hC : CX p s m args meth c cc nL own B) {x : Int32} {off : Int} {tgt : Nat} (hd : decode cc pc = .ok (.ifCond .gt off, 3)) (ht : (pc : Int) + off = (tgt : Int)) (kt : 0 < x → G p l e R s m args below meth c Q D B nL cells slots ads sh I A tgt ls st) (kf : ¬ 0 < x → G p l e R s m args below meth c Q D B nL cells slots ads sh I A (pc + 3) ls st) : G p l e R s m args below meth c Q D B nL cells slots ads sh I A pc ls (.inl x :: st) :=
  fun H locs a hR hL => lv_if_gt hC.1 hC.2.1 hd ht (fun h => kt h H locs a hR hL) (fun h => kf h H locs a hR hL)
theorem g_ifle (hC : CX p s m args meth c cc nL own B) {x : Int32} {off : Int} {tgt : Nat} (hd : decode cc pc = .ok (.ifCond .le off, 3)) (ht : (pc : Int) + off = (tgt : Int)) (kt : x ≤ 0 → G p l e R s m args below meth c Q D B nL cells slots ads sh I A tgt ls st) (kf : ¬ x ≤ 0 → G p l e R s m args below meth c Q D B nL cells slots ads sh I A (pc + 3) ls st) : G p l e R s m args below meth c Q D B nL cells slots ads sh I A pc ls (.inl x :: st) :=
  fun H locs a hR hL => lv_if_le hC.1 hC.2.1 hd ht (fun h => kt h H locs a hR hL) (fun h => kf h H locs a hR hL)
theorem g_ceq (hC : CX p s m args meth c cc nL own B) {x y : Int32} {off : Int} {tgt : Nat} (hd : decode cc pc = .ok (.if_icmp .eq off, 3)) (ht : (pc : Int) + off = (tgt : Int)) (kt : x = y → G p l e R s m args below meth c Q D B nL cells slots ads sh I A tgt ls st) (kf : ¬ x = y → G p l e R s m args below meth c Q D B nL cells slots ads sh I A (pc + 3) ls st) : G p l e R s m args below meth c Q D B nL cells slots ads sh I A pc ls (.inl y :: .inl x :: st) :=
  fun H locs a hR hL => lv_icmp_eq hC.1 hC.2.1 hd ht (fun h => kt h H locs a hR hL) (fun h => kf h H locs a hR hL)
theorem g_cne (hC : CX p s m args meth c cc nL own B) {x y : Int32} {off : Int} {tgt : Nat} (hd : decode cc pc = .ok (.if_icmp .ne off, 3)) (ht : (pc : Int) + off = (tgt : Int)) (kt : ¬ x = y → G p l e R s m args below meth c Q D B nL cells slots ads sh I A tgt ls st) (kf : x = y → G p l e R s m args below meth c Q D B nL cells slots ads sh I A (pc + 3) ls st) : G p l e R s m args below meth c Q D B nL cells slots ads sh I A pc ls (.inl y :: .inl x :: st) :=
  fun H locs a hR hL => lv_icmp_ne hC.1 hC.2.1 hd ht (fun h => kt h H locs a hR hL) (fun h => kf h H locs a hR hL)
theorem g_clt (hC : CX p s m args meth c cc nL own B) {x y : Int32} {off : Int} {tgt : Nat} (hd : decode cc pc = .ok (.if_icmp .lt off, 3)) (ht : (pc : Int) + off = (tgt : Int)) (kt : x < y → G p l e R s m args below meth c Q D B nL cells slots ads sh I A tgt ls st) (kf : ¬ x < y → G p l e R s m args below meth c Q D B nL cells slots ads sh I A (pc + 3) ls st) : G p l e R s m args below meth c Q D B nL cells slots ads sh I A pc ls (.inl y :: .inl x :: st) :=
  fun H locs a hR hL => lv_icmp_lt hC.1 hC.2.1 hd ht (fun h => kt h H locs a hR hL) (fun h => kf h H locs a hR hL)
theorem g_cge (hC : CX p s m args meth c cc nL own B) {x y : Int32} {off : Int} {tgt : Nat} (hd : decode cc pc = .ok (.if_icmp .ge off, 3)) (ht : (pc : Int) + off = (tgt : Int)) (kt : y ≤ x → G p l e R s m args below meth c Q D B nL cells slots ads sh I A tgt ls st) (kf : ¬ y ≤ x → G p l e R s m args below meth c Q D B nL cells slots ads sh I A (pc + 3) ls st) : G p l e R s m args below meth c Q D B nL cells slots ads sh I A pc ls (.inl y :: .inl x :: st) :=
  fun H locs a hR hL => lv_icmp_ge hC.1 hC.2.1 hd ht (fun h => kt h H locs a hR hL) (fun h => kf h H locs a hR hL)
theorem g_cgt (hC : CX p s m args meth c cc nL own B) {x y : Int32} {off : Int} {tgt : Nat} (hd : decode cc pc = .ok (.if_icmp .gt off, 3)) (ht : (pc : Int) + off = (tgt : Int)) (kt : y < x → G p l e R s m args below meth c Q D B nL cells slots ads sh I A tgt ls st) (kf : ¬ y < x → G p l e R s m args below meth c Q D B nL cells slots ads sh I A (pc + 3) ls st) : G p l e R s m args below meth c Q D B nL cells slots ads sh I A pc ls (.inl y :: .inl x :: st) :=
  fun H locs a hR hL => lv_icmp_gt hC.1 hC.2.1 hd ht (fun h => kt h H locs a hR hL) (fun h => kf h H locs a hR hL)
theorem g_cle (hC : CX p s m args meth c cc nL own B) {x y : Int32} {off : Int} {tgt : Nat} (hd : decode cc pc = .ok (.if_icmp .le off, 3)) (ht : (pc : Int) + off = (tgt : Int)) (kt : x ≤ y → G p l e R s m args below meth c Q D B nL cells slots ads sh I A tgt ls st) (kf : ¬ x ≤ y → G p l e R s m args below meth c Q D B nL cells slots ads sh I A (pc + 3) ls st) : G p l e R s m args below meth c Q D B nL cells slots ads sh I A pc ls (.inl y :: .inl x :: st) :=
  fun H locs a hR hL => lv_icmp_le hC.1 hC.2.1 hd ht (fun h => kt h H locs a hR hL) (fun h => kf h H locs a hR hL)
theorem g_tabO (hC : CX p s m args meth c cc nL own B) {dflt lo hi : Int} {offs : Array Int} {len : Nat} {x : Int32} {tgt : Nat} (hd : decode cc pc = .ok (.tableswitch dflt lo hi offs, len)) (h : x.toInt < lo ∨ hi < x.toInt) (ht : (pc : Int) + dflt = (tgt : Int)) (k : G p l e R s m args below meth c Q D B nL cells slots ads sh I A tgt ls st) : G p l e R s m args below meth c Q D B nL cells slots ads sh I A pc ls (.inl x :: st) :=
  fun H locs a hR hL => lv_tableOut hC.1 hC.2.1 hd h ht (k H locs a hR hL)
theorem g_tabI (hC : CX p s m args meth c cc nL own B) {dflt lo hi : Int} {offs : Array Int} {len : Nat} {x : Int32} {off : Int} {tgt : Nat} (hd : decode cc pc = .ok (.tableswitch dflt lo hi offs, len)) (h1 : ¬ x.toInt < lo) (h2 : ¬ hi < x.toInt) (ho : offs[(x.toInt - lo).toNat]? = some off) (ht : (pc : Int) + off = (tgt : Int)) (k : G p l e R s m args below meth c Q D B nL cells slots ads sh I A tgt ls st) : G p l e R s m args below meth c Q D B nL cells slots ads sh I A pc ls (.inl x :: st) :=
  fun H locs a hR hL => lv_tableIn hC.1 hC.2.1 hd h1 h2 ho ht (k H locs a hR hL)
/-! division -/
theorem g_idiv (hC : CX p s m args meth c cc nL own B) {x y : Int32} (hd : decode cc pc = .ok (.idiv, 1)) (hy : ¬ y = 0) (k : G p l e R s m args below meth c Q D B nL cells slots ads sh I A (pc + 1) ls (.inl (x / y) :: st)) : G p l e R s m args below meth c Q D B nL cells slots ads sh I A pc ls (.inl y :: .inl x :: st) :=
  fun H locs a hR hL => lv_idiv hC.1 hC.2.1 hd hy (k H locs a hR hL)
theorem g_irem (hC : CX p s m args meth c cc nL own B) {x y : Int32} (hd : decode cc pc = .ok (.irem, 1)) (hy : ¬ y = 0) (k : G p l e R s m args below meth c Q D B nL cells slots ads sh I A (pc + 1) ls (.inl (x - x / y * y) :: st)) : G p l e R s m args below meth c Q D B nL cells slots ads sh I A pc ls (.inl y :: .inl x :: st) :=
  fun H locs a hR hL => lv_irem hC.1 hC.2.1 hd hy (k H locs a hR hL)
/-! arrays -/
theorem ad_get {B : Nat → Prop} {s : State} {H : Heap} {locs : List Loc} (hR : RW D B s ads sh I A H locs) {k : Nat} {q : SC} (h : sh[k]? = some q) : ∃ x, ads[k]? = some x := by
  have hk : k < ads.length := by rw [hR.1]; exact (List.getElem?_eq_some_iff.mp h).1
  exact ⟨ads[k], List.getElem?_eq_getElem hk⟩
theorem g_iald (hC : CX p s m args meth c cc nL own B) {i : Int32} {k n : Nat} (hd : decode cc pc = .ok (.iaload, 1)) (hs : sh[k]? = some (.inl n)) (hin : vp_in i n) (kk : G p l e R s m args below meth c Q D B nL cells slots ads sh I A (pc + 1) ls (.inl (A k i.toNatClampNeg) :: st)) : G p l e R s m args below meth c Q D B nL cells slots ads sh I A pc ls (.inl i :: .inr (some k) :: st) := by
  intro H locs a hR hL
  obtain ⟨x, hx⟩ := ad_get hR hs
  obtain ⟨t, ht⟩ := tys_int hx hs
  have hw := wld_get (I := I) (A := A) hx hs
  have ha : adr ads k = x.1 := adr_of hx
  show W p l e R s m args below meth c H locs cells slots Q (F0 m pc a (.int i :: .ref (adr ads k) :: st.map (cv ads)))
  rw [ha]
  exact va_iald hC.1 hC.2.1 hR.2.1 hR.2.2.1 k t hw ht hin hd (kk H locs a hR hL)
theorem g_iast (hC : CX p s m args meth c cc nL own B) {i v : Int32} {k n : Nat} (hd : decode cc pc = .ok (.iastore, 1)) (hs : sh[k]? = some (.inl n)) (hin : vp_in i n) (kk : G p l e R s m args below meth c Q D B nL cells slots ads sh I (up2 A k i.toNatClampNeg v) (pc + 1) ls st) : G p l e R s m args below meth c Q D B nL cells slots ads sh I A pc ls (.inl v :: .inl i :: .inr (some k) :: st) := by
  intro H locs a hR hL
  obtain ⟨x, hx⟩ := ad_get hR hs
  obtain ⟨t, ht⟩ := tys_int hx hs
  have hw := wld_get (I := I) (A := A) hx hs
  have ha : adr ads k = x.1 := adr_of hx
  show W p l e R s m args below meth c H locs cells slots Q (F0 m pc a (.int v :: .int i :: .ref (adr ads k) :: st.map (cv ads)))
  rw [ha]
  refine va_iast hC.1 hC.2.1 hR.2.1 hR.2.2.1 hR.2.2.2.1 hR.2.2.2.2 k t hw ht hin hd (fun H1 locs1 hP hD hS => ?_)
  rw [wld_setA hx hs] at hP hD
  exact kk H1 locs1 a ⟨hR.1, hR.2.1, hP, hD, hS⟩ hL
end GG
