/-- Changes(lesser): its loop, in the tiny world -/
def twn (n : Nat) : SH := tw (chT n) (chN n) (chN n) (chT (n + 1)) (chN (n + 1)) (chN (n + 1))
abbrev Gq (n : Nat) (p : Program) (l : Launch) (e : Env) (s : State) (m : MethodId) (args : Array Value) (below : List Frame) (meth : Method) (c : Code) (D : va_G) (ads nw : AD) (po : HI → HI → Prop) (I A : HI) (pc : Nat) (ls : List (Option AV)) (st : List AV) : Prop :=
  G p l e { frames := 2, cells := 0 + 1 + 1 + 1, slots := 0 + chT (n + 1) + chN (n + 1) + chN (n + 1), locals := 48 } s m args below meth c (MQ below (CPostG D ads (twn n) s.heap.size po) args s (0 + 1 + 1 + 1) (0 + chT (n + 1) + chN (n + 1) + chN (n + 1)) (AdS ads s.heap.size)) D (AdS ads s.heap.size) 5 (0 + 1 + 1 + 1) (0 + chT (n + 1) + chN (n + 1) + chN (n + 1)) (ads ++ nw) (twn n) I A pc ls st
theorem nI_nn {n : Nat} (h : n < 2 ^ 31) : ¬ nI n < 0 := nI_nlt (Nat.zero_le n) h
theorem chN_eq : ∀ n, n < 6 → chN n = facN n := by decide
theorem chT_le : ∀ n, n < 5 → chT (n + 1) ≤ 600 ∧ chN (n + 1) ≤ 120 := by decide
def inP (n : Nat) (I A : HI) (a b c : Int32) : Prop := LsT n I A ∧ ∃ o k st : Nat, a = nI o ∧ b = nI k ∧ c = nI st ∧ o < facN n ∧ k < facN (n + 1) ∧ st ≤ n
def insJ (n : Nat) (A : HI) (a b c : Int32) : HI := insA n A b.toNatClampNeg (insAt (thL n a.toNatClampNeg) c.toNatClampNeg n) (n + 1)
theorem insJ_n {n o k st : Nat} {A : HI} (hn : n < 5) (ho : o < facN n) (hk : k < facN (n + 1)) (hs : st ≤ n) : insJ n A (nI o) (nI k) (nI st) = insA n A k (insAt (thL n o) st n) (n + 1) := by
  have f1 := facN_le n (by omega)
  have f2 := facN_le (n + 1) (by omega)
  unfold insJ
  rw [cl_n (by omega), cl_n (by omega), cl_n (by omega)]
theorem ct_insert2 {n : Nat} (hn : n < 5) (l : Launch) (D : va_G) (ads : AD) (I A : HI) (_q : Int) (a b c : Int32) (_t : True) (hp : inP n I A a b c) : Ct l yX0_insert cX0_insert 7 none 1 22 D ads (twn n) [.inr (some 4), .inr (some 0), .inl a, .inl b, .inl c] I A (qN I (insJ n A a b c)) := by
  obtain ⟨h, o, k, st, rfl, rfl, rfl, ho, hk, hs⟩ := hp
  rw [insJ_n hn ho hk hs]
  exact ct_insert l D ads I A hn h ho hk hs
def exP (n : Nat) (I A : HI) (a : Int32) : Prop := I 4 0 = nI (n + 1) ∧ ∃ k : Nat, a = nI k ∧ k < facN (n + 1) ∧ 0 < k ∧ RwT n A (k - 1) ∧ RwT n A k
def exJ (n : Nat) (a : Int32) : Int32 := nI (exL (thL (n + 1) (a.toNatClampNeg - 1)) (thL (n + 1) a.toNatClampNeg))
theorem ct_exb2 {n : Nat} (hn : n < 5) (l : Launch) (D : va_G) (ads : AD) (I A : HI) (a : Int32) (hp : exP n I A a) : Ct l yX0_exchangeBefore cX0_exchangeBefore 3 (some .int) 1 22 D ads (twn n) [.inr (some 4), .inl a] I A (qI (exJ n a) I A) := by
  obtain ⟨h, k, rfl, hk, h0, hA, hB⟩ := hp
  have f2 := facN_le (n + 1) (by omega)
  unfold exJ
  rw [cl_n (by omega)]
  exact ct_exb l D ads I A hn h hk h0 hA hB
def rkP (n : Nat) (I A : HI) (a : Int32) : Prop := I 4 0 = nI (n + 1) ∧ ∃ k : Nat, a = nI k ∧ k < facN (n + 1) ∧ RwT n A k
def rkJ (n : Nat) (a : Int32) : Int32 := nI (rkL (thL (n + 1) a.toNatClampNeg))
theorem ct_rank2 {n : Nat} (hn : n < 5) (l : Launch) (D : va_G) (ads : AD) (I A : HI) (a : Int32) (hp : rkP n I A a) : Ct l yX0_rankOf cX0_rankOf 4 (some .int) 1 22 D ads (twn n) [.inr (some 4), .inl a] I A (qI (rkJ n a) I A) := by
  obtain ⟨h, k, rfl, hk, hB⟩ := hp
  have f2 := facN_le (n + 1) (by omega)
  unfold rkJ
  rw [cl_n (by omega)]
  exact ct_rank l D ads I A hn h hk hB
def chI (I : HI) : HI := up2 (up2 I 4 0 (I 0 0 + 1)) 4 1 (I 0 1 * (I 0 0 + 1))
theorem chI_eq {I : HI} : up2 (up2 I 4 0 ((I 0 0) + 1)) 4 1 (((up2 I 4 0 ((I 0 0) + 1)) 0 1) * ((up2 I 4 0 ((I 0 0) + 1)) 4 0)) = chI I := by
  unfold chI
  rw [up2_s, up2_k (by decide)]
theorem chI_40 {I : HI} : chI I 4 0 = I 0 0 + 1 := by
  unfold chI
  rw [up2_j (by decide), up2_s]
theorem chI_41 {I : HI} : chI I 4 1 = I 0 1 * (I 0 0 + 1) := by
  unfold chI
  rw [up2_s]
theorem chI_k {I : HI} {k j : Nat} (h : k ≠ 4) : chI I k j = I k j := by
  unfold chI
  rw [up2_k h, up2_k h]
def TB (n : Nat) (A : HI) (m : Nat) : Prop := ∀ t, t < m → RwT n A t ∧ A 7 t = nI (rkL (thL (n + 1) t)) ∧ (0 < t → A 6 t = nI (exL (thL (n + 1) (t - 1)) (thL (n + 1) t)))
def LB (n : Nat) (A A1 : HI) (m : Nat) : Prop := (∀ c, c ≠ 5 → c ≠ 6 → c ≠ 7 → A1 c = A c) ∧ TB n A1 m
def chg (n : Nat) (I A : HI) (I' A' : HI) : Prop := I' = chI I ∧ LB n A A' (facN (n + 1))
theorem row_ins {n k t : Nat} {A : HI} {L : List Nat} (ht : t ≤ k) (h : t < k → RwT n A t) (hL : t = k → L = thL (n + 1) t) : RwT n (insA n A k L (n + 1)) t := by
  intro i hi
  unfold insA
  by_cases e : t = k
  · subst e
    rw [if_pos (by omega), Nat.add_sub_cancel_left, hL rfl]
  · have := mul_lt (show t < k by omega) hi
    rw [if_neg (by omega)]
    exact h (by omega) i hi
theorem lb_step {n k : Nat} {A A2 : HI} {v : Int32} (h : LB n A A2 k) (hv : 0 < k → v = nI (exL (thL (n + 1) (k - 1)) (thL (n + 1) k))) : LB n A (up2 (up2 (insA n A2 k (thL (n + 1) k) (n + 1)) 6 k v) 7 k (nI (rkL (thL (n + 1) k)))) (k + 1) := by
  refine ⟨fun c h5 h6 h7 => by rw [up2_off h7, up2_off h6, insA_off h5]; exact h.1 c h5 h6 h7, fun t ht => ⟨?_, ?_, fun h0 => ?_⟩⟩
  · have := row_ins (n := n) (A := A2) (L := thL (n + 1) k) (show t ≤ k by omega) (fun z => (h.2 t z).1) (fun z => by rw [z])
    intro i hi
    rw [up2_k (by decide), up2_k (by decide)]
    exact this i hi
  · rcases Nat.lt_succ_iff_lt_or_eq.mp ht with z | z
    · rw [up2_j (by omega), up2_k (by decide), insA_off (by decide)]
      exact (h.2 t z).2.1
    · rw [z, up2_s]
  · rw [up2_k (by decide)]
    rcases Nat.lt_succ_iff_lt_or_eq.mp ht with z | z
    · rw [up2_j (by omega), insA_off (by decide)]
      exact (h.2 t z).2.2 h0
    · rw [z, up2_s]
      exact hv (by omega)
theorem ev_n : ∀ o, o < 121 → ((nI o - nI o / 2 * 2 = 0) ↔ o % 2 = 0) := by decide +kernel
theorem nm_X0_insert : nmOk yX0_insert 4 := ⟨by decide +kernel, by decide +kernel, by decide +kernel⟩
theorem wl_X0_28 : Cond.methodLink RX0 28 yX0_insert ∈ gtbl := gt_of (List.mem_append_right _ (List.mem_of_getElem? (i := 179) (by decide +kernel))) (by decide +kernel)
theorem wi_X0_insert : Cond.instanceMethod yX0_insert ∈ gtbl := gt_of (List.mem_append_right _ (List.mem_of_getElem? (i := 181) (by decide +kernel))) (by decide +kernel)
theorem ws_X0_insert : Cond.selects yX0_insert.cls yX0_insert yX0_insert ∈ gtbl := gt_of (List.mem_append_left _ (List.mem_of_getElem? (i := 0) (by decide +kernel))) (by decide +kernel)
theorem wc_X0_insert : Cond.code yX0_insert cX0_insert 7 none ∈ gtbl := gt_of (List.mem_append_right _ (List.mem_of_getElem? (i := 182) (by decide +kernel))) (by decide +kernel)
theorem nm_X0_exchangeBefore : nmOk yX0_exchangeBefore 1 := ⟨by decide +kernel, by decide +kernel, by decide +kernel⟩
theorem wl_X0_32 : Cond.methodLink RX0 32 yX0_exchangeBefore ∈ gtbl := gt_of (List.mem_append_right _ (List.mem_of_getElem? (i := 187) (by decide +kernel))) (by decide +kernel)
theorem wi_X0_exchangeBefore : Cond.instanceMethod yX0_exchangeBefore ∈ gtbl := gt_of (List.mem_append_right _ (List.mem_of_getElem? (i := 189) (by decide +kernel))) (by decide +kernel)
theorem ws_X0_exchangeBefore : Cond.selects yX0_exchangeBefore.cls yX0_exchangeBefore yX0_exchangeBefore ∈ gtbl := gt_of (List.mem_append_left _ (List.mem_of_getElem? (i := 1) (by decide +kernel))) (by decide +kernel)
theorem wc_X0_exchangeBefore : Cond.code yX0_exchangeBefore cX0_exchangeBefore 3 (some .int) ∈ gtbl := gt_of (List.mem_append_right _ (List.mem_of_getElem? (i := 190) (by decide +kernel))) (by decide +kernel)
theorem nm_X0_rankOf : nmOk yX0_rankOf 1 := ⟨by decide +kernel, by decide +kernel, by decide +kernel⟩
theorem wl_X0_36 : Cond.methodLink RX0 36 yX0_rankOf ∈ gtbl := gt_of (List.mem_append_right _ (List.mem_of_getElem? (i := 194) (by decide +kernel))) (by decide +kernel)
theorem wi_X0_rankOf : Cond.instanceMethod yX0_rankOf ∈ gtbl := gt_of (List.mem_append_right _ (List.mem_of_getElem? (i := 196) (by decide +kernel))) (by decide +kernel)
theorem ws_X0_rankOf : Cond.selects yX0_rankOf.cls yX0_rankOf yX0_rankOf ∈ gtbl := gt_of (List.mem_append_left _ (List.mem_of_getElem? (i := 2) (by decide +kernel))) (by decide +kernel)
theorem wc_X0_rankOf : Cond.code yX0_rankOf cX0_rankOf 4 (some .int) ∈ gtbl := gt_of (List.mem_append_right _ (List.mem_of_getElem? (i := 197) (by decide +kernel))) (by decide +kernel)
theorem wo_X0_3 : Cond.methodLink RX0 3 Lib.objectInit ∈ gtbl := gt_of (List.mem_append_right _ (List.mem_of_getElem? (i := 159) (by decide +kernel))) (by decide +kernel)
theorem wo_i : Cond.instanceMethod Lib.objectInit ∈ gtbl := gt_of (List.mem_append_right _ (List.mem_of_getElem? (i := 19) (by decide +kernel))) (by decide +kernel)
theorem wo_c : Cond.code Lib.objectInit ⟨#[0xb1]⟩ 1 none ∈ gtbl := gt_of (List.mem_append_right _ (List.mem_of_getElem? (i := 20) (by decide +kernel))) (by decide +kernel)
theorem wa_int : Cond.arrayClass .int ∈ gtbl := gt_of (List.mem_append_right _ (List.mem_of_getElem? (i := 34) (by decide +kernel))) (by decide +kernel)
theorem bX0_init__62_64 : okB cX0_init_ RX0 62 [(0, 0, 0, 0, 0), (7, 2, 0, 0, 0)] := And.intro ⟨_, dX0_init__62, by decide⟩ (And.intro ⟨_, dX0_init__63, rfl⟩ trivial)
theorem bX0_init__64_69 : okB cX0_init_ RX0 64 [(3, 2, 0, 0, 0), (5, 1, 0, 0, 0), (23, 15, 0, 1, 0)] := And.intro ⟨_, dX0_init__64, rfl⟩ (And.intro ⟨_, dX0_init__65, rfl⟩ (And.intro ⟨dX0_init__66, fl_X0_15⟩ trivial))
theorem bX0_init__72_74 : okB cX0_init_ RX0 72 [(0, 0, 0, 0, 0), (7, 3, 0, 0, 0)] := And.intro ⟨_, dX0_init__72, by decide⟩ (And.intro ⟨_, dX0_init__73, rfl⟩ trivial)
theorem bX0_init__74_79 : okB cX0_init_ RX0 74 [(3, 3, 0, 0, 0), (5, 0, 0, 0, 0), (23, 9, 0, 0, 0)] := And.intro ⟨_, dX0_init__74, rfl⟩ (And.intro ⟨_, dX0_init__75, rfl⟩ (And.intro ⟨dX0_init__76, fl_X0_9⟩ trivial))
theorem bX0_init__159_162 : okB cX0_init_ RX0 159 [(11, 2, 0, 0, 1)] := And.intro ⟨_, dX0_init__159, by decide⟩ trivial
theorem bX0_init__82_99 : okB cX0_init_ RX0 82 [(3, 2, 0, 0, 0), (5, 0, 0, 0, 0), (23, 9, 0, 0, 0), (14, 0, 0, 0, 0), (3, 3, 0, 0, 0), (12, 0, 0, 0, 0), (8, 4, 0, 0, 0), (5, 0, 0, 0, 0), (5, 1, 0, 0, 0), (3, 2, 0, 0, 0), (4, 4, 0, 0, 0), (3, 2, 0, 0, 0), (0, 0, 0, 0, 2)] := And.intro ⟨_, dX0_init__82, rfl⟩ (And.intro ⟨_, dX0_init__83, rfl⟩ (And.intro ⟨dX0_init__84, fl_X0_9⟩ (And.intro dX0_init__87 (And.intro ⟨_, dX0_init__88, rfl⟩ (And.intro dX0_init__89 (And.intro dX0_init__90 (And.intro ⟨_, dX0_init__92, rfl⟩ (And.intro ⟨_, dX0_init__93, rfl⟩ (And.intro ⟨_, dX0_init__94, rfl⟩ (And.intro dX0_init__95 (And.intro ⟨_, dX0_init__97, rfl⟩ (And.intro ⟨_, dX0_init__98, by decide⟩ trivial))))))))))))
theorem bX0_init__114_115 : okB cX0_init_ RX0 114 [(3, 3, 0, 0, 0)] := And.intro ⟨_, dX0_init__114, rfl⟩ trivial
theorem bX0_init__118_126 : okB cX0_init_ RX0 118 [(5, 0, 0, 0, 0), (23, 22, 0, 3, 0), (4, 4, 0, 0, 0), (4, 4, 0, 0, 0)] := And.intro ⟨_, dX0_init__118, rfl⟩ (And.intro ⟨dX0_init__119, fl_X0_22⟩ (And.intro dX0_init__122 (And.intro dX0_init__124 trivial)))
theorem bX0_init__133_136 : okB cX0_init_ RX0 133 [(5, 0, 0, 0, 0), (4, 4, 0, 0, 0)] := And.intro ⟨_, dX0_init__133, rfl⟩ (And.intro dX0_init__134 trivial)
theorem bX0_init__140_149 : okB cX0_init_ RX0 140 [(5, 0, 0, 0, 0), (23, 25, 0, 4, 0), (4, 4, 0, 0, 0), (5, 0, 0, 0, 0), (4, 4, 0, 0, 0)] := And.intro ⟨_, dX0_init__140, rfl⟩ (And.intro ⟨dX0_init__141, fl_X0_25⟩ (And.intro dX0_init__144 (And.intro ⟨_, dX0_init__146, rfl⟩ (And.intro dX0_init__147 trivial))))
theorem bX0_init__153_156 : okB cX0_init_ RX0 153 [(11, 3, 0, 0, 1)] := And.intro ⟨_, dX0_init__153, by decide⟩ trivial
theorem bX0_init__129_130 : okB cX0_init_ RX0 129 [(0, 0, 0, 0, 0)] := And.intro ⟨_, dX0_init__129, by decide⟩ trivial
theorem bX0_init__103_111 : okB cX0_init_ RX0 103 [(5, 0, 0, 0, 0), (23, 9, 0, 0, 0), (0, 0, 0, 0, 1), (13, 0, 0, 0, 0), (3, 3, 0, 0, 0), (13, 0, 0, 0, 0)] := And.intro ⟨_, dX0_init__103, rfl⟩ (And.intro ⟨dX0_init__104, fl_X0_9⟩ (And.intro ⟨_, dX0_init__107, by decide⟩ (And.intro dX0_init__108 (And.intro ⟨_, dX0_init__109, rfl⟩ (And.intro dX0_init__110 trivial)))))
set_option maxHeartbeats 4000000 in
set_option maxRecDepth 100000 in
theorem kt_loop (l : Launch) (D : va_G) (ads nw : AD) (I A : HI) {nz : Nat} (hn : nz < 5) {p : Program} {e : Env} {s : State} {m : MethodId} {args : Array Value} {below : List Frame} {meth : Method} {c : Code} (hC : CX p s m args meth c cX0_init_ 5 RX0 (AdS ads s.heap.size)) (hr : meth.sig.returnType = none) (po : HI → HI → Prop) (Iv64 : Int32 → HI → Prop) (mu64 : Int32 → HI → Nat) (Iv74 : Int32 → HI → Int32 → HI → Prop) (mu74 : Int32 → HI → Int32 → HI → Nat)
    (hv : (Iv64 0 A ∧ ∀ (x2_64 : Int32) (A_64 : HI), Iv64 x2_64 A_64 → (((I 0 1) ≤ x2_64 → po I A_64) ∧ (¬ (I 0 1) ≤ x2_64 → (Iv74 x2_64 A_64 0 A_64 ∧ ∀ (x3_74 : Int32) (A_74 : HI), Iv74 x2_64 A_64 x3_74 A_74 → (((I 4 0) ≤ x3_74 → (Iv64 (x2_64 + 1) A_74 ∧ mu64 (x2_64 + 1) A_74 < mu64 x2_64 A_64)) ∧ (¬ (I 4 0) ≤ x3_74 → ((¬ (x2_64 - x2_64 / 2 * 2) = 0 → ((inP nz I A_74 x2_64 ((x2_64 * (I 4 0)) + x3_74) x3_74) ∧ ((¬ ((x2_64 * (I 4 0)) + x3_74) = 0 → ((exP nz I (insJ nz A_74 x2_64 ((x2_64 * (I 4 0)) + x3_74) x3_74) ((x2_64 * (I 4 0)) + x3_74)) ∧ (vp_in ((x2_64 * (I 4 0)) + x3_74) (chN (nz + 1)) ∧ ((rkP nz I (up2 (insJ nz A_74 x2_64 ((x2_64 * (I 4 0)) + x3_74) x3_74) 6 ((x2_64 * (I 4 0)) + x3_74).toNatClampNeg (exJ nz ((x2_64 * (I 4 0)) + x3_74))) ((x2_64 * (I 4 0)) + x3_74)) ∧ (vp_in ((x2_64 * (I 4 0)) + x3_74) (chN (nz + 1)) ∧ (Iv74 x2_64 A_64 (x3_74 + 1) (up2 (up2 (insJ nz A_74 x2_64 ((x2_64 * (I 4 0)) + x3_74) x3_74) 6 ((x2_64 * (I 4 0)) + x3_74).toNatClampNeg (exJ nz ((x2_64 * (I 4 0)) + x3_74))) 7 ((x2_64 * (I 4 0)) + x3_74).toNatClampNeg (rkJ nz ((x2_64 * (I 4 0)) + x3_74))) ∧ mu74 x2_64 A_64 (x3_74 + 1) (up2 (up2 (insJ nz A_74 x2_64 ((x2_64 * (I 4 0)) + x3_74) x3_74) 6 ((x2_64 * (I 4 0)) + x3_74).toNatClampNeg (exJ nz ((x2_64 * (I 4 0)) + x3_74))) 7 ((x2_64 * (I 4 0)) + x3_74).toNatClampNeg (rkJ nz ((x2_64 * (I 4 0)) + x3_74))) < mu74 x2_64 A_64 x3_74 A_74)))))) ∧ (((x2_64 * (I 4 0)) + x3_74) = 0 → (vp_in ((x2_64 * (I 4 0)) + x3_74) (chN (nz + 1)) ∧ ((rkP nz I (up2 (insJ nz A_74 x2_64 ((x2_64 * (I 4 0)) + x3_74) x3_74) 6 ((x2_64 * (I 4 0)) + x3_74).toNatClampNeg 0) ((x2_64 * (I 4 0)) + x3_74)) ∧ (vp_in ((x2_64 * (I 4 0)) + x3_74) (chN (nz + 1)) ∧ (Iv74 x2_64 A_64 (x3_74 + 1) (up2 (up2 (insJ nz A_74 x2_64 ((x2_64 * (I 4 0)) + x3_74) x3_74) 6 ((x2_64 * (I 4 0)) + x3_74).toNatClampNeg 0) 7 ((x2_64 * (I 4 0)) + x3_74).toNatClampNeg (rkJ nz ((x2_64 * (I 4 0)) + x3_74))) ∧ mu74 x2_64 A_64 (x3_74 + 1) (up2 (up2 (insJ nz A_74 x2_64 ((x2_64 * (I 4 0)) + x3_74) x3_74) 6 ((x2_64 * (I 4 0)) + x3_74).toNatClampNeg 0) 7 ((x2_64 * (I 4 0)) + x3_74).toNatClampNeg (rkJ nz ((x2_64 * (I 4 0)) + x3_74))) < mu74 x2_64 A_64 x3_74 A_74)))))))) ∧ ((x2_64 - x2_64 / 2 * 2) = 0 → ((inP nz I A_74 x2_64 ((x2_64 * (I 4 0)) + x3_74) (((I 4 0) - 1) - x3_74)) ∧ ((¬ ((x2_64 * (I 4 0)) + x3_74) = 0 → ((exP nz I (insJ nz A_74 x2_64 ((x2_64 * (I 4 0)) + x3_74) (((I 4 0) - 1) - x3_74)) ((x2_64 * (I 4 0)) + x3_74)) ∧ (vp_in ((x2_64 * (I 4 0)) + x3_74) (chN (nz + 1)) ∧ ((rkP nz I (up2 (insJ nz A_74 x2_64 ((x2_64 * (I 4 0)) + x3_74) (((I 4 0) - 1) - x3_74)) 6 ((x2_64 * (I 4 0)) + x3_74).toNatClampNeg (exJ nz ((x2_64 * (I 4 0)) + x3_74))) ((x2_64 * (I 4 0)) + x3_74)) ∧ (vp_in ((x2_64 * (I 4 0)) + x3_74) (chN (nz + 1)) ∧ (Iv74 x2_64 A_64 (x3_74 + 1) (up2 (up2 (insJ nz A_74 x2_64 ((x2_64 * (I 4 0)) + x3_74) (((I 4 0) - 1) - x3_74)) 6 ((x2_64 * (I 4 0)) + x3_74).toNatClampNeg (exJ nz ((x2_64 * (I 4 0)) + x3_74))) 7 ((x2_64 * (I 4 0)) + x3_74).toNatClampNeg (rkJ nz ((x2_64 * (I 4 0)) + x3_74))) ∧ mu74 x2_64 A_64 (x3_74 + 1) (up2 (up2 (insJ nz A_74 x2_64 ((x2_64 * (I 4 0)) + x3_74) (((I 4 0) - 1) - x3_74)) 6 ((x2_64 * (I 4 0)) + x3_74).toNatClampNeg (exJ nz ((x2_64 * (I 4 0)) + x3_74))) 7 ((x2_64 * (I 4 0)) + x3_74).toNatClampNeg (rkJ nz ((x2_64 * (I 4 0)) + x3_74))) < mu74 x2_64 A_64 x3_74 A_74)))))) ∧ (((x2_64 * (I 4 0)) + x3_74) = 0 → (vp_in ((x2_64 * (I 4 0)) + x3_74) (chN (nz + 1)) ∧ ((rkP nz I (up2 (insJ nz A_74 x2_64 ((x2_64 * (I 4 0)) + x3_74) (((I 4 0) - 1) - x3_74)) 6 ((x2_64 * (I 4 0)) + x3_74).toNatClampNeg 0) ((x2_64 * (I 4 0)) + x3_74)) ∧ (vp_in ((x2_64 * (I 4 0)) + x3_74) (chN (nz + 1)) ∧ (Iv74 x2_64 A_64 (x3_74 + 1) (up2 (up2 (insJ nz A_74 x2_64 ((x2_64 * (I 4 0)) + x3_74) (((I 4 0) - 1) - x3_74)) 6 ((x2_64 * (I 4 0)) + x3_74).toNatClampNeg 0) 7 ((x2_64 * (I 4 0)) + x3_74).toNatClampNeg (rkJ nz ((x2_64 * (I 4 0)) + x3_74))) ∧ mu74 x2_64 A_64 (x3_74 + 1) (up2 (up2 (insJ nz A_74 x2_64 ((x2_64 * (I 4 0)) + x3_74) (((I 4 0) - 1) - x3_74)) 6 ((x2_64 * (I 4 0)) + x3_74).toNatClampNeg 0) 7 ((x2_64 * (I 4 0)) + x3_74).toNatClampNeg (rkJ nz ((x2_64 * (I 4 0)) + x3_74))) < mu74 x2_64 A_64 x3_74 A_74)))))))))))))))) : Gq nz p l e s m args below meth c D ads nw po I A 62 [some (.inr (some 4)), some (.inr (some 0)), none, none, none] [] := by
  refine g_blk hC _ bX0_init__62_64 (pc' := 64) (ls' := [some (.inr (some 4)), some (.inr (some 0)), some (.inl 0), none, none]) (st' := []) (I' := I) rfl rfl ?_
  obtain ⟨hi64, hb64⟩ := hv
  have L64 : ∀ (n : Nat) (x2_64 : Int32) (A_64 : HI), Iv64 x2_64 A_64 → mu64 x2_64 A_64 < n → Gq nz p l e s m args below meth c D ads nw po I A_64 64 [some (.inr (some 4)), some (.inr (some 0)), some (.inl x2_64), none, none] [] := by
    intro n
    induction n with
    | zero => intro x2_64 A_64 _ hn; exact absurd hn (Nat.not_lt_zero _)
    | succ n ih64 =>
      intro x2_64 A_64 hv hn64
      replace hv := hb64 x2_64 A_64 hv
      skip
      refine g_blk hC _ bX0_init__64_69 (pc' := 69) (ls' := [some (.inr (some 4)), some (.inr (some 0)), some (.inl x2_64), none, none]) (st' := [.inl (I 0 1), .inl x2_64]) (I' := I) rfl rfl ?_
      obtain ⟨hv1, hv2⟩ := hv
      refine g_cge hC dX0_init__69 (tgt := 165) (by decide) (fun hc => ?_) (fun hc => ?_)
      · have hv := hv1 hc
        clear hv1 hv2 hc
        exact g_retG hC hr dX0_init__165 hv
      · have hv := hv2 hc
        clear hv1 hv2 hc
        refine g_blk hC _ bX0_init__72_74 (pc' := 74) (ls' := [some (.inr (some 4)), some (.inr (some 0)), some (.inl x2_64), some (.inl 0), none]) (st' := []) (I' := I) rfl rfl ?_
        obtain ⟨hi74, hb74⟩ := hv
        have L74 : ∀ (n : Nat) (x3_74 : Int32) (A_74 : HI), Iv74 x2_64 A_64 x3_74 A_74 → mu74 x2_64 A_64 x3_74 A_74 < n → Gq nz p l e s m args below meth c D ads nw po I A_74 74 [some (.inr (some 4)), some (.inr (some 0)), some (.inl x2_64), some (.inl x3_74), none] [] := by
          intro n
          induction n with
          | zero => intro x3_74 A_74 _ hn; exact absurd hn (Nat.not_lt_zero _)
          | succ n ih74 =>
            intro x3_74 A_74 hv hn74
            replace hv := hb74 x3_74 A_74 hv
            skip
            refine g_blk hC _ bX0_init__74_79 (pc' := 79) (ls' := [some (.inr (some 4)), some (.inr (some 0)), some (.inl x2_64), some (.inl x3_74), none]) (st' := [.inl (I 4 0), .inl x3_74]) (I' := I) rfl rfl ?_
            obtain ⟨hv1, hv2⟩ := hv
            refine g_cge hC dX0_init__79 (tgt := 159) (by decide) (fun hc => ?_) (fun hc => ?_)
            · have hv := hv1 hc
              clear hv1 hv2 hc
              refine g_blk hC _ bX0_init__159_162 (pc' := 162) (ls' := [some (.inr (some 4)), some (.inr (some 0)), some (.inl (x2_64 + 1)), some (.inl x3_74), none]) (st' := []) (I' := I) rfl rfl ?_
              refine g_goto hC dX0_init__162 (tgt := 64) (by decide) ?_
              exact g_weak (ls1 := [some (.inr (some 4)), some (.inr (some 0)), some (.inl (x2_64 + 1)), none, none]) rfl (And.intro rfl (And.intro rfl (And.intro rfl trivial))) (ih64 (x2_64 + 1) A_74 hv.1 (Nat.lt_of_lt_of_le hv.2 (Nat.le_of_lt_succ hn64)))
            · have hv := hv2 hc
              clear hv1 hv2 hc
              refine g_blk hC _ bX0_init__82_99 (pc' := 99) (ls' := [some (.inr (some 4)), some (.inr (some 0)), some (.inl x2_64), some (.inl x3_74), some (.inl ((x2_64 * (I 4 0)) + x3_74))]) (st' := [.inl 2, .inl x2_64, .inl ((x2_64 * (I 4 0)) + x3_74), .inl x2_64, .inr (some 0), .inr (some 4)]) (I' := I) rfl rfl ?_
              refine g_irem hC dX0_init__99 (by decide) ?_
              obtain ⟨hv1, hv2⟩ := hv
              refine g_ifne hC dX0_init__100 (tgt := 114) (by decide) (fun hc => ?_) (fun hc => ?_)
              · have hv := hv1 hc
                clear hv1 hv2 hc
                refine g_blk hC _ bX0_init__114_115 (pc' := 115) (ls' := [some (.inr (some 4)), some (.inr (some 0)), some (.inl x2_64), some (.inl x3_74), some (.inl ((x2_64 * (I 4 0)) + x3_74))]) (st' := [.inl x3_74, .inl ((x2_64 * (I 4 0)) + x3_74), .inl x2_64, .inr (some 0), .inr (some 4)]) (I' := I) rfl rfl ?_
                obtain ⟨hp1, hv⟩ := hv
                refine g_callV hC (ct_insert2 hn l D (ads ++ nw) I A_74 (-18) x2_64 ((x2_64 * (I 4 0)) + x3_74) x3_74 (by decide) hp1) dX0_init__115 nm_X0_insert rfl rfl wl_X0_28 wi_X0_insert ws_X0_insert wn_X0 wc_X0_insert ⟨Nat.le_of_ble_eq_true rfl, Nat.le_of_ble_eq_true rfl⟩ (as := [.inr (some 0), .inl x2_64, .inl ((x2_64 * (I 4 0)) + x3_74), .inl x3_74]) (rest := []) rfl (Nat.le_of_ble_eq_true rfl) ⟨Nat.le_refl _, Nat.le_refl _⟩ (k_qN ?_)
                refine g_blk hC _ bX0_init__118_126 (pc' := 126) (ls' := [some (.inr (some 4)), some (.inr (some 0)), some (.inl x2_64), some (.inl x3_74), some (.inl ((x2_64 * (I 4 0)) + x3_74))]) (st' := [.inl ((x2_64 * (I 4 0)) + x3_74), .inl ((x2_64 * (I 4 0)) + x3_74), .inr (some 6)]) (I' := I) rfl rfl ?_
                obtain ⟨hv1, hv2⟩ := hv
                refine g_ifne hC dX0_init__126 (tgt := 133) (by decide) (fun hc => ?_) (fun hc => ?_)
                · have hv := hv1 hc
                  clear hv1 hv2 hc
                  refine g_blk hC _ bX0_init__133_136 (pc' := 136) (ls' := [some (.inr (some 4)), some (.inr (some 0)), some (.inl x2_64), some (.inl x3_74), some (.inl ((x2_64 * (I 4 0)) + x3_74))]) (st' := [.inl ((x2_64 * (I 4 0)) + x3_74), .inr (some 4), .inl ((x2_64 * (I 4 0)) + x3_74), .inr (some 6)]) (I' := I) rfl rfl ?_
                  obtain ⟨hp2, hv⟩ := hv
                  refine g_callV hC (ct_exb2 hn l D (ads ++ nw) I (insJ nz A_74 x2_64 ((x2_64 * (I 4 0)) + x3_74) x3_74) ((x2_64 * (I 4 0)) + x3_74) hp2) dX0_init__136 nm_X0_exchangeBefore rfl rfl wl_X0_32 wi_X0_exchangeBefore ws_X0_exchangeBefore wn_X0 wc_X0_exchangeBefore ⟨Nat.le_of_ble_eq_true rfl, Nat.le_of_ble_eq_true rfl⟩ (as := [.inl ((x2_64 * (I 4 0)) + x3_74)]) (rest := [.inl ((x2_64 * (I 4 0)) + x3_74), .inr (some 6)]) rfl (Nat.le_of_ble_eq_true rfl) ⟨Nat.le_refl _, Nat.le_refl _⟩ (k_qI ?_)
                  obtain ⟨hi, hv⟩ := hv
                  refine g_iast hC dX0_init__139 (rfl) hi ?_
                  clear hi
                  refine g_blk hC _ bX0_init__140_149 (pc' := 149) (ls' := [some (.inr (some 4)), some (.inr (some 0)), some (.inl x2_64), some (.inl x3_74), some (.inl ((x2_64 * (I 4 0)) + x3_74))]) (st' := [.inl ((x2_64 * (I 4 0)) + x3_74), .inr (some 4), .inl ((x2_64 * (I 4 0)) + x3_74), .inr (some 7)]) (I' := I) rfl rfl ?_
                  obtain ⟨hp3, hv⟩ := hv
                  refine g_callV hC (ct_rank2 hn l D (ads ++ nw) I (up2 (insJ nz A_74 x2_64 ((x2_64 * (I 4 0)) + x3_74) x3_74) 6 ((x2_64 * (I 4 0)) + x3_74).toNatClampNeg (exJ nz ((x2_64 * (I 4 0)) + x3_74))) ((x2_64 * (I 4 0)) + x3_74) hp3) dX0_init__149 nm_X0_rankOf rfl rfl wl_X0_36 wi_X0_rankOf ws_X0_rankOf wn_X0 wc_X0_rankOf ⟨Nat.le_of_ble_eq_true rfl, Nat.le_of_ble_eq_true rfl⟩ (as := [.inl ((x2_64 * (I 4 0)) + x3_74)]) (rest := [.inl ((x2_64 * (I 4 0)) + x3_74), .inr (some 7)]) rfl (Nat.le_of_ble_eq_true rfl) ⟨Nat.le_refl _, Nat.le_refl _⟩ (k_qI ?_)
                  obtain ⟨hi, hv⟩ := hv
                  refine g_iast hC dX0_init__152 (rfl) hi ?_
                  clear hi
                  refine g_blk hC _ bX0_init__153_156 (pc' := 156) (ls' := [some (.inr (some 4)), some (.inr (some 0)), some (.inl x2_64), some (.inl (x3_74 + 1)), some (.inl ((x2_64 * (I 4 0)) + x3_74))]) (st' := []) (I' := I) rfl rfl ?_
                  refine g_goto hC dX0_init__156 (tgt := 74) (by decide) ?_
                  exact g_weak (ls1 := [some (.inr (some 4)), some (.inr (some 0)), some (.inl x2_64), some (.inl (x3_74 + 1)), none]) rfl (And.intro rfl (And.intro rfl (And.intro rfl (And.intro rfl trivial)))) (ih74 (x3_74 + 1) (up2 (up2 (insJ nz A_74 x2_64 ((x2_64 * (I 4 0)) + x3_74) x3_74) 6 ((x2_64 * (I 4 0)) + x3_74).toNatClampNeg (exJ nz ((x2_64 * (I 4 0)) + x3_74))) 7 ((x2_64 * (I 4 0)) + x3_74).toNatClampNeg (rkJ nz ((x2_64 * (I 4 0)) + x3_74))) hv.1 (Nat.lt_of_lt_of_le hv.2 (Nat.le_of_lt_succ hn74)))
                · have hv := hv2 hc
                  clear hv1 hv2 hc
                  refine g_blk hC _ bX0_init__129_130 (pc' := 130) (ls' := [some (.inr (some 4)), some (.inr (some 0)), some (.inl x2_64), some (.inl x3_74), some (.inl ((x2_64 * (I 4 0)) + x3_74))]) (st' := [.inl 0, .inl ((x2_64 * (I 4 0)) + x3_74), .inr (some 6)]) (I' := I) rfl rfl ?_
                  refine g_goto hC dX0_init__130 (tgt := 139) (by decide) ?_
                  obtain ⟨hi, hv⟩ := hv
                  refine g_iast hC dX0_init__139 (rfl) hi ?_
                  clear hi
                  refine g_blk hC _ bX0_init__140_149 (pc' := 149) (ls' := [some (.inr (some 4)), some (.inr (some 0)), some (.inl x2_64), some (.inl x3_74), some (.inl ((x2_64 * (I 4 0)) + x3_74))]) (st' := [.inl ((x2_64 * (I 4 0)) + x3_74), .inr (some 4), .inl ((x2_64 * (I 4 0)) + x3_74), .inr (some 7)]) (I' := I) rfl rfl ?_
                  obtain ⟨hp4, hv⟩ := hv
                  refine g_callV hC (ct_rank2 hn l D (ads ++ nw) I (up2 (insJ nz A_74 x2_64 ((x2_64 * (I 4 0)) + x3_74) x3_74) 6 ((x2_64 * (I 4 0)) + x3_74).toNatClampNeg 0) ((x2_64 * (I 4 0)) + x3_74) hp4) dX0_init__149 nm_X0_rankOf rfl rfl wl_X0_36 wi_X0_rankOf ws_X0_rankOf wn_X0 wc_X0_rankOf ⟨Nat.le_of_ble_eq_true rfl, Nat.le_of_ble_eq_true rfl⟩ (as := [.inl ((x2_64 * (I 4 0)) + x3_74)]) (rest := [.inl ((x2_64 * (I 4 0)) + x3_74), .inr (some 7)]) rfl (Nat.le_of_ble_eq_true rfl) ⟨Nat.le_refl _, Nat.le_refl _⟩ (k_qI ?_)
                  obtain ⟨hi, hv⟩ := hv
                  refine g_iast hC dX0_init__152 (rfl) hi ?_
                  clear hi
                  refine g_blk hC _ bX0_init__153_156 (pc' := 156) (ls' := [some (.inr (some 4)), some (.inr (some 0)), some (.inl x2_64), some (.inl (x3_74 + 1)), some (.inl ((x2_64 * (I 4 0)) + x3_74))]) (st' := []) (I' := I) rfl rfl ?_
                  refine g_goto hC dX0_init__156 (tgt := 74) (by decide) ?_
                  exact g_weak (ls1 := [some (.inr (some 4)), some (.inr (some 0)), some (.inl x2_64), some (.inl (x3_74 + 1)), none]) rfl (And.intro rfl (And.intro rfl (And.intro rfl (And.intro rfl trivial)))) (ih74 (x3_74 + 1) (up2 (up2 (insJ nz A_74 x2_64 ((x2_64 * (I 4 0)) + x3_74) x3_74) 6 ((x2_64 * (I 4 0)) + x3_74).toNatClampNeg 0) 7 ((x2_64 * (I 4 0)) + x3_74).toNatClampNeg (rkJ nz ((x2_64 * (I 4 0)) + x3_74))) hv.1 (Nat.lt_of_lt_of_le hv.2 (Nat.le_of_lt_succ hn74)))
              · have hv := hv2 hc
                clear hv1 hv2 hc
                refine g_blk hC _ bX0_init__103_111 (pc' := 111) (ls' := [some (.inr (some 4)), some (.inr (some 0)), some (.inl x2_64), some (.inl x3_74), some (.inl ((x2_64 * (I 4 0)) + x3_74))]) (st' := [.inl (((I 4 0) - 1) - x3_74), .inl ((x2_64 * (I 4 0)) + x3_74), .inl x2_64, .inr (some 0), .inr (some 4)]) (I' := I) rfl rfl ?_
                refine g_goto hC dX0_init__111 (tgt := 115) (by decide) ?_
                obtain ⟨hp5, hv⟩ := hv
                refine g_callV hC (ct_insert2 hn l D (ads ++ nw) I A_74 (-18) x2_64 ((x2_64 * (I 4 0)) + x3_74) (((I 4 0) - 1) - x3_74) (by decide) hp5) dX0_init__115 nm_X0_insert rfl rfl wl_X0_28 wi_X0_insert ws_X0_insert wn_X0 wc_X0_insert ⟨Nat.le_of_ble_eq_true rfl, Nat.le_of_ble_eq_true rfl⟩ (as := [.inr (some 0), .inl x2_64, .inl ((x2_64 * (I 4 0)) + x3_74), .inl (((I 4 0) - 1) - x3_74)]) (rest := []) rfl (Nat.le_of_ble_eq_true rfl) ⟨Nat.le_refl _, Nat.le_refl _⟩ (k_qN ?_)
                refine g_blk hC _ bX0_init__118_126 (pc' := 126) (ls' := [some (.inr (some 4)), some (.inr (some 0)), some (.inl x2_64), some (.inl x3_74), some (.inl ((x2_64 * (I 4 0)) + x3_74))]) (st' := [.inl ((x2_64 * (I 4 0)) + x3_74), .inl ((x2_64 * (I 4 0)) + x3_74), .inr (some 6)]) (I' := I) rfl rfl ?_
                obtain ⟨hv1, hv2⟩ := hv
                refine g_ifne hC dX0_init__126 (tgt := 133) (by decide) (fun hc => ?_) (fun hc => ?_)
                · have hv := hv1 hc
                  clear hv1 hv2 hc
                  refine g_blk hC _ bX0_init__133_136 (pc' := 136) (ls' := [some (.inr (some 4)), some (.inr (some 0)), some (.inl x2_64), some (.inl x3_74), some (.inl ((x2_64 * (I 4 0)) + x3_74))]) (st' := [.inl ((x2_64 * (I 4 0)) + x3_74), .inr (some 4), .inl ((x2_64 * (I 4 0)) + x3_74), .inr (some 6)]) (I' := I) rfl rfl ?_
                  obtain ⟨hp6, hv⟩ := hv
                  refine g_callV hC (ct_exb2 hn l D (ads ++ nw) I (insJ nz A_74 x2_64 ((x2_64 * (I 4 0)) + x3_74) (((I 4 0) - 1) - x3_74)) ((x2_64 * (I 4 0)) + x3_74) hp6) dX0_init__136 nm_X0_exchangeBefore rfl rfl wl_X0_32 wi_X0_exchangeBefore ws_X0_exchangeBefore wn_X0 wc_X0_exchangeBefore ⟨Nat.le_of_ble_eq_true rfl, Nat.le_of_ble_eq_true rfl⟩ (as := [.inl ((x2_64 * (I 4 0)) + x3_74)]) (rest := [.inl ((x2_64 * (I 4 0)) + x3_74), .inr (some 6)]) rfl (Nat.le_of_ble_eq_true rfl) ⟨Nat.le_refl _, Nat.le_refl _⟩ (k_qI ?_)
                  obtain ⟨hi, hv⟩ := hv
                  refine g_iast hC dX0_init__139 (rfl) hi ?_
                  clear hi
                  refine g_blk hC _ bX0_init__140_149 (pc' := 149) (ls' := [some (.inr (some 4)), some (.inr (some 0)), some (.inl x2_64), some (.inl x3_74), some (.inl ((x2_64 * (I 4 0)) + x3_74))]) (st' := [.inl ((x2_64 * (I 4 0)) + x3_74), .inr (some 4), .inl ((x2_64 * (I 4 0)) + x3_74), .inr (some 7)]) (I' := I) rfl rfl ?_
                  obtain ⟨hp7, hv⟩ := hv
                  refine g_callV hC (ct_rank2 hn l D (ads ++ nw) I (up2 (insJ nz A_74 x2_64 ((x2_64 * (I 4 0)) + x3_74) (((I 4 0) - 1) - x3_74)) 6 ((x2_64 * (I 4 0)) + x3_74).toNatClampNeg (exJ nz ((x2_64 * (I 4 0)) + x3_74))) ((x2_64 * (I 4 0)) + x3_74) hp7) dX0_init__149 nm_X0_rankOf rfl rfl wl_X0_36 wi_X0_rankOf ws_X0_rankOf wn_X0 wc_X0_rankOf ⟨Nat.le_of_ble_eq_true rfl, Nat.le_of_ble_eq_true rfl⟩ (as := [.inl ((x2_64 * (I 4 0)) + x3_74)]) (rest := [.inl ((x2_64 * (I 4 0)) + x3_74), .inr (some 7)]) rfl (Nat.le_of_ble_eq_true rfl) ⟨Nat.le_refl _, Nat.le_refl _⟩ (k_qI ?_)
                  obtain ⟨hi, hv⟩ := hv
                  refine g_iast hC dX0_init__152 (rfl) hi ?_
                  clear hi
                  refine g_blk hC _ bX0_init__153_156 (pc' := 156) (ls' := [some (.inr (some 4)), some (.inr (some 0)), some (.inl x2_64), some (.inl (x3_74 + 1)), some (.inl ((x2_64 * (I 4 0)) + x3_74))]) (st' := []) (I' := I) rfl rfl ?_
                  refine g_goto hC dX0_init__156 (tgt := 74) (by decide) ?_
                  exact g_weak (ls1 := [some (.inr (some 4)), some (.inr (some 0)), some (.inl x2_64), some (.inl (x3_74 + 1)), none]) rfl (And.intro rfl (And.intro rfl (And.intro rfl (And.intro rfl trivial)))) (ih74 (x3_74 + 1) (up2 (up2 (insJ nz A_74 x2_64 ((x2_64 * (I 4 0)) + x3_74) (((I 4 0) - 1) - x3_74)) 6 ((x2_64 * (I 4 0)) + x3_74).toNatClampNeg (exJ nz ((x2_64 * (I 4 0)) + x3_74))) 7 ((x2_64 * (I 4 0)) + x3_74).toNatClampNeg (rkJ nz ((x2_64 * (I 4 0)) + x3_74))) hv.1 (Nat.lt_of_lt_of_le hv.2 (Nat.le_of_lt_succ hn74)))
                · have hv := hv2 hc
                  clear hv1 hv2 hc
                  refine g_blk hC _ bX0_init__129_130 (pc' := 130) (ls' := [some (.inr (some 4)), some (.inr (some 0)), some (.inl x2_64), some (.inl x3_74), some (.inl ((x2_64 * (I 4 0)) + x3_74))]) (st' := [.inl 0, .inl ((x2_64 * (I 4 0)) + x3_74), .inr (some 6)]) (I' := I) rfl rfl ?_
                  refine g_goto hC dX0_init__130 (tgt := 139) (by decide) ?_
                  obtain ⟨hi, hv⟩ := hv
                  refine g_iast hC dX0_init__139 (rfl) hi ?_
                  clear hi
                  refine g_blk hC _ bX0_init__140_149 (pc' := 149) (ls' := [some (.inr (some 4)), some (.inr (some 0)), some (.inl x2_64), some (.inl x3_74), some (.inl ((x2_64 * (I 4 0)) + x3_74))]) (st' := [.inl ((x2_64 * (I 4 0)) + x3_74), .inr (some 4), .inl ((x2_64 * (I 4 0)) + x3_74), .inr (some 7)]) (I' := I) rfl rfl ?_
                  obtain ⟨hp8, hv⟩ := hv
                  refine g_callV hC (ct_rank2 hn l D (ads ++ nw) I (up2 (insJ nz A_74 x2_64 ((x2_64 * (I 4 0)) + x3_74) (((I 4 0) - 1) - x3_74)) 6 ((x2_64 * (I 4 0)) + x3_74).toNatClampNeg 0) ((x2_64 * (I 4 0)) + x3_74) hp8) dX0_init__149 nm_X0_rankOf rfl rfl wl_X0_36 wi_X0_rankOf ws_X0_rankOf wn_X0 wc_X0_rankOf ⟨Nat.le_of_ble_eq_true rfl, Nat.le_of_ble_eq_true rfl⟩ (as := [.inl ((x2_64 * (I 4 0)) + x3_74)]) (rest := [.inl ((x2_64 * (I 4 0)) + x3_74), .inr (some 7)]) rfl (Nat.le_of_ble_eq_true rfl) ⟨Nat.le_refl _, Nat.le_refl _⟩ (k_qI ?_)
                  obtain ⟨hi, hv⟩ := hv
                  refine g_iast hC dX0_init__152 (rfl) hi ?_
                  clear hi
                  refine g_blk hC _ bX0_init__153_156 (pc' := 156) (ls' := [some (.inr (some 4)), some (.inr (some 0)), some (.inl x2_64), some (.inl (x3_74 + 1)), some (.inl ((x2_64 * (I 4 0)) + x3_74))]) (st' := []) (I' := I) rfl rfl ?_
                  refine g_goto hC dX0_init__156 (tgt := 74) (by decide) ?_
                  exact g_weak (ls1 := [some (.inr (some 4)), some (.inr (some 0)), some (.inl x2_64), some (.inl (x3_74 + 1)), none]) rfl (And.intro rfl (And.intro rfl (And.intro rfl (And.intro rfl trivial)))) (ih74 (x3_74 + 1) (up2 (up2 (insJ nz A_74 x2_64 ((x2_64 * (I 4 0)) + x3_74) (((I 4 0) - 1) - x3_74)) 6 ((x2_64 * (I 4 0)) + x3_74).toNatClampNeg 0) 7 ((x2_64 * (I 4 0)) + x3_74).toNatClampNeg (rkJ nz ((x2_64 * (I 4 0)) + x3_74))) hv.1 (Nat.lt_of_lt_of_le hv.2 (Nat.le_of_lt_succ hn74)))
        exact g_weak (ls1 := [some (.inr (some 4)), some (.inr (some 0)), some (.inl x2_64), some (.inl 0), none]) rfl (And.intro rfl (And.intro rfl (And.intro rfl (And.intro rfl trivial)))) (L74 _ 0 A_64 hi74 (Nat.lt_succ_self _))
  exact g_weak (ls1 := [some (.inr (some 4)), some (.inr (some 0)), some (.inl 0), none, none]) rfl (And.intro rfl (And.intro rfl (And.intro rfl trivial))) (L64 _ 0 A hi64 (Nat.lt_succ_self _))
set_option maxHeartbeats 4000000 in
theorem ct_loop (l : Launch) (D : va_G) (ads nw : AD) (I A : HI) {n : Nat} (hn : n < 5) {p : Program} {e : Env} {s : State} {m : MethodId} {args : Array Value} {below : List Frame} {meth : Method} {c : Code} (hC : CX p s m args meth c cX0_init_ 5 RX0 (AdS ads s.heap.size)) (hr : meth.sig.returnType = none) {po : HI → HI → Prop} (hL : LsT n I A) (hp : ∀ A', LB n A A' (facN (n + 1)) → po I A') : Gq n p l e s m args below meth c D ads nw po I A 62 [some (.inr (some 4)), some (.inr (some 0)), none, none, none] [] := by
  have f1 := facN_le n (by omega)
  have f2 := facN_le (n + 1) (by omega)
  obtain ⟨h00, h01, h40, h41, hA⟩ := hL
  refine kt_loop l D ads nw I A hn hC hr po (fun x A1 => ∃ o, o ≤ facN n ∧ x = nI o ∧ LB n A A1 (o * (n + 1))) (fun x _ => 200 - x.toNatClampNeg) (fun x _ y A2 => ∃ o st, o < facN n ∧ st ≤ n + 1 ∧ x = nI o ∧ y = nI st ∧ LB n A A2 (o * (n + 1) + st)) (fun _ _ y _ => 20 - y.toNatClampNeg) ⟨⟨0, Nat.zero_le _, rfl, fun _ _ _ _ => rfl, fun t ht => absurd ht (by omega)⟩, ?_⟩
  rintro x A1 ⟨o, ho, rfl, hB⟩
  rw [h01, h40]
  refine ⟨fun h => ?_, fun h => ?_⟩
  · have := (nI_leI (by omega) (by omega)).mp h
    have e9 : o = facN n := by omega
    subst e9
    exact hp _ hB
  have ho2 : o < facN n := by
    have := mt (nI_leI (by omega) (by omega)).mpr h
    omega
  refine ⟨⟨o, 0, ho2, by omega, rfl, rfl, hB⟩, ?_⟩
  rintro y A2 ⟨o', st, _, hst, hx, rfl, hB2⟩
  have : o = o' := (nI_eq (by omega) (by omega)).mp hx
  subst this
  refine ⟨fun h => ?_, fun h => ?_⟩
  · have := (nI_leI (by omega) (by omega)).mp h
    have e9 : st = n + 1 := by omega
    subst e9
    refine ⟨⟨o + 1, by omega, nI_1 _, ?_⟩, ?_⟩
    · rw [Nat.succ_mul]
      exact hB2
    · rw [nI_1, cl_n (by omega), cl_n (by omega)]
      omega
  have hs2 : st < n + 1 := by
    have := mt (nI_leI (by omega) (by omega)).mpr h
    omega
  have ek : nI o * nI (n + 1) + nI st = nI (o * (n + 1) + st) := by rw [pk_mul, nI_add]
  have bk : o * (n + 1) + st < facN (n + 1) := mul_lt ho2 hs2
  have ei : nI (n + 1) - 1 - nI st = nI (n - st) := by
    rw [show nI (n + 1) - 1 = nI n from nI_sub n 1]
    have := nI_sub (n - st) st
    rw [show n - st + st = n by omega] at this
    exact this
  rw [ek, ei, nI_clamp (by omega), nI_1]
  have vi : vp_in (nI (o * (n + 1) + st)) (chN (n + 1)) := by
    rw [chN_eq _ (by omega)]
    exact nI_in bk (by omega)
  have hLs : LsT n I A2 := ⟨h00, h01, h40, h41, fun t ht i hi => by rw [hB2.1 1 (by decide) (by decide) (by decide)]; exact hA t ht i hi⟩
  have ti := th_ins hn ho2 hs2
  have hmu : 20 - (nI (st + 1)).toNatClampNeg < 20 - (nI st).toNatClampNeg := by
    rw [cl_n (by omega), cl_n (by omega)]
    omega
  have all : ∀ sp : Nat, sp ≤ n → insAt (thL n o) sp n = thL (n + 1) (o * (n + 1) + st) → inP n I A2 (nI o) (nI (o * (n + 1) + st)) (nI sp) ∧ insJ n A2 (nI o) (nI (o * (n + 1) + st)) (nI sp) = insA n A2 (o * (n + 1) + st) (thL (n + 1) (o * (n + 1) + st)) (n + 1) := fun sp h1 h2 => ⟨⟨hLs, o, _, sp, rfl, rfl, rfl, ho2, bk, h1⟩, by rw [insJ_n hn ho2 bk h1, h2]⟩
  have ej : exJ n (nI (o * (n + 1) + st)) = nI (exL (thL (n + 1) (o * (n + 1) + st - 1)) (thL (n + 1) (o * (n + 1) + st))) := by
    unfold exJ
    rw [cl_n (by omega)]
  have rj : rkJ n (nI (o * (n + 1) + st)) = nI (rkL (thL (n + 1) (o * (n + 1) + st))) := by
    unfold rkJ
    rw [cl_n (by omega)]
  have hz : nI (o * (n + 1) + st) = 0 ↔ o * (n + 1) + st = 0 := nI_eq (b := 0) (by omega) (by decide)
  generalize hk : o * (n + 1) + st = k at *
  have rI : ∀ t, t ≤ k → RwT n (insA n A2 k (thL (n + 1) k) (n + 1)) t := fun t ht => row_ins ht (fun z => (hB2.2 t z).1) (fun z => by rw [z])
  have rU : ∀ v, RwT n (up2 (insA n A2 k (thL (n + 1) k) (n + 1)) 6 k v) k := fun v i hi => by
    rw [up2_k (by decide)]
    exact rI k (Nat.le_refl _) i hi
  have stp : ∀ v, (0 < k → v = nI (exL (thL (n + 1) (k - 1)) (thL (n + 1) k))) → ∃ o' st', o' < facN n ∧ st' ≤ n + 1 ∧ nI o = nI o' ∧ nI (st + 1) = nI st' ∧ LB n A (up2 (up2 (insA n A2 k (thL (n + 1) k) (n + 1)) 6 k v) 7 k (nI (rkL (thL (n + 1) k)))) (o' * (n + 1) + st') := fun v hv => ⟨o, st + 1, ho2, by omega, rfl, rfl, by rw [← Nat.add_assoc, hk]; exact lb_step hB2 hv⟩
  refine ⟨fun hodd => ?_, fun hev => ?_⟩
  · have ho3 : ¬ o % 2 = 0 := fun z => hodd ((ev_n o (by omega)).mpr z)
    rw [if_neg ho3] at ti
    obtain ⟨a1, a2⟩ := all st (by omega) ti.symm
    rw [a2, ej, rj]
    refine ⟨a1, fun h0 => ⟨⟨h40, k, rfl, bk, ?_, rI _ (by omega), rI _ (Nat.le_refl _)⟩, vi, ⟨h40, k, rfl, bk, rU _⟩, vi, stp _ (fun _ => rfl), hmu⟩, fun h0 => ⟨vi, ⟨h40, k, rfl, bk, rU _⟩, vi, stp _ (fun z => ?_), hmu⟩⟩
    · exact Nat.pos_of_ne_zero (fun z => h0 (hz.mpr z))
    · have := hz.mp h0
      omega
  · have ho3 : o % 2 = 0 := (ev_n o (by omega)).mp hev
    rw [if_pos ho3] at ti
    obtain ⟨a1, a2⟩ := all (n - st) (by omega) ti.symm
    rw [a2, ej, rj]
    refine ⟨a1, fun h0 => ⟨⟨h40, k, rfl, bk, ?_, rI _ (by omega), rI _ (Nat.le_refl _)⟩, vi, ⟨h40, k, rfl, bk, rU _⟩, vi, stp _ (fun _ => rfl), hmu⟩, fun h0 => ⟨vi, ⟨h40, k, rfl, bk, rU _⟩, vi, stp _ (fun z => ?_), hmu⟩⟩
    · exact Nat.pos_of_ne_zero (fun z => h0 (hz.mpr z))
    · have := hz.mp h0
      omega
theorem bX0_init__0_1 : okB cX0_init_ RX0 0 [(5, 0, 0, 0, 0)] := And.intro ⟨_, dX0_init__0, rfl⟩ trivial
theorem bX0_init__4_11 : okB cX0_init_ RX0 4 [(5, 0, 0, 0, 0), (5, 1, 0, 0, 0), (23, 9, 0, 0, 0), (0, 0, 0, 0, 1), (12, 0, 0, 0, 0)] := And.intro ⟨_, dX0_init__4, rfl⟩ (And.intro ⟨_, dX0_init__5, rfl⟩ (And.intro ⟨dX0_init__6, fl_X0_9⟩ (And.intro ⟨_, dX0_init__9, by decide⟩ (And.intro dX0_init__10 trivial))))
theorem bX0_init__14_24 : okB cX0_init_ RX0 14 [(5, 0, 0, 0, 0), (5, 1, 0, 0, 0), (23, 15, 0, 1, 0), (5, 0, 0, 0, 0), (23, 9, 0, 0, 0), (14, 0, 0, 0, 0)] := And.intro ⟨_, dX0_init__14, rfl⟩ (And.intro ⟨_, dX0_init__15, rfl⟩ (And.intro ⟨dX0_init__16, fl_X0_15⟩ (And.intro ⟨_, dX0_init__19, rfl⟩ (And.intro ⟨dX0_init__20, fl_X0_9⟩ (And.intro dX0_init__23 trivial)))))
theorem bX0_init__27_37 : okB cX0_init_ RX0 27 [(5, 0, 0, 0, 0), (5, 0, 0, 0, 0), (23, 15, 0, 1, 0), (5, 0, 0, 0, 0), (23, 9, 0, 0, 0), (14, 0, 0, 0, 0)] := And.intro ⟨_, dX0_init__27, rfl⟩ (And.intro ⟨_, dX0_init__28, rfl⟩ (And.intro ⟨dX0_init__29, fl_X0_15⟩ (And.intro ⟨_, dX0_init__32, rfl⟩ (And.intro ⟨dX0_init__33, fl_X0_9⟩ (And.intro dX0_init__36 trivial)))))
theorem bX0_init__42_47 : okB cX0_init_ RX0 42 [(5, 0, 0, 0, 0), (5, 0, 0, 0, 0), (23, 15, 0, 1, 0)] := And.intro ⟨_, dX0_init__42, rfl⟩ (And.intro ⟨_, dX0_init__43, rfl⟩ (And.intro ⟨dX0_init__44, fl_X0_15⟩ trivial))
theorem bX0_init__52_57 : okB cX0_init_ RX0 52 [(5, 0, 0, 0, 0), (5, 0, 0, 0, 0), (23, 15, 0, 1, 0)] := And.intro ⟨_, dX0_init__52, rfl⟩ (And.intro ⟨_, dX0_init__53, rfl⟩ (And.intro ⟨dX0_init__54, fl_X0_15⟩ trivial))
def tw0 (n : Nat) : SH := [.inr (.inr (0, [none, none, some (some 1), some (some 2), some (some 3)])), .inl (chT n), .inl (chN n), .inl (chN n), .inr (.inr (0, [none, none, some none, some none, some none]))]
set_option maxHeartbeats 4000000 in
set_option maxRecDepth 100000 in
theorem ct_chg (l : Launch) (D : va_G) (ads : AD) (I A : HI) {n : Nat} (hn : n < 5) (h00 : I 0 0 = nI n) (h01 : I 0 1 = nI (facN n)) (hA : ∀ t, t < facN n → ∀ i, i < n → A 1 (t * n + i) = nI ((thL n t).getD i 0)) (hZ : ZA 5 I A) : CtG l yX0_init_ cX0_init_ 5 2 48 (0 + 1 + 1 + 1) (0 + chT (n + 1) + chN (n + 1) + chN (n + 1)) D ads (tw0 n) [.inr (some 4), .inr (some 0)] I A (twn n) (chg n I A) := by
  have hT : I 0 1 * (I 0 0 + 1) * (I 0 0 + 1) = nI (chT (n + 1)) := by
    rw [h00, h01, nI_1, pk_mul, pk_mul, chT_eq _ (by omega)]
    rfl
  have hN : I 0 1 * (I 0 0 + 1) = nI (chN (n + 1)) := by
    rw [h00, h01, nI_1, pk_mul, chN_eq _ (by omega)]
    rfl
  have hb := chT_le n hn
  rw [← chI_41, ← chI_40] at hT
  rw [← chI_41] at hN
  have hLs : LsT n (chI I) A := ⟨by rw [chI_k (by decide)]; exact h00, by rw [chI_k (by decide)]; exact h01, by rw [chI_40, h00, nI_1], by rw [chI_41, h00, h01, nI_1, pk_mul]; rfl, hA⟩
  refine CtG_of (by decide) rfl (Nat.le_of_ble_eq_true rfl) ?_
  intro p e s m args below meth c hC hE hin hr
  replace hC : CX p s m args meth c cX0_init_ 5 RX0 (AdS ads s.heap.size) := hC
  have key : ∀ nw : AD, G p l e { frames := 2, cells := 0 + 1 + 1 + 1, slots := 0 + chT (n + 1) + chN (n + 1) + chN (n + 1), locals := 48 } s m args below meth c (MQ below (CPostG D ads (twn n) s.heap.size (chg n I A)) args s (0 + 1 + 1 + 1) (0 + chT (n + 1) + chN (n + 1) + chN (n + 1)) (AdS ads s.heap.size)) D (AdS ads s.heap.size) 5 0 0 (ads ++ nw) (tw0 n) I A 0 [some (.inr (some 4)), some (.inr (some 0)), none, none, none] [] := by
    intro nw
    refine g_blk hC _ bX0_init__0_1 (pc' := 1) (ls' := [some (.inr (some 4)), some (.inr (some 0)), none, none, none]) (st' := [.inr (some 4)]) (I' := I) rfl rfl ?_
    refine g_obj hC wo_X0_3 wo_i wo_c dX0_init__1 (Nat.le_of_ble_eq_true rfl) (Nat.le_of_ble_eq_true rfl) ?_
    refine g_blk hC _ bX0_init__4_11 (pc' := 11) (ls' := [some (.inr (some 4)), some (.inr (some 0)), none, none, none]) (st' := [.inl ((I 0 0) + 1), .inr (some 4)]) (I' := I) rfl rfl ?_
    refine g_putI hC hin (fs := [none, none, some none, some none, some none]) rfl (by decide) (by decide) fl_X0_9 rfl rfl (by decide +kernel) dX0_init__11 ?_
    refine g_blk hC _ bX0_init__14_24 (pc' := 24) (ls' := [some (.inr (some 4)), some (.inr (some 0)), none, none, none]) (st' := [.inl (((up2 I 4 0 ((I 0 0) + 1)) 0 1) * ((up2 I 4 0 ((I 0 0) + 1)) 4 0)), .inr (some 4)]) (I' := up2 I 4 0 ((I 0 0) + 1)) rfl rfl ?_
    refine g_putI hC hin (fs := [none, none, some none, some none, some none]) rfl (by decide) (by decide) fl_X0_15 rfl rfl (by decide +kernel) dX0_init__24 ?_
    rw [chI_eq]
    refine g_blk hC _ bX0_init__27_37 (pc' := 37) (ls' := [some (.inr (some 4)), some (.inr (some 0)), none, none, none]) (st' := [.inl ((((chI I)) 4 1) * (((chI I)) 4 0)), .inr (some 4)]) (I' := (chI I)) rfl rfl ?_
    refine h_newa hC (N := chT (n + 1)) wa_int (by rw [hT]; exact nI_nn (by omega)) (by rw [hT, nI_clamp (by omega)]) (by omega) (n := 5) rfl (hZ.2 5 (by decide)) rfl rfl (by show _ ≤ 0 + 1 + 1 + 1; omega) (by show _ ≤ 0 + chT (n + 1) + chN (n + 1) + chN (n + 1); omega) dX0_init__37 (sh' := [.inr (.inr (0, [none, none, some (some 1), some (some 2), some (some 3)])), .inl (chT n), .inl (chN n), .inl (chN n), .inr (.inr (0, [none, none, some none, some none, some none])), .inl (chT (n + 1))]) rfl (fun nw => ?_)
    refine h_putR hC hin (fs := [none, none, some none, some none, some none]) rfl (by decide) (by decide) fl_X0_18 rfl rfl ⟨_, by decide +kernel, ty_arr⟩ dX0_init__39 (sh' := [.inr (.inr (0, [none, none, some (some 1), some (some 2), some (some 3)])), .inl (chT n), .inl (chN n), .inl (chN n), .inr (.inr (0, [none, none, some (some 5), some none, some none])), .inl (chT (n + 1))]) rfl ?_
    refine g_blk hC _ bX0_init__42_47 (pc' := 47) (ls' := [some (.inr (some 4)), some (.inr (some 0)), none, none, none]) (st' := [.inl (((chI I)) 4 1), .inr (some 4)]) (I' := (chI I)) rfl rfl ?_
    refine h_newa hC (N := chN (n + 1)) wa_int (by rw [hN]; exact nI_nn (by omega)) (by rw [hN, nI_clamp (by omega)]) (by omega) (n := 6) rfl (hZ.2 6 (by decide)) rfl rfl (by show _ ≤ 0 + 1 + 1 + 1; omega) (by show _ ≤ 0 + chT (n + 1) + chN (n + 1) + chN (n + 1); omega) dX0_init__47 (sh' := [.inr (.inr (0, [none, none, some (some 1), some (some 2), some (some 3)])), .inl (chT n), .inl (chN n), .inl (chN n), .inr (.inr (0, [none, none, some (some 5), some none, some none])), .inl (chT (n + 1)), .inl (chN (n + 1))]) rfl (fun nw => ?_)
    refine h_putR hC hin (fs := [none, none, some (some 5), some none, some none]) rfl (by decide) (by decide) fl_X0_22 rfl rfl ⟨_, by decide +kernel, ty_arr⟩ dX0_init__49 (sh' := [.inr (.inr (0, [none, none, some (some 1), some (some 2), some (some 3)])), .inl (chT n), .inl (chN n), .inl (chN n), .inr (.inr (0, [none, none, some (some 5), some (some 6), some none])), .inl (chT (n + 1)), .inl (chN (n + 1))]) rfl ?_
    refine g_blk hC _ bX0_init__52_57 (pc' := 57) (ls' := [some (.inr (some 4)), some (.inr (some 0)), none, none, none]) (st' := [.inl (((chI I)) 4 1), .inr (some 4)]) (I' := (chI I)) rfl rfl ?_
    refine h_newa hC (N := chN (n + 1)) wa_int (by rw [hN]; exact nI_nn (by omega)) (by rw [hN, nI_clamp (by omega)]) (by omega) (n := 7) rfl (hZ.2 7 (by decide)) rfl rfl (by show _ ≤ 0 + 1 + 1 + 1; omega) (by show _ ≤ 0 + chT (n + 1) + chN (n + 1) + chN (n + 1); omega) dX0_init__57 (sh' := [.inr (.inr (0, [none, none, some (some 1), some (some 2), some (some 3)])), .inl (chT n), .inl (chN n), .inl (chN n), .inr (.inr (0, [none, none, some (some 5), some (some 6), some none])), .inl (chT (n + 1)), .inl (chN (n + 1)), .inl (chN (n + 1))]) rfl (fun nw => ?_)
    refine h_putR hC hin (fs := [none, none, some (some 5), some (some 6), some none]) rfl (by decide) (by decide) fl_X0_25 rfl rfl ⟨_, by decide +kernel, ty_arr⟩ dX0_init__59 (sh' := [.inr (.inr (0, [none, none, some (some 1), some (some 2), some (some 3)])), .inl (chT n), .inl (chN n), .inl (chN n), .inr (.inr (0, [none, none, some (some 5), some (some 6), some (some 7)])), .inl (chT (n + 1)), .inl (chN (n + 1)), .inl (chN (n + 1))]) rfl ?_
    exact ct_loop l D ads nw (chI I) A hn hC hr hLs (fun A' h => ⟨rfl, h⟩)
  have k0 := key []
  rw [List.append_nil] at k0
  exact k0
