/-! the rows of growth, with the addresses that were there ahead of the new ones -/
def ZA (n : Nat) (I A : HI) : Prop := (∀ k, n ≤ k → ∀ j, I k j = 0) ∧ ∀ k, n ≤ k → A k = fun _ => 0
section GE
variable {p : Program} {l : Launch} {e : Env} {R : Room} {s : State} {m : MethodId} {args : Array Value} {below : List Frame} {meth : Method} {c : Code} {Q : State → Prop} {D : va_G} {B : Nat → Prop} {nL cells slots : Nat} {a0 nw : AD} {sh sh' : SH} {I A : HI} {pc n : Nat} {ls : List (Option AV)} {st : List AV} {cc : ByteArray} {own : String}
theorem h_new (hC : CX p s m args meth c cc nL own B) {idx ci : Nat} {q : vw_C} {fs : List (Option (Option Nat))} (hq : vwCl[ci]? = some q) (hcl : Cond.classLink own idx q.1 ∈ gtbl) (hinst : Cond.instantiable q.1 q.2.2 ∈ gtbl) (hini : Cond.initialized q.1 ∈ gtbl) (hfs : ∀ j, j < q.2.2 → defaultValue (tyN ci j) = vp_V (fsv [] (fun _ _ => 0) 0 fs) j) (hdf : fs.all isDf = true) (hn : sh.length = n) (hz : ∀ j, I n j = 0) (hsh : shOK sh = true) (hls : (lsOK n ls && stOK n st) = true) (hcells : cells + 1 ≤ R.cells) (hslots : slots + q.2.2 ≤ R.slots) (hd : decode cc pc = .ok (.new idx, 3)) (he : sh ++ [.inr (.inr (ci, fs))] = sh')
    (kk : ∀ nw : AD, G p l e R s m args below meth c Q D B nL (cells + 1) (slots + q.2.2) (a0 ++ nw) sh' I A (pc + 3) ls (.inr (some n) :: st)) : G p l e R s m args below meth c Q D B nL cells slots (a0 ++ nw) sh I A pc ls st := by
  subst hn
  subst he
  exact g_new hC hq hcl hinst hini hfs hdf hz hsh hls hcells hslots hd (fun x => by rw [List.append_assoc]; exact kk (nw ++ [x]))
theorem h_newa (hC : CX p s m args meth c cc nL own B) {k : Int32} {N : Nat} (harr : Cond.arrayClass .int ∈ gtbl) (hk : ¬ k < 0) (hN : k.toNatClampNeg = N) (hb : N * 4 ≤ 536870912) (hn : sh.length = n) (hz : A n = fun _ => 0) (hsh : shOK sh = true) (hls : (lsOK n ls && stOK n st) = true) (hcells : cells + 1 ≤ R.cells) (hslots : slots + N ≤ R.slots) (hd : decode cc pc = .ok (.newarray .int, 2)) (he : sh ++ [.inl N] = sh')
    (kk : ∀ nw : AD, G p l e R s m args below meth c Q D B nL (cells + 1) (slots + N) (a0 ++ nw) sh' I A (pc + 2) ls (.inr (some n) :: st)) : G p l e R s m args below meth c Q D B nL cells slots (a0 ++ nw) sh I A pc ls (.inl k :: st) := by
  subst hn
  subst he
  exact g_newa hC harr hk hN hb hz hsh hls hcells hslots hd (fun x => by rw [List.append_assoc]; exact kk (nw ++ [x]))
theorem h_anew (hC : CX p s m args meth c cc nL own B) (hE : EX s) {k : Int32} {N idx : Nat} (hcl : Cond.classLink own idx RX0 ∈ gtbl) (hk : ¬ k < 0) (hN : k.toNatClampNeg = N) (hb : N * 4 ≤ 536870912) (hn : sh.length = n) (hsh : shOK sh = true) (hls : (lsOK n ls && stOK n st) = true) (hcells : cells + 1 ≤ R.cells) (hslots : slots + N ≤ R.slots) (hd : decode cc pc = .ok (.anewarray idx, 3)) (he : sh ++ [.inr (.inl (0, List.replicate N none))] = sh')
    (kk : ∀ nw : AD, G p l e R s m args below meth c Q D B nL (cells + 1) (slots + N) (a0 ++ nw) sh' I A (pc + 3) ls (.inr (some n) :: st)) : G p l e R s m args below meth c Q D B nL cells slots (a0 ++ nw) sh I A pc ls (.inl k :: st) := by
  subst hn
  subst he
  exact g_anew hC hE hcl hk hN hb hsh hls hcells hslots hd (fun x => by rw [List.append_assoc]; exact kk (nw ++ [x]))
theorem h_mna (hC : CX p s m args meth c cc nL own B) (hE : EX s) {j k : Int32} {N K idx : Nat} (hcl : Cond.classLink own idx "[[I" ∈ gtbl) (harr : Cond.arrayClass .int ∈ gtbl) (hj : ¬ j < 0) (hk : ¬ k < 0) (hN : j.toNatClampNeg = N) (hK : k.toNatClampNeg = K) (hb1 : N * 4 ≤ 536870912) (hb2 : K * 4 ≤ 536870912) (hn : sh.length = n) (hz : ∀ i, A (n + i) = fun _ => 0) (hsh : shOK sh = true) (hls : (lsOK n ls && stOK n st) = true) (hcells : cells + (1 + N) ≤ R.cells) (hslots : slots + (N + N * K) ≤ R.slots) (hd : decode cc pc = .ok (.multianewarray idx 2, 4)) (he : sh ++ (.inr (.inl (1, (List.range N).map (fun i => some (n + 1 + i)))) :: List.replicate N (.inl K)) = sh')
    (kk : ∀ nw : AD, G p l e R s m args below meth c Q D B nL (cells + 1 + N) (slots + N + N * K) (a0 ++ nw) sh' I A (pc + 4) ls (.inr (some n) :: st)) : G p l e R s m args below meth c Q D B nL cells slots (a0 ++ nw) sh I A pc ls (.inl k :: .inl j :: st) := by
  subst hn
  subst he
  exact g_mna hC hE hcl harr hj hk hN hK hb1 hb2 hz hsh hls hcells hslots hd (fun x _ => by rw [List.append_assoc]; exact kk (nw ++ x))
theorem h_callI {y : MethodName} {cy : ByteArray} {nY fr lc mc ms idx k : Nat} {as rest st0 : List AV} {post : HI → HI → Prop} (hC : CX p s m args meth c cc nL own B) (hE : EX s) (hM : CtG l y cy nY fr lc mc ms D (a0 ++ nw) sh (.inr (some k) :: as) I A sh' post)
    (hd : decode cc pc = .ok (.invokespecial idx, 3)) (hy : nmOk y as.length) (hni : y.name = "<init>") (hwl : Cond.methodLink own idx y ∈ gtbl) (hwi : Cond.instanceMethod y ∈ gtbl) (hwn : Cond.initialized y.cls ∈ gtbl) (hwc : Cond.code y cy nY none ∈ gtbl)
    (hfr : fr + 1 ≤ R.frames ∧ 8 + (nY + 11) + lc ≤ R.locals) (hst : st0 = as.reverse ++ .inr (some k) :: rest) (hrs : rest.length ≤ 8) (hcs : cells + mc ≤ R.cells ∧ slots + ms ≤ R.slots) (hn : sh.length = n) (hls : (lsOK n ls && stOK n rest) = true)
    (kk : ∀ (nw : AD) (I' A' : HI), post I' A' → G p l e R s m args below meth c Q D B nL (cells + mc) (slots + ms) (a0 ++ nw) sh' I' A' (pc + 3) ls rest) : G p l e R s m args below meth c Q D B nL cells slots (a0 ++ nw) sh I A pc ls st0 := by
  subst hn
  exact g_callI hC hE hM hd hy hni hwl hwi hwn hwc hfr hst hrs hcs hls (fun x I' A' hp => by rw [List.append_assoc]; exact kk (nw ++ x) I' A' hp)
theorem h_callIN {y : MethodName} {host : String} {cy : ByteArray} {nY fr lc mc ms idx k : Nat} {as rest st0 : List AV} {post : HI → HI → Prop} (hC : CX p s m args meth c cc nL own B) (hE : EX s) (hM : CtG l y cy nY fr lc mc ms D (a0 ++ nw) sh (.inr (some k) :: as) I A sh' post)
    (hd : decode cc pc = .ok (.invokespecial idx, 3)) (hy : nmOk y as.length) (hni : y.name = "<init>") (hwl : Cond.methodLinkNest own idx y host ∈ nstw) (hwi : Cond.instanceMethod y ∈ gtbl) (hwn : Cond.initialized y.cls ∈ gtbl) (hwc : Cond.code y cy nY none ∈ gtbl)
    (hfr : fr + 1 ≤ R.frames ∧ 8 + (nY + 11) + lc ≤ R.locals) (hst : st0 = as.reverse ++ .inr (some k) :: rest) (hrs : rest.length ≤ 8) (hcs : cells + mc ≤ R.cells ∧ slots + ms ≤ R.slots) (hn : sh.length = n) (hls : (lsOK n ls && stOK n rest) = true)
    (kk : ∀ (nw : AD) (I' A' : HI), post I' A' → G p l e R s m args below meth c Q D B nL (cells + mc) (slots + ms) (a0 ++ nw) sh' I' A' (pc + 3) ls rest) : G p l e R s m args below meth c Q D B nL cells slots (a0 ++ nw) sh I A pc ls st0 := by
  subst hn
  exact g_callIN hC hE hM hd hy hni hwl hwi hwn hwc hfr hst hrs hcs hls (fun x I' A' hp => by rw [List.append_assoc]; exact kk (nw ++ x) I' A' hp)
theorem h_putR (hC : CX p s m args meth c cc nL own B) (hin : meth.name = "<init>") {idx ci k q r : Nat} {fs : List (Option (Option Nat))} (hs : sh[q]? = some (.inr (.inr (ci, fs)))) (hk : k < (clsN ci).2.2) (hkl : k < fs.length) (hw : fldw own idx ci k ∈ gtbl) (hfin : ((clsN ci).2.1 k).2.2.2 = true) (hdecl : ((clsN ci).2.1 k).1 = own) (hty : ∃ ty, parseFieldDescriptor ((clsN ci).2.1 k).2.2.1 = some ty ∧ ∀ b : Nat, narrow ty (.ref b) = .ref b ∧ fits ty (.ref b) = true) (hd : decode cc pc = .ok (.putfield idx, 3)) (he : sh.set q (.inr (.inr (ci, fs.set k (some (some r))))) = sh')
    (kk : G p l e R s m args below meth c Q D B nL cells slots (a0 ++ nw) sh' I A (pc + 3) ls st) : G p l e R s m args below meth c Q D B nL cells slots (a0 ++ nw) sh I A pc ls (.inr (some r) :: .inr (some q) :: st) := by
  subst he
  exact g_putR hC hin hs hk hkl hw hfin hdecl hty hd kk
theorem h_aast (hC : CX p s m args meth c cc nL own B) {i : Int32} {q r : Nat} {L : List (Option Nat)} {fs : List (Option (Option Nat))} (hs : sh[q]? = some (.inr (.inl (0, L)))) (hv : sh[r]? = some (.inr (.inr (0, fs)))) (hi : vp_in i L.length) (hd : decode cc pc = .ok (.aastore, 1)) (he : sh.set q (.inr (.inl (0, L.set i.toNatClampNeg (some r)))) = sh')
    (kk : G p l e R s m args below meth c Q D B nL cells slots (a0 ++ nw) sh' I A (pc + 1) ls st) : G p l e R s m args below meth c Q D B nL cells slots (a0 ++ nw) sh I A pc ls (.inr (some r) :: .inl i :: .inr (some q) :: st) := by
  subst he
  exact g_aastQ hC hs hv hi hd kk
end GE
theorem ty_arr : ∀ b : Nat, narrow (.array .int) (.ref b) = .ref b ∧ fits (.array .int) (.ref b) = true := fun _ => ⟨rfl, rfl⟩
theorem ty_arr2 : ∀ b : Nat, narrow (.array (.array .int)) (.ref b) = .ref b ∧ fits (.array (.array .int)) (.ref b) = true := fun _ => ⟨rfl, rfl⟩
theorem ty_obj {C : String} : ∀ b : Nat, narrow (.object C) (.ref b) = .ref b ∧ fits (.object C) (.ref b) = true := fun _ => ⟨rfl, rfl⟩
theorem ty_aobj {C : String} : ∀ b : Nat, narrow (.array (.object C)) (.ref b) = .ref b ∧ fits (.array (.object C)) (.ref b) = true := fun _ => ⟨rfl, rfl⟩
