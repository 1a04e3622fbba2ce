/-! worlds that grow: cells and references in scope -/
def shIn (n : Nat) (c : SC) : Bool := match c with
  | .inl _ => true
  | .inr (.inl f) => f.2.all (fun o => match o with | none => true | some k => Nat.blt k n)
  | .inr (.inr o) => o.2.all (fun x => match x with | some (some k) => Nat.blt k n | _ => true)
def shOK (sh : SH) : Bool := sh.all (shIn sh.length)
def avOK (n : Nat) (v : AV) : Bool := match v with
  | .inr (some k) => Nat.blt k n
  | _ => true
def lsOK (n : Nat) (ls : List (Option AV)) : Bool := ls.all (fun o => match o with | some v => avOK n v | none => true)
def stOK (n : Nat) (st : List AV) : Bool := st.all (avOK n)
theorem adr_app {ads nw : AD} {k : Nat} (h : k < ads.length) : adr (ads ++ nw) k = adr ads k := by
  unfold adr
  rw [List.getD_eq_getElem?_getD, List.getD_eq_getElem?_getD, List.getElem?_append_left h]
theorem cv_app {ads nw : AD} {v : AV} (h : avOK ads.length v = true) : cv (ads ++ nw) v = cv ads v := by
  match v, h with
  | .inl _, _ => rfl
  | .inr none, _ => rfl
  | .inr (some k), h =>
    show Value.ref (adr (ads ++ nw) k) = Value.ref (adr ads k)
    rw [adr_app (Nat.blt_eq.mp h)]
theorem st_app {ads nw : AD} {st : List AV} (h : stOK ads.length st = true) : st.map (cv (ads ++ nw)) = st.map (cv ads) :=
  List.map_congr_left (fun v hv => cv_app (List.all_eq_true.mp h v hv))
theorem LH.app {ads nw : AD} {nL : Nat} {ls : List (Option AV)} {a : Array Slot} (h : LH ads nL ls a) (hk : lsOK ads.length ls = true) : LH (ads ++ nw) nL ls a := by
  refine ⟨h.1, h.2.1, h.2.2.1, fun i v hi => ?_⟩
  have := List.all_eq_true.mp hk _ (List.mem_of_getElem? hi)
  rw [cv_app this]
  exact h.2.2.2 i v hi
theorem fv_app {ads nw : AD} {v : Int32} {o : Option (Option Nat)} (h : ∀ k, o = some (some k) → k < ads.length) : fv (ads ++ nw) v o = fv ads v o := by
  match o, h with
  | none, _ => rfl
  | some none, _ => rfl
  | some (some k), h =>
    show Value.ref (adr (ads ++ nw) k) = Value.ref (adr ads k)
    rw [adr_app (h k rfl)]
theorem wcell_app {ads nw : AD} {I A : HI} {k : Nat} {x : Nat × ClassId} {c : SC} (h : shIn ads.length c = true) : wcell (ads ++ nw) I A k (x, c) = wcell ads I A k (x, c) := by
  match c, h with
  | .inl _, _ => rfl
  | .inr (.inl f), h =>
    have e : (fun i => (f.2.getD i none).map (adr (ads ++ nw))) = fun i => (f.2.getD i none).map (adr ads) := by
      funext i
      cases q : f.2.getD i none with
      | none => rfl
      | some r =>
        have hm : some r ∈ f.2 := by
          rw [List.getD_eq_getElem?_getD] at q
          cases z : f.2[i]? with
          | none => rw [z] at q; cases q
          | some w => rw [z] at q; cases q; exact List.mem_of_getElem? z
        have := List.all_eq_true.mp h _ hm
        show some (adr (ads ++ nw) r) = some (adr ads r)
        rw [adr_app (Nat.blt_eq.mp this)]
    unfold wcell
    simp only [e]
  | .inr (.inr o), h =>
    have e : fsv (ads ++ nw) I k o.2 = fsv ads I k o.2 := by
      unfold fsv
      apply List.ext_getElem?
      intro i
      rw [List.getElem?_mapIdx, List.getElem?_mapIdx]
      cases z : o.2[i]? with
      | none => rfl
      | some w =>
        show some (fv (ads ++ nw) (I k i) w) = some (fv ads (I k i) w)
        rw [fv_app (fun r e => ?_)]
        have := List.all_eq_true.mp h _ (List.mem_of_getElem? z)
        rw [e] at this
        exact Nat.blt_eq.mp this
    unfold wcell
    simp only [e]
theorem wld_app {ads nw : AD} {sh sh2 : SH} {I A : HI} (hl : ads.length = sh.length) (hs : shOK sh = true) : wld (ads ++ nw) (sh ++ sh2) I A = wld ads sh I A ++ (nw.zip sh2).mapIdx (fun k q => wcell (ads ++ nw) I A (sh.length + k) q) := by
  unfold wld
  rw [List.zip_append hl, List.mapIdx_append]
  congr 1
  · apply List.ext_getElem?
    intro i
    rw [List.getElem?_mapIdx, List.getElem?_mapIdx]
    cases z : (ads.zip sh)[i]? with
    | none => rfl
    | some w =>
      obtain ⟨x, c⟩ := w
      have hc := (List.getElem?_zip_eq_some.mp z).2
      show some (wcell (ads ++ nw) I A i (x, c)) = some (wcell ads I A i (x, c))
      rw [wcell_app]
      rw [hl]
      exact List.all_eq_true.mp hs c (List.mem_of_getElem? hc)
  · apply List.ext_getElem?
    intro i
    rw [List.getElem?_mapIdx, List.getElem?_mapIdx, List.length_zip, hl, Nat.min_self, Nat.add_comm i]
theorem tys_app {ads nw : AD} {sh sh2 : SH} (hl : ads.length = sh.length) : tysOf (ads ++ nw) (sh ++ sh2) = tysOf ads sh ++ (nw.zip sh2).filterMap ctys := by
  unfold tysOf
  rw [List.zip_append hl, List.filterMap_append]
def isDf (o : Option (Option Nat)) : Bool := match o with
  | none => true
  | some none => true
  | _ => false
theorem fsv_df {ads : AD} {I : HI} {k : Nat} {fs : List (Option (Option Nat))} (hd : fs.all isDf = true) (hz : ∀ j, I k j = 0) : fsv ads I k fs = fsv [] (fun _ _ => 0) 0 fs := by
  unfold fsv
  apply List.ext_getElem?
  intro i
  rw [List.getElem?_mapIdx, List.getElem?_mapIdx]
  cases z : fs[i]? with
  | none => rfl
  | some w =>
    have := List.all_eq_true.mp hd _ (List.mem_of_getElem? z)
    match w, this with
    | none, _ => show some (Value.int (I k i)) = some (Value.int 0); rw [hz]
    | some none, _ => rfl
def EX (s : State) : Prop := va_AO RX0 s ∧ va_AOA .int s
theorem va_AOA.moved {ty : FieldType} {u U : State} (hvm : u.vm.Alike U.vm) (h : va_AOA ty u) : va_AOA ty U := by
  have e1 : (Cond.arrayOver (.array ty)).before #[] (u.setVm U.vm) = true := by
    rw [Cond.arrayOver_setVmC hvm]
    exact h
  unfold va_AOA
  simp only [Cond.before, Cond.holds, Cond.value] at e1 ⊢
  exact e1
theorem EX.moved {u U : State} (hvm : u.vm.Alike U.vm) (h : EX u) : EX U := ⟨va_AO.moved hvm h.1, va_AOA.moved hvm h.2⟩
section GR
variable {p : Program} {l : Launch} {e : Env} {R : Room} {s : State} {m : MethodId} {args : Array Value} {below : List Frame} {meth : Method} {c : Code} {Q : State → Prop} {D : va_G} {B : Nat → Prop} {nL cells slots : Nat} {ads : AD} {sh : SH} {I A : HI} {pc : Nat} {ls : List (Option AV)} {st : List AV} {cc : ByteArray} {own : String}
theorem g_new (hC : CX p s m args meth c cc nL own B) {idx ci : Nat} {q : vw_C} {fs : List (Option (Option Nat))} (hq : vwCl[ci]? = some q) (hcl : Cond.classLink own idx q.1 ∈ gtbl) (hinst : Cond.instantiable q.1 q.2.2 ∈ gtbl) (hini : Cond.initialized q.1 ∈ gtbl) (hfs : ∀ j, j < q.2.2 → defaultValue (tyN ci j) = vp_V (fsv [] (fun _ _ => 0) 0 fs) j) (hdf : fs.all isDf = true) (hz : ∀ j, I sh.length j = 0) (hsh : shOK sh = true) (hls : (lsOK sh.length ls && stOK sh.length st) = true) (hcells : cells + 1 ≤ R.cells) (hslots : slots + q.2.2 ≤ R.slots) (hd : decode cc pc = .ok (.new idx, 3))
    (kk : ∀ x : Nat × ClassId, G p l e R s m args below meth c Q D B nL (cells + 1) (slots + q.2.2) (ads ++ [x]) (sh ++ [.inr (.inr (ci, fs))]) I A (pc + 3) ls (.inr (some sh.length) :: st)) : G p l e R s m args below meth c Q D B nL cells slots ads sh I A pc ls st := by
  intro H locs a hR hL
  obtain ⟨q1, q2, q3⟩ := q
  have hts := hC.2.2.2.2.1
  rw [Bool.and_eq_true] at hls
  have hl := hR.1
  refine va_new (ci := ci) (fs := fsv [] (fun _ _ => 0) 0 fs) (C := q1) (T := q2) (N := q3) hC.1 hC.2.1 hts (cls_in hq) (tyN ci) (cls_ty hq).1 hC.2.2.2.1 (hts _ hcl) (hts _ hinst) (hts _ hini) hR.2.1 hR.2.2.1 hR.2.2.2.1 hR.2.2.2.2 hC.2.2.2.2.2.1 hq hfs hcells hslots hd (fun b H1 hP hD hS => ?_)
  have e : wld (ads ++ [(b, 0)]) (sh ++ [.inr (.inr (ci, fs))]) I A = wld ads sh I A ++ [(b, .inr (ci, fsv [] (fun _ _ => 0) 0 fs))] := by
    rw [wld_app hl hsh]
    congr 1
    show [wcell (ads ++ [(b, 0)]) I A (sh.length + 0) ((b, 0), .inr (.inr (ci, fs)))] = _
    show [(b, Sum.inr (ci, fsv (ads ++ [(b, 0)]) I sh.length fs))] = _
    rw [fsv_df hdf hz]
  have k := kk (b, 0) H1 locs a ⟨by rw [List.length_append, List.length_append, hl]; rfl, by rw [tys_app hl]; show va_K D vwCl (tysOf ads sh ++ []) s; rw [List.append_nil]; exact hR.2.1, by rw [e]; exact hP, by rw [e]; exact hD, hS⟩ (hL.app (by rw [hl]; exact hls.1))
  have ea : adr (ads ++ [(b, 0)]) sh.length = b := by
    unfold adr
    rw [List.getD_eq_getElem?_getD, List.getElem?_append_right (by omega), hl, Nat.sub_self]
    rfl
  have es : ((.inr (some sh.length) :: st : List AV).map (cv (ads ++ [(b, 0)]))) = Value.ref b :: st.map (cv ads) := by
    show Value.ref (adr (ads ++ [(b, 0)]) sh.length) :: st.map (cv (ads ++ [(b, 0)])) = _
    rw [ea, st_app (by rw [hl]; exact hls.2)]
  exact es ▸ k
end GR
