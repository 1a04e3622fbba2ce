/-! the abstract machine: values, shapes of cells, worlds -/
def gtbl : List Cond := lw_tbl.filter goodWord
theorem gt_of {w : Cond} (h : w ∈ lw_tbl) (g : goodWord w = true) : w ∈ gtbl := List.mem_filter.mpr ⟨h, g⟩
theorem gt_good {w : Cond} (h : w ∈ gtbl) : goodWord w = true := (List.mem_filter.mp h).2
/-- a value: an int, or a reference (none is null, else a cell's number) -/
abbrev AV : Type := Int32 ⊕ Option Nat
/-- a cell's shape: an int array's length; an array of references, its kind and what it holds; an object, its class and slots (none an int, some r a reference) -/
abbrev SC : Type := Nat ⊕ ((Nat × List (Option Nat)) ⊕ (Nat × List (Option (Option Nat))))
abbrev SH : Type := List SC
abbrev HI : Type := Nat → Nat → Int32
abbrev AD : Type := List (Nat × ClassId)
def adr (ads : AD) (k : Nat) : Nat := (ads.getD k (0, 0)).1
def cv (ads : AD) : AV → Value
  | .inl v => .int v
  | .inr none => .null
  | .inr (some k) => .ref (adr ads k)
theorem cv_cat (ads : AD) (v : AV) : (cv ads v).category = 1 := by
  match v with
  | .inl _ => rfl
  | .inr none => rfl
  | .inr (some _) => rfl
def rty (k : Nat) : FieldType := if k = 0 then .object RX0 else .array .int
def fv (ads : AD) (v : Int32) (o : Option (Option Nat)) : Value := match o with
  | none => .int v
  | some r => cv ads (.inr r)
def fsv (ads : AD) (I : HI) (k : Nat) (fs : List (Option (Option Nat))) : List Value := fs.mapIdx (fun j o => fv ads (I k j) o)
def wcell (ads : AD) (I A : HI) (k : Nat) (q : (Nat × ClassId) × SC) : Nat × va_E := (q.1.1, match q.2 with
  | .inl n => .inl (q.1.2, n, .inl (A k))
  | .inr (.inl f) => .inl (q.1.2, f.2.length, .inr (.inr (.inr (.inr (fun i => (f.2.getD i none).map (adr ads))))))
  | .inr (.inr o) => .inr (o.1, fsv ads I k o.2))
def wld (ads : AD) (sh : SH) (I A : HI) : va_W := (ads.zip sh).mapIdx (fun k q => wcell ads I A k q)
def ctys (q : (Nat × ClassId) × SC) : Option (ClassId × FieldType) := match q.2 with
  | .inl _ => some (q.1.2, .int)
  | .inr (.inl f) => some (q.1.2, rty f.1)
  | .inr (.inr _) => none
def tysOf (ads : AD) (sh : SH) : List (ClassId × FieldType) := (ads.zip sh).filterMap ctys
theorem wld_get {ads : AD} {sh : SH} {I A : HI} {k : Nat} {x : Nat × ClassId} {c : SC} (h1 : ads[k]? = some x) (h2 : sh[k]? = some c) : (wld ads sh I A)[k]? = some (wcell ads I A k (x, c)) := by
  have hz : (ads.zip sh)[k]? = some (x, c) := List.getElem?_zip_eq_some.mpr ⟨h1, h2⟩
  unfold wld
  rw [List.getElem?_mapIdx, hz]
  rfl
theorem wld_inv {ads : AD} {sh : SH} {I A : HI} {k : Nat} {q : Nat × va_E} (h : (wld ads sh I A)[k]? = some q) : ∃ x c, ads[k]? = some x ∧ sh[k]? = some c ∧ q = wcell ads I A k (x, c) := by
  unfold wld at h
  rw [List.getElem?_mapIdx] at h
  cases hz : (ads.zip sh)[k]? with
  | none => rw [hz] at h; cases h
  | some z =>
    rw [hz] at h
    obtain ⟨x, c⟩ := z
    obtain ⟨a1, a2⟩ := List.getElem?_zip_eq_some.mp hz
    exact ⟨x, c, a1, a2, (Option.some.inj h).symm⟩
theorem adr_of {ads : AD} {k : Nat} {x : Nat × ClassId} (h : ads[k]? = some x) : adr ads k = x.1 := by
  unfold adr
  rw [List.getD_eq_getElem?_getD, h]
  rfl
theorem tys_int {ads : AD} {sh : SH} {k : Nat} {x : Nat × ClassId} {n : Nat} (h1 : ads[k]? = some x) (h2 : sh[k]? = some (.inl n)) : ∃ t : Nat, (tysOf ads sh)[t]? = some (x.2, .int) := by
  have hz : (ads.zip sh)[k]? = some (x, .inl n) := List.getElem?_zip_eq_some.mpr ⟨h1, h2⟩
  exact List.getElem?_of_mem (List.mem_filterMap.mpr ⟨_, List.mem_of_getElem? hz, rfl⟩)
theorem tys_ref {ads : AD} {sh : SH} {k : Nat} {x : Nat × ClassId} {f : Nat × List (Option Nat)} (h1 : ads[k]? = some x) (h2 : sh[k]? = some (.inr (.inl f))) : ∃ t : Nat, (tysOf ads sh)[t]? = some (x.2, rty f.1) := by
  have hz : (ads.zip sh)[k]? = some (x, .inr (.inl f)) := List.getElem?_zip_eq_some.mpr ⟨h1, h2⟩
  exact List.getElem?_of_mem (List.mem_filterMap.mpr ⟨_, List.mem_of_getElem? hz, rfl⟩)
/-- f, but v at (k, j) -/
def up2 (f : HI) (k j : Nat) (v : Int32) : HI := fun a b => if a = k ∧ b = j then v else f a b
theorem up2_s {f : HI} {k j : Nat} {v : Int32} : up2 f k j v k j = v := if_pos ⟨rfl, rfl⟩
theorem up2_k {f : HI} {k j a b : Nat} {v : Int32} (h : a ≠ k) : up2 f k j v a b = f a b := if_neg (fun q => h q.1)
theorem up2_j {f : HI} {k j a b : Nat} {v : Int32} (h : b ≠ j) : up2 f k j v a b = f a b := if_neg (fun q => h q.2)
theorem up2_row {f : HI} {k j : Nat} {v : Int32} : up2 f k j v k = upd (f k) j v := by
  funext b
  unfold up2 upd
  by_cases h : b = j
  · rw [if_pos ⟨rfl, h⟩, if_pos h]
  · rw [if_neg (fun q => h q.2), if_neg h]
theorem up2_off {f : HI} {k j a : Nat} {v : Int32} (h : a ≠ k) : up2 f k j v a = f a := by
  funext b
  exact up2_k h
theorem wld_len {ads : AD} {sh : SH} {I A : HI} : (wld ads sh I A).length = min ads.length sh.length := by
  unfold wld
  rw [List.length_mapIdx, List.length_zip]
theorem wld_setA {ads : AD} {sh : SH} {I A : HI} {k j n : Nat} {x : Nat × ClassId} {v : Int32} (h1 : ads[k]? = some x) (h2 : sh[k]? = some (.inl n)) : (wld ads sh I A).set k (x.1, .inl (x.2, n, .inl (upd (A k) j v))) = wld ads sh I (up2 A k j v) := by
  apply List.ext_getElem?
  intro i
  by_cases hi : k = i
  · subst hi
    have hl : k < (wld ads sh I A).length := (List.getElem?_eq_some_iff.mp (wld_get (I := I) (A := A) h1 h2)).1
    rw [List.getElem?_set_self hl, wld_get h1 h2]
    show _ = some (x.1, _)
    congr 2
    show Sum.inl (x.2, n, Sum.inl (upd (A k) j v)) = Sum.inl (x.2, n, Sum.inl (up2 A k j v k))
    rw [up2_row]
  · rw [List.getElem?_set_ne hi]
    unfold wld
    rw [List.getElem?_mapIdx, List.getElem?_mapIdx]
    congr 1
    funext q
    unfold wcell
    rw [up2_off (Ne.symm hi)]
theorem fsv_get {ads : AD} {I : HI} {k j : Nat} {fs : List (Option (Option Nat))} {o : Option (Option Nat)} (h : fs[j]? = some o) : (fsv ads I k fs)[j]? = some (fv ads (I k j) o) := by
  unfold fsv
  rw [List.getElem?_mapIdx, h]
  rfl
theorem fsv_set {ads : AD} {I : HI} {k j : Nat} {fs : List (Option (Option Nat))} {v : Int32} (h : fs[j]? = some none) : (fsv ads I k fs).set j (.int v) = fsv ads (up2 I k j v) k fs := by
  apply List.ext_getElem?
  intro i
  by_cases hi : j = i
  · subst hi
    have hl : j < (fsv ads I k fs).length := (List.getElem?_eq_some_iff.mp (fsv_get (ads := ads) (I := I) (k := k) h)).1
    rw [List.getElem?_set_self hl, fsv_get h]
    show some (Value.int v) = some (Value.int (up2 I k j v k j))
    rw [up2_s]
  · rw [List.getElem?_set_ne hi]
    unfold fsv
    rw [List.getElem?_mapIdx, List.getElem?_mapIdx]
    congr 1
    funext q
    rw [up2_j (Ne.symm hi)]
theorem fsv_off {ads : AD} {I : HI} {k j a : Nat} {fs : List (Option (Option Nat))} {v : Int32} (h : a ≠ k) : fsv ads (up2 I k j v) a fs = fsv ads I a fs := by
  unfold fsv
  rw [up2_off h]
theorem wld_setI {ads : AD} {sh : SH} {I A : HI} {k j ci : Nat} {fs : List (Option (Option Nat))} {x : Nat × ClassId} {v : Int32} (h1 : ads[k]? = some x) (h2 : sh[k]? = some (.inr (.inr (ci, fs)))) (h : fs[j]? = some none) : (wld ads sh I A).set k (x.1, .inr (ci, (fsv ads I k fs).set j (.int v))) = wld ads sh (up2 I k j v) A := by
  apply List.ext_getElem?
  intro i
  by_cases hi : k = i
  · subst hi
    have hl : k < (wld ads sh I A).length := (List.getElem?_eq_some_iff.mp (wld_get (I := I) (A := A) h1 h2)).1
    rw [List.getElem?_set_self hl, wld_get h1 h2, fsv_set h]
    rfl
  · rw [List.getElem?_set_ne hi]
    unfold wld
    rw [List.getElem?_mapIdx, List.getElem?_mapIdx]
    congr 1
    funext q
    unfold wcell
    simp only [fsv_off (Ne.symm hi)]
/-- the addresses don't hang on what the cells hold -/
theorem wld_D {A0 B0 : Nat → Prop} {ads : AD} {sh : SH} {I A I2 A2 : HI} (h : va_D A0 (wld ads sh I A)) (hb : ∀ q, A0 q → B0 q) : va_D B0 (wld ads sh I2 A2) := by
  have key : ∀ (k : Nat) (q : Nat × va_E), (wld ads sh I2 A2)[k]? = some q → ∃ q0, (wld ads sh I A)[k]? = some q0 ∧ q0.1 = q.1 := by
    intro k q hq
    obtain ⟨x, c, h1, h2, rfl⟩ := wld_inv hq
    exact ⟨_, wld_get h1 h2, rfl⟩
  refine ⟨fun i j a b hi hj hab => ?_, fun k q hq => ?_⟩
  · obtain ⟨a0, e1, e2⟩ := key i a hi
    obtain ⟨b0, e3, e4⟩ := key j b hj
    exact h.1 i j a0 b0 e1 e3 (by rw [e2, e4]; exact hab)
  · obtain ⟨q0, e1, e2⟩ := key k q hq
    rw [← e2]
    exact hb _ (h.2 k q0 e1)
/-- which cells a method may change: those of the world, and new ones -/
def AdS (ads : AD) (sz : Nat) : Nat → Prop := fun q => (∃ (k : Nat) (x : Nat × ClassId), ads[k]? = some x ∧ q = x.1) ∨ sz ≤ q
theorem wld_self {A0 : Nat → Prop} {ads : AD} {sh : SH} {I A : HI} {sz : Nat} (h : va_D A0 (wld ads sh I A)) : va_D (AdS ads sz) (wld ads sh I A) := by
  refine ⟨h.1, fun k q hq => ?_⟩
  obtain ⟨x, c, h1, h2, rfl⟩ := wld_inv hq
  exact Or.inl ⟨k, x, h1, rfl⟩
theorem AdS_sub {A0 : Nat → Prop} {ads : AD} {sh : SH} {I A : HI} {H0 H : Heap} {locs : List Loc} (hl : ads.length = sh.length) (hD : va_D A0 (wld ads sh I A)) (hS : va_S A0 H0 H locs) (hA : ∀ q : Nat, H0.size ≤ q → A0 q) : ∀ q : Nat, AdS ads H.size q → A0 q := by
  intro q hq
  rcases hq with ⟨k, x, h1, rfl⟩ | h
  · have hk : k < sh.length := by rw [← hl]; exact (List.getElem?_eq_some_iff.mp h1).1
    exact hD.2 k _ (wld_get h1 (List.getElem?_eq_getElem hk))
  · exact hA q (Nat.le_trans hS.1 h)
/-- locals -/
def LH (ads : AD) (nL : Nat) (ls : List (Option AV)) (a : Array Slot) : Prop := a.size = nL ∧ ls.length = nL ∧ lv_wf a ∧ ∀ (i : Nat) (v : AV), ls[i]? = some (some v) → a[i]? = some (.val (cv ads v))
def lvl (ads : AD) (ls : List (Option AV)) : List (Nat × Value) := ls.zipIdx.filterMap (fun q => q.1.map (fun v => (q.2, cv ads v)))
theorem lvl_mem {ads : AD} {ls : List (Option AV)} {i : Nat} {w : Value} : (i, w) ∈ lvl ads ls ↔ ∃ v, ls[i]? = some (some v) ∧ w = cv ads v := by
  unfold lvl
  rw [List.mem_filterMap]
  constructor
  · rintro ⟨⟨o, j⟩, h1, h2⟩
    have h3 := List.mem_zipIdx_iff_getElem?.mp h1
    cases o with
    | none => cases h2
    | some v =>
      cases h2
      exact ⟨v, h3, rfl⟩
  · rintro ⟨v, h1, rfl⟩
    exact ⟨(some v, i), List.mem_zipIdx_iff_getElem?.mpr h1, rfl⟩
theorem LH.has {ads : AD} {nL : Nat} {ls : List (Option AV)} {a : Array Slot} (h : LH ads nL ls a) : lv_has a nL (lvl ads ls) := by
  refine ⟨h.1, h.2.2.1, fun q hq => ?_⟩
  obtain ⟨i, w⟩ := q
  obtain ⟨v, h1, rfl⟩ := lvl_mem.mp hq
  exact h.2.2.2 i v h1
theorem LH.set {ads : AD} {nL i : Nat} {ls : List (Option AV)} {a : Array Slot} {v : AV} (hl : ls.length = nL) (h : lv_has a nL ((i, cv ads v) :: (lvl ads ls).filter (fun q => !(q.1 == i) && !(q.1 + 1 == i && q.2.category == 2)))) : LH ads nL (ls.set i (some v)) a := by
  refine ⟨h.1, by rw [List.length_set]; exact hl, h.2.1, fun j w hj => ?_⟩
  by_cases e : i = j
  · subst e
    have hlt : i < ls.length := by
      have := (List.getElem?_eq_some_iff.mp hj).1
      rwa [List.length_set] at this
    rw [List.getElem?_set_self hlt] at hj
    cases hj
    exact h.2.2 (i, cv ads v) List.mem_cons_self
  · rw [List.getElem?_set_ne e] at hj
    refine h.2.2 (j, cv ads w) (List.mem_cons_of_mem _ (List.mem_filter.mpr ⟨lvl_mem.mpr ⟨w, hj, rfl⟩, ?_⟩))
    have e2 : ¬ j = i := fun q => e q.symm
    simp [e2, cv_cat]
