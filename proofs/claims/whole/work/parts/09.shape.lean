/-! the heap behind the two constructors, and short forms -/
def shp : SH := [.inr (.inr (8, [some (some 1), some (some 3), some (some 13), some (some 26), some (some 29), some (some 95), none, none, none, none])),
  .inr (.inr (2, [some (some 2), none])),
  .inl 100,
  .inr (.inr (5, [some (some 1), some (some 4), none, some (some 5), some (some 6), some (some 7), some (some 8), some (some 9), some (some 10), some (some 11), some (some 12), none, none, none])),
  .inl 10,
  .inl 11,
  .inl 16,
  .inl 16,
  .inl 1024,
  .inl 10,
  .inl 10,
  .inl 10,
  .inl 100,
  .inr (.inr (7, [some (some 3), some (some 14), some (some 25)])),
  .inr (.inl (1, [some 15, some 16, some 17, some 18, some 19, some 20, some 21, some 22, some 23, some 24])),
  .inl 26,
  .inl 26,
  .inl 26,
  .inl 26,
  .inl 26,
  .inl 26,
  .inl 26,
  .inl 26,
  .inl 26,
  .inl 26,
  .inl 11,
  .inr (.inr (4, [some (some 27), some (some 28), none])),
  .inl 10,
  .inl 10,
  .inr (.inr (6, [some (some 3), some (some 13), some (some 26), some (some 68), some (some 30), some (some 31), some (some 43), some (some 55), some (some 67), none, none, none, none, none])),
  .inr (.inl (0, [some 71, some 75, some 79, some 83, some 87, some 91])),
  .inr (.inl (1, [some 32, some 33, some 34, some 35, some 36, some 37, some 38, some 39, some 40, some 41, some 42])),
  .inl 120,
  .inl 120,
  .inl 120,
  .inl 120,
  .inl 120,
  .inl 120,
  .inl 120,
  .inl 120,
  .inl 120,
  .inl 120,
  .inl 120,
  .inr (.inl (1, [some 44, some 45, some 46, some 47, some 48, some 49, some 50, some 51, some 52, some 53, some 54])),
  .inl 120,
  .inl 120,
  .inl 120,
  .inl 120,
  .inl 120,
  .inl 120,
  .inl 120,
  .inl 120,
  .inl 120,
  .inl 120,
  .inl 120,
  .inr (.inl (1, [some 56, some 57, some 58, some 59, some 60, some 61, some 62, some 63, some 64, some 65, some 66])),
  .inl 120,
  .inl 120,
  .inl 120,
  .inl 120,
  .inl 120,
  .inl 120,
  .inl 120,
  .inl 120,
  .inl 120,
  .inl 120,
  .inl 120,
  .inl 11,
  .inr (.inr (3, [some (some 3), some (some 13), some (some 26), some (some 69), some (some 70), none])),
  .inl 25,
  .inl 25,
  .inr (.inr (0, [none, none, some (some 72), some (some 73), some (some 74)])),
  .inl 0,
  .inl 1,
  .inl 1,
  .inr (.inr (0, [none, none, some (some 76), some (some 77), some (some 78)])),
  .inl 1,
  .inl 1,
  .inl 1,
  .inr (.inr (0, [none, none, some (some 80), some (some 81), some (some 82)])),
  .inl 4,
  .inl 2,
  .inl 2,
  .inr (.inr (0, [none, none, some (some 84), some (some 85), some (some 86)])),
  .inl 18,
  .inl 6,
  .inl 6,
  .inr (.inr (0, [none, none, some (some 88), some (some 89), some (some 90)])),
  .inl 96,
  .inl 24,
  .inl 24,
  .inr (.inr (0, [none, none, some (some 92), some (some 93), some (some 94)])),
  .inl 600,
  .inl 120,
  .inl 120,
  .inr (.inr (1, [some (some 3), some (some 29)])),
  .inr (.inr (9, [none, some (some 97), none, none, none, some (some 98), some (some 99), none, none, some (some 100), some (some 101), some (some 102), none, some (some 103), none, some (some 104), some (some 105), some (some 106), some (some 107), some (some 108), some (some 109), some (some 110), none, none, some (some 111), some (some 112), some (some 113), none, none])),
  .inl 100,
  .inl 10,
  .inl 10,
  .inl 10,
  .inl 10,
  .inl 10,
  .inl 1024,
  .inl 10,
  .inl 300,
  .inl 10,
  .inl 160,
  .inl 160,
  .inl 160,
  .inl 3600,
  .inl 1200,
  .inl 1200,
  .inl 10]
abbrev Gm (p : Program) (l : Launch) (e : Env) (s : State) (m : MethodId) (args : Array Value) (below : List Frame) (meth : Method) (c : Code) (D : va_G) (ads : AD) (fr lc nL : Nat) (po : Option AV → HI → HI → Prop) (I A : HI) (pc : Nat) (ls : List (Option AV)) (st : List AV) : Prop :=
  G p l e { frames := fr, cells := 0, slots := 0, locals := lc } s m args below meth c (MQ below (CPost D ads shp s.heap.size po) args s 0 0 (AdS ads s.heap.size)) D (AdS ads s.heap.size) nL 0 0 ads shp I A pc ls st
/-- fewer locals are known -/
def wkL : List (Option AV) → List (Option AV) → Prop
  | [], _ => True
  | none :: r, _ :: q => wkL r q
  | some v :: r, o :: q => o = some v ∧ wkL r q
  | _ :: _, [] => False
theorem wkL_get : ∀ {a b : List (Option AV)}, wkL a b → ∀ (i : Nat) (v : AV), a[i]? = some (some v) → b[i]? = some (some v)
  | [], _, _, i, v, h => by simp at h
  | none :: r, _ :: q, hw, i, v, h => by
    cases i with
    | zero => simp at h
    | succ i => rw [List.getElem?_cons_succ] at h ⊢; exact wkL_get (a := r) (b := q) hw i v h
  | some w :: r, o :: q, hw, i, v, h => by
    cases i with
    | zero => rw [List.getElem?_cons_zero] at h ⊢; cases h; rw [hw.1]
    | succ i => rw [List.getElem?_cons_succ] at h ⊢; exact wkL_get (a := r) (b := q) hw.2 i v h
  | none :: _, [], hw, _, _, _ => False.elim hw
  | some _ :: _, [], hw, _, _, _ => False.elim hw
section GW
variable {p : Program} {l : Launch} {e : Env} {R : Room} {s : State} {m : MethodId} {args : Array Value} {below : List Frame} {meth : Method} {c : Code} {Q : State → Prop} {D : va_G} {B : Nat → Prop} {nL cells slots : Nat} {ads : AD} {sh : SH} {I A : HI} {pc : Nat} {ls : List (Option AV)} {st : List AV} {cc : ByteArray} {own : String}
theorem g_weak {ls1 ls2 : List (Option AV)} (hl : ls1.length = ls2.length) (hw : wkL ls1 ls2) (k : G p l e R s m args below meth c Q D B nL cells slots ads sh I A pc ls1 st) : G p l e R s m args below meth c Q D B nL cells slots ads sh I A pc ls2 st :=
  fun H locs a hR hL => k H locs a hR ⟨hL.1, hl.trans hL.2.1, hL.2.2.1, fun i v h => hL.2.2.2 i v (wkL_get hw i v h)⟩
theorem g_alen (hC : CX p s m args meth c cc nL own B) {k n : Nat} (hd : decode cc pc = .ok (.arraylength, 1)) (hs : sh[k]? = some (.inl n)) (kk : G p l e R s m args below meth c Q D B nL cells slots ads sh I A (pc + 1) ls (.inl (Int32.ofNat n) :: st)) : G p l e R s m args below meth c Q D B nL cells slots ads sh I A pc ls (.inr (some k) :: st) := by
  intro H locs a hR hL
  obtain ⟨x, hx⟩ := ad_get hR hs
  obtain ⟨t, ht⟩ := tys_int hx hs
  have hw := wld_get (I := I) (A := A) hx hs
  have ha : adr ads k = x.1 := adr_of hx
  show W p l e R s m args below meth c H locs cells slots Q (F0 m pc a (.ref (adr ads k) :: st.map (cv ads)))
  rw [ha]
  exact va_alen hC.1 hC.2.1 hR.2.1 hR.2.2.1 k t hw ht rfl hd (kk H locs a hR hL)
end GW
/-! ends of contracts -/
def qI (v : Int32) (I A : HI) : Option AV → HI → HI → Prop := fun r I' A' => r = some (.inl v) ∧ I' = I ∧ A' = A
def qR (k : Nat) (I A : HI) : Option AV → HI → HI → Prop := fun r I' A' => r = some (.inr (some k)) ∧ I' = I ∧ A' = A
def qN (I A : HI) : Option AV → HI → HI → Prop := fun r I' A' => r = none ∧ I' = I ∧ A' = A
def qV (P : HI → HI → Prop) : Option AV → HI → HI → Prop := fun r I' A' => r = none ∧ P I' A'
def qJ (P : Int32 → HI → HI → Prop) : Option AV → HI → HI → Prop := fun r I' A' => ∃ v, r = some (.inl v) ∧ P v I' A'
def qK (P : HI → HI → Prop) (k : Nat) : Option AV → HI → HI → Prop := fun r I' A' => r = some (.inr (some k)) ∧ P I' A'
theorem k_qI {P : Option AV → HI → HI → Prop} {v : Int32} {I A : HI} (h : P (some (.inl v)) I A) : ∀ r I' A', qI v I A r I' A' → P r I' A' := by
  rintro r I' A' ⟨rfl, rfl, rfl⟩
  exact h
theorem k_qR {P : Option AV → HI → HI → Prop} {v : Nat} {I A : HI} (h : P (some (.inr (some v))) I A) : ∀ r I' A', qR v I A r I' A' → P r I' A' := by
  rintro r I' A' ⟨rfl, rfl, rfl⟩
  exact h
theorem k_qN {P : Option AV → HI → HI → Prop} {I A : HI} (h : P none I A) : ∀ r I' A', qN I A r I' A' → P r I' A' := by
  rintro r I' A' ⟨rfl, rfl, rfl⟩
  exact h
theorem k_qV {P : Option AV → HI → HI → Prop} {F : HI → HI → Prop} (h : ∀ I' A', F I' A' → P none I' A') : ∀ r I' A', qV F r I' A' → P r I' A' := by
  rintro r I' A' ⟨rfl, q⟩
  exact h I' A' q
theorem k_qJ {P : Option AV → HI → HI → Prop} {F : Int32 → HI → HI → Prop} (h : ∀ v I' A', F v I' A' → P (some (.inl v)) I' A') : ∀ r I' A', qJ F r I' A' → P r I' A' := by
  rintro r I' A' ⟨v, rfl, q⟩
  exact h v I' A' q
theorem k_qK {P : Option AV → HI → HI → Prop} {F : HI → HI → Prop} {k : Nat} (h : ∀ I' A', F I' A' → P (some (.inr (some k))) I' A') : ∀ r I' A', qK F k r I' A' → P r I' A' := by
  rintro r I' A' ⟨rfl, q⟩
  exact h I' A' q
theorem vin_lt {i : Int32} {n : Nat} (h : vp_in i n) : i.toNatClampNeg < n := Nat.not_le.mp fun q => h (Or.inr q)
theorem ra_14 : ∀ {j : Nat}, j < 10 → ([some 15, some 16, some 17, some 18, some 19, some 20, some 21, some 22, some 23, some 24] : List (Option Nat))[j]? = some (some (15 + j)) := by decide
theorem rw_14 {j : Nat} (h : j < 10) : shp[15 + j]? = some (.inl 26) := by
  match j, h with
  | 0, _ => rfl
  | 1, _ => rfl
  | 2, _ => rfl
  | 3, _ => rfl
  | 4, _ => rfl
  | 5, _ => rfl
  | 6, _ => rfl
  | 7, _ => rfl
  | 8, _ => rfl
  | 9, _ => rfl
theorem ra_31 : ∀ {j : Nat}, j < 11 → ([some 32, some 33, some 34, some 35, some 36, some 37, some 38, some 39, some 40, some 41, some 42] : List (Option Nat))[j]? = some (some (32 + j)) := by decide
theorem rw_31 {j : Nat} (h : j < 11) : shp[32 + j]? = some (.inl 120) := by
  match j, h with
  | 0, _ => rfl
  | 1, _ => rfl
  | 2, _ => rfl
  | 3, _ => rfl
  | 4, _ => rfl
  | 5, _ => rfl
  | 6, _ => rfl
  | 7, _ => rfl
  | 8, _ => rfl
  | 9, _ => rfl
  | 10, _ => rfl
theorem ra_43 : ∀ {j : Nat}, j < 11 → ([some 44, some 45, some 46, some 47, some 48, some 49, some 50, some 51, some 52, some 53, some 54] : List (Option Nat))[j]? = some (some (44 + j)) := by decide
theorem rw_43 {j : Nat} (h : j < 11) : shp[44 + j]? = some (.inl 120) := by
  match j, h with
  | 0, _ => rfl
  | 1, _ => rfl
  | 2, _ => rfl
  | 3, _ => rfl
  | 4, _ => rfl
  | 5, _ => rfl
  | 6, _ => rfl
  | 7, _ => rfl
  | 8, _ => rfl
  | 9, _ => rfl
  | 10, _ => rfl
theorem ra_55 : ∀ {j : Nat}, j < 11 → ([some 56, some 57, some 58, some 59, some 60, some 61, some 62, some 63, some 64, some 65, some 66] : List (Option Nat))[j]? = some (some (56 + j)) := by decide
theorem rw_55 {j : Nat} (h : j < 11) : shp[56 + j]? = some (.inl 120) := by
  match j, h with
  | 0, _ => rfl
  | 1, _ => rfl
  | 2, _ => rfl
  | 3, _ => rfl
  | 4, _ => rfl
  | 5, _ => rfl
  | 6, _ => rfl
  | 7, _ => rfl
  | 8, _ => rfl
  | 9, _ => rfl
  | 10, _ => rfl
theorem ra_30 : ∀ {j : Nat}, j < 6 → ([some 71, some 75, some 79, some 83, some 87, some 91] : List (Option Nat))[j]? = some (some (71 + 4 * j)) := by decide
theorem ch_sh {j : Nat} (h : j < 6) : ∃ fs, shp[71 + 4 * j]? = some (.inr (.inr (0, fs))) := by
  match j, h with
  | 0, _ => exact ⟨_, rfl⟩
  | 1, _ => exact ⟨_, rfl⟩
  | 2, _ => exact ⟨_, rfl⟩
  | 3, _ => exact ⟨_, rfl⟩
  | 4, _ => exact ⟨_, rfl⟩
  | 5, _ => exact ⟨_, rfl⟩
