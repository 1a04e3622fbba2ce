section GS
variable {p : Program} {l : Launch} {e : Env} {R : Room} {s : State} {m : MethodId} {args : Array Value} {below : List Frame} {meth : Method} {c : Code} {Q : State → Prop} {D : va_G} {B : Nat → Prop} {nL cells slots : Nat} {ads : AD} {sh : SH} {I A : HI} {pc : Nat} {ls : List (Option AV)} {st : List AV} {cc : ByteArray} {own : String}
theorem g_loadi {i : Nat} {x : Int32} {a : Array Slot} (hL : LH ads nL ls a) (h : ls[i]? = some (some (.inl x))) : a[i]? = some (.val (.int x)) := hL.2.2.2 i (.inl x) h
theorem g_loada {i k : Nat} {a : Array Slot} (hL : LH ads nL ls a) (h : ls[i]? = some (some (.inr (some k)))) : a[i]? = some (.val (.ref (adr ads k))) := hL.2.2.2 i (.inr (some k)) h
theorem nar_z {x : Int32} (h : x = 0 ∨ x = 1) : narrow .boolean (.int x) = .int x ∧ fits .boolean (.int x) = true := by
  rcases h with rfl | rfl <;> decide +kernel
set_option maxHeartbeats 4000000 in
theorem g_get (hC : CX p s m args meth c cc nL own B) {idx ci k q : Nat} {fs : List (Option (Option Nat))} {o : Option (Option Nat)} (hd : decode cc pc = .ok (.getfield idx, 3)) (hw : fldw own idx ci k ∈ gtbl) (hs : sh[q]? = some (.inr (.inr (ci, fs)))) (hk : k < (clsN ci).2.2) (hf : fs[k]? = some o) {v : AV} (hv : fv ads (I q k) o = cv ads v)
    (kk : G p l e R s m args below meth c Q D B nL cells slots ads sh I A (pc + 3) ls (v :: st)) : G p l e R s m args below meth c Q D B nL cells slots ads sh I A pc ls (.inr (some q) :: st) := by
  intro H locs a hR hL
  obtain ⟨x, hx⟩ := ad_get hR hs
  have hwl := wld_get (I := I) (A := A) hx hs
  have ha : adr ads q = x.1 := adr_of hx
  obtain ⟨r, hr, -⟩ := hR.2.2.1 q _ hwl
  have hr : vwCl[ci]? = some r := hr
  have hn := cls_n hr
  unfold fldw at hw
  rw [hn] at hw hk
  show W p l e R s m args below meth c H locs cells slots Q (F0 m pc a (.ref (adr ads q) :: st.map (cv ads)))
  rw [ha]
  refine va_get (C := r.1) (T := r.2.1) (N := r.2.2) hC.1 hC.2.1 hC.2.2.2.2.1 (cls_in hr) hC.2.2.2.1 hR.2.1 hR.2.2.1 q hwl hr k hk (hC.2.2.2.2.1 _ hw) (fun _ h9 => h9) (fsv_get hf) hd ?_
  rw [hv]
  exact kk H locs a hR hL
set_option maxHeartbeats 4000000 in
theorem g_put (hC : CX p s m args meth c cc nL own B) {idx ci k q : Nat} {fs : List (Option (Option Nat))} {y : Int32} (hd : decode cc pc = .ok (.putfield idx, 3)) (hw : fldw own idx ci k ∈ gtbl) (hfin : ((clsN ci).2.1 k).2.2.2 = false) (hty : ((clsN ci).2.1 k).2.2.1 = "I" ∨ ((clsN ci).2.1 k).2.2.1 = "Z") (hs : sh[q]? = some (.inr (.inr (ci, fs)))) (hk : k < (clsN ci).2.2) (hy : ((clsN ci).2.1 k).2.2.1 = "I" ∨ y = 0 ∨ y = 1) (hf : fs[k]? = some none)
    (kk : G p l e R s m args below meth c Q D B nL cells slots ads sh (up2 I q k y) A (pc + 3) ls st) : G p l e R s m args below meth c Q D B nL cells slots ads sh I A pc ls (.inl y :: .inr (some q) :: st) := by
  intro H locs a hR hL
  obtain ⟨x, hx⟩ := ad_get hR hs
  have hwl := wld_get (I := I) (A := A) hx hs
  have ha : adr ads q = x.1 := adr_of hx
  obtain ⟨r, hr, -⟩ := hR.2.2.1 q _ hwl
  have hr : vwCl[ci]? = some r := hr
  have hn := cls_n hr
  unfold fldw at hw
  rw [hn] at hw hk hfin hty hy
  have hkl : k < (fsv ads I q fs).length := (List.getElem?_eq_some_iff.mp (fsv_get (ads := ads) (I := I) (k := q) hf)).1
  show W p l e R s m args below meth c H locs cells slots Q (F0 m pc a (.int y :: .ref (adr ads q) :: st.map (cv ads)))
  rw [ha]
  obtain ⟨ty, h1, h2, h3⟩ : ∃ ty, parseFieldDescriptor (r.2.1 k).2.2.1 = some ty ∧ narrow ty (.int y) = .int y ∧ fits ty (.int y) = true := by
    rcases hty with h | h
    · exact ⟨.int, by rw [h]; decide +kernel, rfl, rfl⟩
    · refine ⟨.boolean, by rw [h]; decide +kernel, nar_z (hy.resolve_left (by rw [h]; decide))⟩
  refine va_put (C := r.1) (T := r.2.1) (N := r.2.2) (ty := ty) hC.1 hC.2.1 hC.2.2.2.2.1 (cls_in hr) (tyN ci) (cls_ty hr).1 (cls_ty hr).2 hC.2.2.2.1 hR.2.1 hR.2.2.1 hR.2.2.2.1 hR.2.2.2.2 q hwl hr k hk (hC.2.2.2.2.1 _ hw) (fun _ h9 => h9) hfin h1 h2 h3 hkl hd (fun H1 locs1 hP hD hS => ?_)
  rw [wld_setI hx hs hf] at hP hD
  exact kk H1 locs1 a ⟨hR.1, hR.2.1, hP, hD, hS⟩ hL
theorem g_aald (hC : CX p s m args meth c cc nL own B) {i : Int32} {k : Nat} {f : Nat × List (Option Nat)} {r : Nat} (hd : decode cc pc = .ok (.aaload, 1)) (hs : sh[k]? = some (.inr (.inl f))) (hin : vp_in i f.2.length) (hr : f.2[i.toNatClampNeg]? = some (some r)) (kk : G p l e R s m args below meth c Q D B nL cells slots ads sh I A (pc + 1) ls (.inr (some r) :: st)) : G p l e R s m args below meth c Q D B nL cells slots ads sh I A pc ls (.inl i :: .inr (some k) :: st) := by
  intro H locs a hR hL
  obtain ⟨x, hx⟩ := ad_get hR hs
  obtain ⟨t, ht⟩ := tys_ref hx hs
  have hw := wld_get (I := I) (A := A) hx hs
  have ha : adr ads k = x.1 := adr_of hx
  have hlt : i.toNatClampNeg < f.2.length := (List.getElem?_eq_some_iff.mp hr).1
  have hty : (rty f.1).isReference = true := by
    unfold rty
    split <;> rfl
  show W p l e R s m args below meth c H locs cells slots Q (F0 m pc a (.int i :: .ref (adr ads k) :: st.map (cv ads)))
  rw [ha]
  refine W.aald (v := .ref (adr ads r)) (ty := rty f.1) hC.1 hC.2.1 (hR.2.2.1 k _ hw) ((hR.2.1.2 t _ ht).1 f.2.length (fun i => va_rf ((f.2.getD i none).map (adr ads)))) hty (fun q => by cases q) (by show ¬ (i < 0 ∨ (arrV _ _ _).slots.size ≤ _); rw [arrV_size]; exact hin) (by show (arrV _ _ _).slots[_]? = _; rw [arrV_read _ _ hlt]; show some (va_rf ((f.2.getD i.toNatClampNeg none).map (adr ads))) = _; rw [List.getD_eq_getElem?_getD, hr]; rfl) rfl rfl hd (kk H locs a hR hL)
set_option maxHeartbeats 8000000 in
theorem g_ps (hC : CX p s m args meth c cc nL own B) (x : AI) (ho : ok1 cc own pc x) {ls' : List (Option AV)} {st' : List AV} {I' : HI} (h : ps sh x (ls, st, I) = some (ls', st', I')) (kk : G p l e R s m args below meth c Q D B nL cells slots ads sh I' A (pc + lnA x.1) ls' st') : G p l e R s m args below meth c Q D B nL cells slots ads sh I A pc ls st := by
  obtain ⟨op, i, b, d, v⟩ := x
  have hx := hC.1
  have hb := hC.2.1
  match op, ho, h, kk with
  | 0, ho, h, kk =>
    obtain ⟨n, h1, h2⟩ := ho
    cases h
    exact fun H locs a hR hL => lv_iconst hx hb h1 h2 (kk H locs a hR hL)
  | 1, ho, h, kk =>
    obtain ⟨n, h1, h2⟩ := ho
    cases h
    exact fun H locs a hR hL => lv_bipush hx hb h1 h2 (kk H locs a hR hL)
  | 2, ho, h, kk =>
    obtain ⟨n, h1, h2⟩ := ho
    cases h
    exact fun H locs a hR hL => lv_sipush hx hb h1 h2 (kk H locs a hR hL)
  | 3, ho, h, kk =>
    obtain ⟨k, h1, h2⟩ := ho
    simp only [ps] at h
    split at h
    · rename_i z hz
      cases h
      exact fun H locs a hR hL => lv_iload_n hx hb h1 h2 (g_loadi hL hz) (kk H locs a hR hL)
    · cases h
  | 4, ho, h, kk =>
    simp only [ps] at h
    split at h
    · rename_i z hz
      cases h
      exact fun H locs a hR hL => lv_iload hx hb ho (g_loadi hL hz) (kk H locs a hR hL)
    · cases h
  | 5, ho, h, kk =>
    obtain ⟨k, h1, h2⟩ := ho
    simp only [ps] at h
    split at h
    · rename_i z hz
      cases h
      exact fun H locs a hR hL => lv_aload_n hx hb h1 h2 (g_loada hL hz) (kk H locs a hR hL)
    · cases h
  | 6, ho, h, kk =>
    simp only [ps] at h
    split at h
    · rename_i z hz
      cases h
      exact fun H locs a hR hL => lv_aload hx hb ho (g_loada hL hz) (kk H locs a hR hL)
    · cases h
  | 7, ho, h, kk =>
    obtain ⟨k, h1, h2⟩ := ho
    match st, h with
    | .inl z :: st, h =>
      simp only [ps] at h
      split at h
      · rename_i hi
        cases h
        exact fun H locs a hR hL => lv_istore_n hx hb h1 h2 hL.has (by rw [← hL.2.1]; exact hi) rfl (fun a' ha' => kk H locs a' hR (LH.set (v := .inl z) hL.2.1 ha'))
      · cases h
    | .inr z :: st, h => cases z <;> cases h
    | [], h => cases h
  | 8, ho, h, kk =>
    match st, h with
    | .inl z :: st, h =>
      simp only [ps] at h
      split at h
      · rename_i hi
        cases h
        exact fun H locs a hR hL => lv_istore hx hb ho hL.has (by rw [← hL.2.1]; exact hi) rfl (fun a' ha' => kk H locs a' hR (LH.set (v := .inl z) hL.2.1 ha'))
      · cases h
    | .inr z :: st, h => cases z <;> cases h
    | [], h => cases h
  | 9, ho, h, kk =>
    obtain ⟨k, h1, h2⟩ := ho
    match st, h with
    | .inr (some z) :: st, h =>
      simp only [ps] at h
      split at h
      · rename_i hi
        cases h
        exact fun H locs a hR hL => lv_astore_n hx hb h1 h2 hL.has (by rw [← hL.2.1]; exact hi) rfl (fun a' ha' => kk H locs a' hR (LH.set (v := .inr (some z)) hL.2.1 ha'))
      · cases h
    | .inr none :: st, h => cases h
    | .inl z :: st, h => cases h
    | [], h => cases h
  | 10, ho, h, kk =>
    match st, h with
    | .inr (some z) :: st, h =>
      simp only [ps] at h
      split at h
      · rename_i hi
        cases h
        exact fun H locs a hR hL => lv_astore hx hb ho hL.has (by rw [← hL.2.1]; exact hi) rfl (fun a' ha' => kk H locs a' hR (LH.set (v := .inr (some z)) hL.2.1 ha'))
      · cases h
    | .inr none :: st, h => cases h
    | .inl z :: st, h => cases h
    | [], h => cases h
  | 11, ho, h, kk =>
    obtain ⟨n, h1, h2⟩ := ho
    simp only [ps] at h
    split at h
    · rename_i z hz
      cases h
      refine fun H locs a hR hL => ?_
      obtain ⟨k0, hk0⟩ := List.getElem?_of_mem (lvl_mem (ads := ads) (i := i) (w := .int z) |>.mpr ⟨.inl z, hz, rfl⟩)
      exact lv_iinc hx hb h1 hL.has hk0 (by rw [h2]) (by rw [← hL.2.1]; exact (List.getElem?_eq_some_iff.mp hz).1) rfl (fun a' ha' => kk H locs a' hR (LH.set (v := .inl (z + v)) hL.2.1 ha'))
    · cases h
  | 12, ho, h, kk =>
    match st, h with
    | .inl y :: .inl z :: st, h => cases h; exact fun H locs a hR hL => lv_iadd hx hb ho (kk H locs a hR hL)
  | 13, ho, h, kk =>
    match st, h with
    | .inl y :: .inl z :: st, h => cases h; exact fun H locs a hR hL => lv_isub hx hb ho (kk H locs a hR hL)
  | 14, ho, h, kk =>
    match st, h with
    | .inl y :: .inl z :: st, h => cases h; exact fun H locs a hR hL => lv_imul hx hb ho (kk H locs a hR hL)
  | 15, ho, h, kk =>
    match st, h with
    | .inl y :: .inl z :: st, h => cases h; exact fun H locs a hR hL => lv_iand hx hb ho (kk H locs a hR hL)
  | 16, ho, h, kk =>
    match st, h with
    | .inl y :: .inl z :: st, h => cases h; exact fun H locs a hR hL => lv_ior hx hb ho (kk H locs a hR hL)
  | 17, ho, h, kk =>
    match st, h with
    | .inl y :: .inl z :: st, h => cases h; exact fun H locs a hR hL => lv_ixor hx hb ho (kk H locs a hR hL)
  | 18, ho, h, kk =>
    match st, h with
    | .inl y :: .inl z :: st, h => cases h; exact fun H locs a hR hL => lv_ishl hx hb ho (kk H locs a hR hL)
  | 19, ho, h, kk =>
    match st, h with
    | .inl y :: .inl z :: st, h => cases h; exact fun H locs a hR hL => lv_ishr hx hb ho (kk H locs a hR hL)
  | 20, ho, h, kk =>
    match st, h with
    | z :: st, h => cases h; exact fun H locs a hR hL => lv_dup hx hb ho (cv_cat ads z) (kk H locs a hR hL)
  | 21, ho, h, kk =>
    match st, h with
    | z :: st, h => cases h; exact fun H locs a hR hL => lv_pop hx hb ho (cv_cat ads z) (kk H locs a hR hL)
  | 22, ho, h, kk =>
    match st, h with
    | z :: y :: st, h => cases h; exact fun H locs a hR hL => lv_dup2_11 hx hb ho (cv_cat ads z) (cv_cat ads y) (kk H locs a hR hL)
  | 23, ho2, h2, kk2 =>
    match st, h2 with
    | .inr (some q) :: st, h3 =>
      simp only [ps] at h3
      split at h3
      · rename_i cj fs hs
        split at h3
        · rename_i hc
          obtain ⟨rfl, hk⟩ := hc
          split at h3
          · rename_i hf
            cases h3
            exact g_get hC ho2.1 ho2.2 hs hk hf rfl kk2
          · rename_i r hf
            cases h3
            exact g_get hC ho2.1 ho2.2 hs hk hf rfl kk2
          · cases h3
        · cases h3
      · cases h3
  | 24, ho2, h2, kk2 =>
    match st, h2 with
    | .inl y :: .inr (some q) :: st, h3 =>
      simp only [ps] at h3
      split at h3
      · rename_i cj fs hs
        split at h3
        · rename_i hc
          obtain ⟨rfl, hk⟩ := hc
          split at h3
          · rename_i hf
            cases h3
            exact g_put hC ho2.1 ho2.2.1 ho2.2.2.1 (Or.inl ho2.2.2.2) hs hk (Or.inl ho2.2.2.2) hf kk2
          · cases h3
        · cases h3
      · cases h3
  | 25, ho2, h2, kk2 =>
    match st, h2 with
    | .inl y :: .inr (some q) :: st, h3 =>
      simp only [ps] at h3
      split at h3
      · rename_i cj fs hs
        split at h3
        · rename_i hc
          obtain ⟨rfl, hk, hy⟩ := hc
          split at h3
          · rename_i hf
            cases h3
            exact g_put hC ho2.1 ho2.2.1 ho2.2.2.1 (Or.inr ho2.2.2.2) hs hk (Or.inr hy) hf kk2
          · cases h3
        · cases h3
      · cases h3
  | 26, ho, h, kk =>
    cases h
    exact fun H locs a hR hL => lv_ldc hx hb hC.2.2.2.1 (hC.2.2.2.2.1 _ ho.2) ho.1 (kk H locs a hR hL)
  | 27, ho, h, kk =>
    match st, h with
    | .inr (some q) :: st, h =>
      simp only [ps] at h
      split at h
      · rename_i n hs
        cases h
        intro H locs a hR hL
        obtain ⟨x, hx9⟩ := ad_get hR hs
        obtain ⟨t, ht⟩ := tys_int hx9 hs
        have hw := wld_get (I := I) (A := A) hx9 hs
        have ha : adr ads q = x.1 := adr_of hx9
        show W p l e R s m args below meth c H locs cells slots Q (F0 m pc a (.ref (adr ads q) :: st.map (cv ads)))
        rw [ha]
        exact va_alen hx hb hR.2.1 hR.2.2.1 q t hw ht rfl ho (kk H locs a hR hL)
      · cases h
  | n + 28, ho, h, kk => exact ho.elim
end GS
