/-! a small world at the end of a great one -/
def eC (b : Nat) : SC → SC
  | .inl n => .inl n
  | .inr (.inl f) => .inr (.inl (f.1, f.2.map (fun o => o.map (fun k => b + k))))
  | .inr (.inr o) => .inr (.inr (o.1, o.2.map (fun x => x.map (fun y => y.map (fun k => b + k)))))
def eV (b : Nat) : AV → AV
  | .inl v => .inl v
  | .inr o => .inr (o.map (fun k => b + k))
theorem adr_drop {ads : AD} {b j : Nat} : adr ads (b + j) = adr (ads.drop b) j := by
  unfold adr
  rw [List.getD_eq_getElem?_getD, List.getD_eq_getElem?_getD, List.getElem?_drop]
theorem cv_sh {ads : AD} {b : Nat} {v : AV} : cv ads (eV b v) = cv (ads.drop b) v := by
  match v with
  | .inl _ => rfl
  | .inr none => rfl
  | .inr (some k) => show Value.ref (adr ads (b + k)) = Value.ref (adr (ads.drop b) k); rw [adr_drop]
theorem wc_sh {ads : AD} {I A : HI} {b k : Nat} {x : Nat × ClassId} {c : SC} : wcell ads I A (b + k) (x, eC b c) = wcell (ads.drop b) (fun k => I (b + k)) (fun k => A (b + k)) k (x, c) := by
  match c with
  | .inl _ => rfl
  | .inr (.inl f) =>
    show (x.1, Sum.inl (x.2, (f.2.map (fun o => o.map (fun k => b + k))).length, Sum.inr (Sum.inr (Sum.inr (Sum.inr (fun i => ((f.2.map (fun o => o.map (fun k => b + k))).getD i none).map (adr ads))))))) = (x.1, Sum.inl (x.2, f.2.length, Sum.inr (Sum.inr (Sum.inr (Sum.inr (fun i => (f.2.getD i none).map (adr (ads.drop b))))))))
    have e : (fun i => ((f.2.map (fun o => o.map (fun k => b + k))).getD i none).map (adr ads)) = fun i => (f.2.getD i none).map (adr (ads.drop b)) := by
      funext i
      rw [List.getD_eq_getElem?_getD, List.getD_eq_getElem?_getD, List.getElem?_map]
      cases f.2[i]? with
      | none => rfl
      | some o =>
        cases o with
        | none => rfl
        | some k => show some (adr ads (b + k)) = some (adr (ads.drop b) k); rw [adr_drop]
    rw [e, List.length_map]
  | .inr (.inr o) =>
    show (x.1, Sum.inr (o.1, fsv ads I (b + k) (o.2.map (fun x => x.map (fun y => y.map (fun k => b + k)))))) = (x.1, Sum.inr (o.1, fsv (ads.drop b) (fun k => I (b + k)) k o.2))
    have e : fsv ads I (b + k) (o.2.map (fun x => x.map (fun y => y.map (fun k => b + k)))) = fsv (ads.drop b) (fun k => I (b + k)) k o.2 := by
      unfold fsv
      apply List.ext_getElem?
      intro i
      rw [List.getElem?_mapIdx, List.getElem?_mapIdx, List.getElem?_map]
      cases o.2[i]? with
      | none => rfl
      | some w =>
        match w with
        | none => rfl
        | some none => rfl
        | some (some r) => show some (Value.ref (adr ads (b + r))) = some (Value.ref (adr (ads.drop b) r)); rw [adr_drop]
    rw [e]
theorem ct_sh {x : Nat × ClassId} {b : Nat} {c : SC} : ctys (x, eC b c) = ctys (x, c) := by
  match c with
  | .inl _ => rfl
  | .inr (.inl _) => rfl
  | .inr (.inr _) => rfl
theorem wcell_kk {ads : AD} {I A I' A' : HI} {k : Nat} {q : (Nat × ClassId) × SC} (hI : I' k = I k) (hA : A' k = A k) : wcell ads I' A' k q = wcell ads I A k q := by
  unfold wcell fsv
  rw [hI, hA]
theorem wld_lo {ads : AD} {pre s2 : SH} {I A : HI} {b j : Nat} {q : Nat × va_E} (hb : pre.length = b) (hj : j < b) (h : (wld ads (pre ++ s2) I A)[j]? = some q) : ∃ x c, ads[j]? = some x ∧ pre[j]? = some c ∧ q = wcell ads I A j (x, c) := by
  obtain ⟨x, c, h1, h2, h3⟩ := wld_inv h
  rw [List.getElem?_append_left (by omega)] at h2
  exact ⟨x, c, h1, h2, h3⟩
theorem wld_hi {ads : AD} {pre shT : SH} {I A : HI} {b j : Nat} {q : Nat × va_E} (hb : pre.length = b) : (wld ads (pre ++ shT.map (eC b)) I A)[b + j]? = some q ↔ (wld (ads.drop b) shT (fun k => I (b + k)) (fun k => A (b + k)))[j]? = some q := by
  constructor
  · intro h
    obtain ⟨x, c, h1, h2, h3⟩ := wld_inv h
    rw [List.getElem?_append_right (by omega), hb, Nat.add_sub_cancel_left, List.getElem?_map] at h2
    cases z : shT[j]? with
    | none => rw [z] at h2; cases h2
    | some c0 =>
      rw [z] at h2
      cases h2
      rw [h3, wc_sh]
      exact wld_get (by rw [List.getElem?_drop]; exact h1) z
  · intro h
    obtain ⟨x, c, h1, h2, h3⟩ := wld_inv h
    rw [List.getElem?_drop] at h1
    rw [h3, ← wc_sh]
    exact wld_get h1 (by rw [List.getElem?_append_right (by omega), hb, Nat.add_sub_cancel_left, List.getElem?_map, h2]; rfl)
theorem tys_in {ads : AD} {sh : SH} {q : ClassId × FieldType} : q ∈ tysOf ads sh ↔ ∃ (j : Nat) (x : Nat × ClassId) (c : SC), ads[j]? = some x ∧ sh[j]? = some c ∧ ctys (x, c) = some q := by
  unfold tysOf
  rw [List.mem_filterMap]
  constructor
  · rintro ⟨⟨x, c⟩, h1, h2⟩
    obtain ⟨j, hj⟩ := List.getElem?_of_mem h1
    obtain ⟨a1, a2⟩ := List.getElem?_zip_eq_some.mp hj
    exact ⟨j, x, c, a1, a2, h2⟩
  · rintro ⟨j, x, c, h1, h2, h3⟩
    exact ⟨(x, c), List.mem_of_getElem? (zip_get h1 h2), h3⟩
theorem va_K.mem {D : va_G} {cl : List vw_C} {t1 t2 : List (ClassId × FieldType)} {U : State} (h : va_K D cl t1 U) (hs : ∀ q ∈ t2, q ∈ t1) : va_K D cl t2 U := by
  refine ⟨h.1, fun k q hk => ?_⟩
  obtain ⟨j, hj⟩ := List.getElem?_of_mem (hs q (List.mem_of_getElem? hk))
  exact h.2 j q hj
def glu (b : Nat) (f g : HI) : HI := fun k => if k < b then f k else g (k - b)
theorem glu_lo {b k : Nat} {f g : HI} (h : k < b) : glu b f g k = f k := if_pos h
theorem glu_hi {b : Nat} {f g : HI} : (fun k => glu b f g (b + k)) = g := by
  funext k
  unfold glu
  rw [if_neg (by omega), Nat.add_sub_cancel_left]
set_option maxHeartbeats 4000000 in
theorem CtG_emb {l : Launch} {y : MethodName} {cc : ByteArray} {nL fr lc mc ms : Nat} {D : va_G} {ads : AD} {pre shT shT' sh sh' : SH} {av avT : List AV} {I A : HI} {post : HI → HI → Prop} {b : Nat}
    (hM : ∀ adsT, CtG l y cc nL fr lc mc ms D adsT shT avT (fun k => I (b + k)) (fun k => A (b + k)) shT' post) (hsh : sh = pre ++ shT.map (eC b)) (hsh' : sh' = pre ++ shT'.map (eC b)) (hb : pre.length = b) (hok : pre.all (shIn sh.length) = true) (hav : av = avT.map (eV b)) : CtG l y cc nL fr lc mc ms D ads sh av I A sh' (fun I' A' => (∀ k, k < b → I' k = I k ∧ A' k = A k) ∧ post (fun k => I' (b + k)) (fun k => A' (b + k))) := by
  subst hsh hsh' hav
  intro sz p e hadm hfc hfk s m args below hfr happ hP hK
  obtain ⟨harg, hsz, hlen, hKk, hPp, hDd, hN, hE⟩ := hP
  rw [List.length_append, List.length_map, hb] at hlen
  have hdl : (ads.drop b).length = shT.length := by
    rw [List.length_drop]
    omega
  have ha : (avT.map (eV b)).map (cv ads) = avT.map (cv (ads.drop b)) := by
    rw [List.map_map]
    exact List.map_congr_left (fun v _ => cv_sh)
  rw [ha] at harg
  have hDT : va_D (fun _ => True) (wld (ads.drop b) shT (fun k => I (b + k)) (fun k => A (b + k))) := ⟨fun i j p q h1 h2 h3 => by
    have := hDd.1 _ _ _ _ ((wld_hi hb).mpr h1) ((wld_hi hb).mpr h2) h3
    omega, fun _ _ _ => trivial⟩
  obtain ⟨n, o, h1, h2, h3, ⟨⟨nw, I1, A1, ho, hl1, hp1, hP1, hD1, hK1⟩, hF1⟩, L, hFE, hLf⟩ := hM (ads.drop b) sz p e hadm hfc hfk s m args below hfr happ ⟨harg, hsz, hdl, hKk.mem (fun q hq => by
    obtain ⟨j, x, c, a1, a2, a3⟩ := tys_in.mp hq
    rw [List.getElem?_drop] at a1
    exact tys_in.mpr ⟨b + j, x, eC b c, a1, by rw [List.getElem?_append_right (by omega), hb, Nat.add_sub_cancel_left, List.getElem?_map, a2]; rfl, by rw [ct_sh]; exact a3⟩), fun k q hk => hPp (b + k) q ((wld_hi hb).mpr hk), hDT, hN, hE⟩ trivial
  have hdr : (ads ++ nw).drop b = ads.drop b ++ nw := List.drop_append_of_le_length (by omega)
  have sub : ∀ q, AdS (ads.drop b) sz q → AdS ads sz q := by
    rintro q (⟨k, x, z1, z2⟩ | z)
    · rw [List.getElem?_drop] at z1
      exact Or.inl ⟨b + k, x, z1, z2⟩
    · exact Or.inr z
  have hhi : ∀ j q, (wld (ads ++ nw) (pre ++ shT'.map (eC b)) (glu b I I1) (glu b A A1))[b + j]? = some q → (wld (ads.drop b ++ nw) shT' I1 A1)[j]? = some q := by
    intro j q h
    have := (wld_hi hb).mp h
    rw [glu_hi, glu_hi, hdr] at this
    exact this
  have hlo : ∀ j q, j < b → (wld (ads ++ nw) (pre ++ shT'.map (eC b)) (glu b I I1) (glu b A A1))[j]? = some q → (wld ads (pre ++ shT.map (eC b)) I A)[j]? = some q := by
    intro j q hj h
    obtain ⟨x, c, a1, a2, a3⟩ := wld_lo hb hj h
    rw [List.getElem?_append_left (by omega)] at a1
    have hc := List.all_eq_true.mp hok c (List.mem_of_getElem? a2)
    rw [List.length_append, List.length_map, hb, ← hlen] at hc
    rw [wcell_app hc, wcell_kk (glu_lo hj) (glu_lo hj)] at a3
    rw [a3]
    exact wld_get a1 (by rw [List.getElem?_append_left (by omega)]; exact a2)
  have hnot : ∀ j q, j < b → (wld ads (pre ++ shT.map (eC b)) I A)[j]? = some q → q.1 < sz ∧ ¬ AdS (ads.drop b) sz q.1 := by
    intro j q hj h
    have lt : q.1 < sz := by
      rw [← hsz]
      exact (hPp j q h).lt
    refine ⟨lt, ?_⟩
    rintro (⟨k, x, z1, z2⟩ | z)
    · have hk : k < shT.length := by
        rw [← hdl]
        exact (List.getElem?_eq_some_iff.mp z1).1
      have w := (wld_hi (I := I) (A := A) hb).mpr (wld_get z1 (List.getElem?_eq_getElem hk))
      have := hDd.1 _ _ _ _ h w z2
      omega
    · omega
  have cases2 : ∀ j q, (wld (ads ++ nw) (pre ++ shT'.map (eC b)) (glu b I I1) (glu b A A1))[j]? = some q → (j < b ∧ (wld ads (pre ++ shT.map (eC b)) I A)[j]? = some q) ∨ (∃ k, j = b + k ∧ (wld (ads.drop b ++ nw) shT' I1 A1)[k]? = some q) := by
    intro j q h
    rcases Nat.lt_or_ge j b with z | z
    · exact Or.inl ⟨z, hlo j q z h⟩
    · refine Or.inr ⟨j - b, by omega, hhi _ q ?_⟩
      rw [show b + (j - b) = j by omega]
      exact h
  refine ⟨n, o, h1, h2, h3, ⟨⟨nw, glu b I I1, glu b A A1, ho, ?_, ⟨fun k hk => ⟨glu_lo hk, glu_lo hk⟩, ?_⟩, ?_, ?_, ?_⟩, hF1.1, fun q z1 z2 => hF1.2 q z1 (fun w => z2 (sub q w))⟩, L, hFE, fun q hq => sub _ (hLf q hq)⟩
  · rw [List.length_append] at hl1 ⊢
    rw [List.length_append, List.length_map, hb]
    rw [hdl] at hl1
    omega
  · rw [glu_hi, glu_hi]
    exact hp1
  · intro j q h
    rcases cases2 j q h with ⟨z1, z2⟩ | ⟨k, z1, z2⟩
    · obtain ⟨w1, w2⟩ := hnot j q z1 z2
      exact (hPp j q z2).kept (hF1.2 q.1 (by rw [hsz]; exact w1) w2)
    · exact hP1 k q z2
  · refine ⟨fun i j p q a1 a2 a3 => ?_, fun j q h => ?_⟩
    · rcases cases2 i p a1 with ⟨z1, z2⟩ | ⟨k, z1, z2⟩
      · rcases cases2 j q a2 with ⟨y1, y2⟩ | ⟨k', y1, y2⟩
        · exact hDd.1 _ _ _ _ z2 y2 a3
        · exact absurd (by rw [a3]; exact hD1.2 k' q y2) (hnot i p z1 z2).2
      · rcases cases2 j q a2 with ⟨y1, y2⟩ | ⟨k', y1, y2⟩
        · exact absurd (by rw [← a3]; exact hD1.2 k p z2) (hnot j q y1 y2).2
        · have := hD1.1 _ _ _ _ z2 y2 a3
          omega
    · rcases cases2 j q h with ⟨z1, z2⟩ | ⟨k, z1, z2⟩
      · obtain ⟨x, c, a1, a2, a3⟩ := wld_inv z2
        exact Or.inl ⟨j, x, a1, by rw [a3]; rfl⟩
      · exact sub _ (hD1.2 k q z2)
  · have hKt := va_K.moved hFE.2.1.alike hKk
    refine ⟨hK1.1, fun k q hk => ?_⟩
    obtain ⟨j, x, c, a1, a2, a3⟩ := tys_in.mp (List.mem_of_getElem? hk)
    rcases Nat.lt_or_ge j b with z | z
    · rw [List.getElem?_append_left (by omega)] at a1 a2
      obtain ⟨j', hj'⟩ := List.getElem?_of_mem (tys_in.mpr ⟨j, x, c, a1, by rw [List.getElem?_append_left (by omega)]; exact a2, a3⟩ : q ∈ tysOf ads (pre ++ shT.map (eC b)))
      exact hKt.2 j' q hj'
    · rw [List.getElem?_append_right (by omega), hb, List.getElem?_map] at a2
      cases w : shT'[j - b]? with
      | none => rw [w] at a2; cases a2
      | some c0 =>
        rw [w] at a2
        cases a2
        rw [ct_sh] at a3
        obtain ⟨j', hj'⟩ := List.getElem?_of_mem (tys_in.mpr ⟨j - b, x, c0, by rw [← hdr, List.getElem?_drop, show b + (j - b) = j by omega]; exact a1, w, a3⟩ : q ∈ tysOf (ads.drop b ++ nw) shT')
        exact hK1.2 j' q hj'
