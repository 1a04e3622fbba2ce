/-! findItems -/
noncomputable def drw (w : Nat → Int32) (n : Nat) : Bool := (List.range n).all (fun q => decide ((itL w q).length ≤ 5))
theorem drw_s (w : Nat → Int32) (n : Nat) : drw w (n + 1) = (drw w n && decide ((itL w n).length ≤ 5)) := by
  unfold drw
  rw [List.range_succ, List.all_append]
  simp
def ItOK (w : Nat → Int32) (I A : HI) : Prop := MRow w I A ∧ ShM A (itL w) ∧ LkM w A (fun l => kT w 100 l) ∧ I 96 14 = if drw w (nLay w) then 1 else 0
def fIt (I A I' A' : HI) : Prop := offA [100, 101, 102, 103, 104, 105, 106, 107, 108, 109] A A' ∧ offI [(96, 7), (96, 8), (96, 12), (96, 14)] I I' ∧ ItOK (A 97) I' A'
theorem itT_mem {w : Nat → Int32} {p j l y : Nat} (h : y ∈ itT w p j l) : y < p ∨ ∃ t, t < j ∧ y = 100 + t := by
  unfold itT pT bT at h
  rw [List.mem_append] at h
  rcases h with h | h
  · exact Or.inl (List.mem_range.mp (List.mem_filter.mp h).1)
  · obtain ⟨t, ht, rfl⟩ := List.mem_map.mp h
    exact Or.inr ⟨t, List.mem_range.mp (List.mem_filter.mp ht).1, rfl⟩
theorem uBt_iff {w : Nat → Int32} {p : Nat} (hp : p < 10) : uBt (nI (um w)) (nI p) = 0 ↔ usd w p = false := by
  have hb := bt1 (F := um w) (q := p) (by have := um_lt w; omega) (by omega)
  have e : (um w).testBit p = usd w p := by rw [um, mkM_bit]; simp [hp]
  unfold uBt
  by_cases z : (nI (um w) >>> (nI p &&& 31)) &&& 1 = 1
  · rw [if_pos z]
    have := hb.mp z
    rw [e] at this
    rw [this]
    decide
  · rw [if_neg z]
    have : usd w p = false := by
      cases q : usd w p
      · rfl
      · exact absurd (hb.mpr (by rw [e, q])) z
    rw [this]
    decide
theorem puts_pre {I A : HI} {T : Nat → List Nat} (h : ShM A T) {l x : Nat} (hl : l < 10) (hT : (T l).length < 30) (hx : x < 2 ^ 31) (hm : ∀ y ∈ T l, y ≤ x) : puts0 I A (nI l) (nI x) :=
  ⟨l, (T l).length, hl, hT, rfl, (h l hl).1, fun h0 => h.last hl hx hm h0⟩
theorem ShM.off {A A' : HI} {T : Nat → List Nat} (h : ShM A T) (e4 : A' 104 = A 104) (e5 : A' 105 = A 105) : ShM A' T := fun l hl => by rw [e4, e5]; exact h l hl
theorem ix_16 (l i : Nat) : 16 * nI l + nI i = nI (16 * l + i) := by
  rw [show (16 : Int32) = nI 16 from rfl, pk_mul, nI_add]
set_option maxHeartbeats 16000000 in
theorem c_X9_findItems (l : Launch) (D : va_G) (ads : AD) (I A : HI) (hp : FO (A 97)) : Ct l yX9_findItems cX9_findItems 5 none 2 48 D ads shp [.inr (some 96)] I A (qV (fIt I A)) := by
  refine k_X9_findItems l D ads I A _ (c_X9_findRow l D ads) (c_X9_find l D ads) (c_X9_puts l D ads)
    (fun _ A2 x A' => ∃ q, q ≤ 10 ∧ x = nI q ∧ offA [104, 106] A2 A' ∧ ∀ t, t < q → A' 104 t = 0 ∧ A' 106 t = 0)
    (fun _ _ x _ => 10 - x.toNatClampNeg)
    (fun I2 A2 _ _ x I' A' => ∃ p, p ≤ 10 ∧ x = nI p ∧ I' = I2 ∧ offA [104, 105, 106] A2 A' ∧ (∀ t, t < 10 → A' 106 t = 0) ∧ ShM A' (fun l => itT (A 97) p 0 l))
    (fun _ _ _ _ x _ _ => 10 - x.toNatClampNeg)
    (fun I2 A2 _ _ _ _ _ x I' A' => ∃ a, a ≤ 10 ∧ x = nI a ∧ I' = I2 ∧ offA [104, 105, 106] A2 A' ∧ (∀ t, t < 10 → A' 106 t = 0) ∧ ShM A' (fun l => itT (A 97) 10 (10 * a) l))
    (fun _ _ _ _ _ _ _ x _ _ => 10 - x.toNatClampNeg)
    (fun I2 _ _ _ _ _ _ _ _ _ x I' => ∃ q, q ≤ nLay (A 97) ∧ x = nI q ∧ I' = up2 I2 96 14 (if drw (A 97) q then 1 else 0))
    (fun _ _ _ _ _ _ _ _ _ _ x _ => 10 - x.toNatClampNeg)
    (fun _ A2 _ _ _ _ _ _ _ _ _ _ x A' => ∃ a, a ≤ 10 ∧ x = nI a ∧ offA [104, 105, 106, 107, 108, 109] A2 A' ∧ ShM A' (itL (A 97)) ∧ LkM (A 97) A' (fun l => kT (A 97) (10 * a) l))
    (fun _ _ _ _ _ _ _ _ _ _ _ _ x _ => 10 - x.toNatClampNeg)
    (fun _ A2 _ _ _ _ _ _ _ _ _ _ y _ x A' => ∃ a b, a < 10 ∧ b ≤ 10 ∧ y = nI a ∧ x = nI b ∧ offA [104, 105, 106, 107, 108, 109] A2 A' ∧ ShM A' (itL (A 97)) ∧ LkM (A 97) A' (fun l => kT (A 97) (10 * a + b) l))
    (fun _ _ _ _ _ _ _ _ _ _ _ _ _ _ x _ => 10 - x.toNatClampNeg)
    (fun _ A2 _ _ _ _ _ _ _ _ _ _ y _ z _ x A' => ∃ a b l0, a < 10 ∧ b < 10 ∧ y = nI a ∧ z = nI b ∧ layF (A 97) a ≤ l0 ∧ l0 ≤ layF (A 97) b ∧ x = nI l0 ∧ offA [104, 105, 106, 107, 108, 109] A2 A' ∧ ShM A' (itL (A 97)) ∧ LkM (A 97) A' (fun l => mkT (A 97) (10 * a + b) l0 l))
    (fun _ _ _ _ _ _ _ _ _ _ _ _ _ _ _ _ x _ => 20 - x.toNatClampNeg)
    (fun I2 A2 _ _ _ _ _ y _ _ x I' A' => ∃ a b, a < 10 ∧ b ≤ 10 ∧ y = nI a ∧ x = nI b ∧ I' = I2 ∧ offA [104, 105, 106] A2 A' ∧ (∀ t, t < 10 → A' 106 t = 0) ∧ ShM A' (fun l => itT (A 97) 10 (10 * a + b) l))
    (fun _ _ _ _ _ _ _ _ _ _ x _ _ => 10 - x.toNatClampNeg)
    (fun I2 A2 _ _ _ _ _ y _ _ z _ _ x I' A' => ∃ a b l0, a < 10 ∧ b < 10 ∧ y = nI a ∧ z = nI b ∧ layF (A 97) a < l0 ∧ l0 ≤ layF (A 97) b ∧ x = nI l0 ∧ I' = I2 ∧ offA [104, 105, 106] A2 A' ∧ (∀ t, t < 10 → A' 106 t = 0) ∧ ShM A' (fun l => mdT (A 97) (10 * a + b) l0 l))
    (fun _ _ _ _ _ _ _ _ _ _ _ _ _ x _ _ => 20 - x.toNatClampNeg) ⟨hp, ?_⟩
  rintro I2 A2 ⟨oA, oI, hM⟩
  obtain ⟨m1, m2, m3, m4, m5, m6⟩ := id hM
  have e97 : A2 97 = A 97 := oA 97 (by decide)
  have hN10 := nLay_le (A 97)
  refine ⟨⟨0, Nat.zero_le _, rfl, offA.rf, fun t h => absurd h (Nat.not_lt_zero t)⟩, ?_⟩
  rintro x A3 ⟨q, hq, rfl, o3, z3⟩
  refine ⟨fun h => ?_, fun h => ?_⟩
  · have e := cn_eq rfl hq (by decide) h
    subst e
    refine ⟨⟨0, Nat.zero_le _, rfl, rfl, o3.sub (by decide), fun t ht => (z3 t ht).2, fun t ht => ⟨(z3 t ht).1, fun i hi => absurd hi (Nat.not_lt_zero i)⟩⟩, ?_⟩
    rintro x I4 A4 ⟨p, hp9, rfl, rfl, o4, z4, s4⟩
    refine ⟨fun h => ?_, fun h => ?_⟩
    · have e := cn_eq rfl hp9 (by decide) h
      subst e
      refine ⟨⟨0, Nat.zero_le _, rfl, rfl, o4, z4, s4⟩, ?_⟩
      rintro x I5 A5 ⟨a, ha, rfl, rfl, o5, z5, s5⟩
      refine ⟨fun h => ?_, fun h => ?_⟩
      · have e := cn_eq rfl ha (by decide) h
        subst e
        refine ⟨⟨0, Nat.zero_le _, rfl, rfl⟩, ?_⟩
        rintro x I6 ⟨q, hq, rfl, rfl⟩
        rw [up2_j (show (12 : Nat) ≠ 14 by decide), m6]
        refine ⟨fun h => ?_, fun h => ?_⟩
        · have e := cn_eq rfl hq (by omega) h
          subst e
          refine ⟨⟨0, Nat.zero_le _, rfl, o5.sub (by decide), s5, fun t ht => ⟨z5 t ht, fun i hi => absurd hi (Nat.not_lt_zero i)⟩⟩, ?_⟩
          rintro x A7 ⟨a, ha, rfl, o7, s7, k7⟩
          refine ⟨fun h => ?_, fun h => ?_⟩
          · have e := cn_eq rfl ha (by decide) h
            subst e
            refine qV_i ⟨fun k hk => ?_, fun k j hkj => ?_, ⟨?_, ?_, fun k hk => ?_, fun p a b => ?_, fun p a b => ?_, ?_⟩, s7, k7, up2_s⟩
            · have h1 : k ∉ ([104, 105, 106, 107, 108, 109] : List Nat) := fun z => hk (by
                simp only [List.mem_cons, List.not_mem_nil, or_false] at z ⊢
                omega)
              have h2 : k ∉ ([100, 101, 102, 103] : List Nat) := fun z => hk (by
                simp only [List.mem_cons, List.not_mem_nil, or_false] at z ⊢
                omega)
              rw [o7 k h1, oA k h2]
            · unfold up2
              rw [if_neg (fun e => hkj (by rw [e.1, e.2]; decide))]
              exact oI k j (fun z => hkj (by
                simp only [List.mem_cons, List.not_mem_nil, or_false, Prod.mk.injEq] at z ⊢
                omega))
            · rw [up2_j (by decide)]; exact m1
            · rw [up2_j (by decide)]; exact m2
            · rw [o7 100 (by decide)]; exact m3 k hk
            · rw [o7 101 (by decide)]; exact m4 p a b
            · rw [o7 102 (by decide)]; exact m5 p a b
            · rw [up2_j (by decide)]; exact m6
          · have ha2 := cn_lt rfl ha (by decide) h
            refine ⟨⟨a, 0, ha2, Nat.zero_le _, rfl, rfl, o7, s7, k7⟩, ?_⟩
            rintro x A8 ⟨a', b, ha', hb, ea, rfl, o8, s8, k8⟩
            have ea : a' = a := ((nI_eq (by omega) (by omega)).mp ea).symm
            subst ea
            refine ⟨fun h => ?_, fun h => ?_⟩
            · have e := cn_eq rfl hb (by decide) h
              subst e
              exact ⟨⟨a' + 1, ha2, nI_1 a', o8, s8, k8⟩, cn_mu ha2 (by decide)⟩
            · have hb2 := cn_lt rfl hb (by decide) h
              have va : vp_in (nI a') 10 := vp_in_nI ha2 (by decide)
              have vb : vp_in (nI b) 10 := vp_in_nI hb2 (by decide)
              have hmu : 10 - (nI b + 1).toNatClampNeg < 10 - (nI b).toNatClampNeg := cn_mu hb2 (by decide)
              obtain ⟨d1, d2⟩ := dm10 (a := a') hb2
              have hiS := isS_iff (w := A 97) (sp := A2 101) m4 ha2 hb2
              rw [o8 97 (by decide), e97, o8 101 (by decide), hiS]
              refine ⟨⟨va, vb⟩, fun h7 => ?_, fun h7 => ⟨⟨a', b + 1, ha2, hb2, rfl, nI_1 b, o8, s8, ?_⟩, hmu⟩⟩
              · have hs : stB (A 97) (10 * a' + b) = true := by
                  cases z : stB (A 97) (10 * a' + b)
                  · exact absurd z h7
                  · rfl
                obtain ⟨u1, u2, u3⟩ := st_lay hp (show 10 * a' + b < 100 by omega) hs
                rw [d1] at u1 u3
                rw [d2] at u2 u3
                have n1 := lay_lt ha2 u1
                have n2 := lay_lt hb2 u2
                rw [cl_n (show a' < 2 ^ 31 by omega), o8 102 (by decide), m5 a' ha2 u1]
                refine ⟨va, ⟨a', b, layF (A 97) a', ha2, hb2, rfl, rfl, Nat.le_refl _, by omega, rfl, o8, s8, ?_⟩, ?_⟩
                · have := mkT_0 (w := A 97) (j := 10 * a' + b)
                  rw [d1] at this
                  rw [this]
                  exact k8
                rintro x A9 ⟨a9, b9, l0, ha9, hb9, ea, eb, hl1, hl2, rfl, o9, s9, k9⟩
                have ea : a9 = a' := ((nI_eq (by omega) (by omega)).mp ea).symm
                have eb : b9 = b := ((nI_eq (by omega) (by omega)).mp eb).symm
                subst ea
                subst eb
                rw [cl_n (show b9 < 2 ^ 31 by omega), o9 102 (by decide), m5 b9 hb2 u2]
                refine ⟨vb, fun h6 => ⟨⟨a9, b9 + 1, ha2, hb2, rfl, nI_1 b9, o9, s9, ?_⟩, ?_⟩, fun h6 => ?_⟩
                · have hle := (nI_leI (by omega) (by omega)).mp h6
                  have := mkT_e (w := A 97) (j := 10 * a9 + b9) (l0 := l0) (by rw [d2]; omega)
                  rw [this] at k9
                  exact k9
                · rw [nI_1, cl_n (by omega)]
                  omega
                · have hlt : l0 < layF (A 97) b9 := (nI_ltI (by omega) (by omega)).mp (nle h6)
                  have g1 : layF (A 97) ((10 * a9 + b9) / 10) ≤ l0 := by rw [d1]; exact hl1
                  have g2 : l0 < layF (A 97) ((10 * a9 + b9) % 10) := by rw [d2]; exact hlt
                  have hlen : (mkT (A 97) (10 * a9 + b9) l0 l0).length < 16 := mkT_len hp (by omega) hs g1 g2
                  have hK9 : ∀ q, q < 10 → (mkT (A 97) (10 * a9 + b9) l0 q).length ≤ 16 := by
                    intro q _
                    unfold mkT
                    split
                    · exact kT_len hp (by omega) q
                    · exact kT_len hp (by omega) q
                  have h106 : A9 106 l0 = nI (mkT (A 97) (10 * a9 + b9) l0 l0).length := (k9 l0 (by omega)).1
                  have hadd := k9.add (j := 10 * a9 + b9) (l := l0) (by omega) hlen hK9
                  rw [← mkT_s hs g1 g2] at hadd
                  have hid1 := itm_id (w := A 97) (lay := A2 102) m5 ha2 hb2 u1 u2 (l := l0) (by omega)
                  have hid2 := itm_id (w := A 97) (lay := A2 102) m5 ha2 hb2 u1 u2 (l := l0 + 1) (by omega)
                  have mem1 : idN (A 97) (10 * a9 + b9) l0 ∈ itL (A 97) l0 := mem_id hp (by omega) hs g1 (by omega)
                  have mem2 : idN (A 97) (10 * a9 + b9) (l0 + 1) ∈ itL (A 97) (l0 + 1) := mem_id hp (by omega) hs (by omega) g2
                  have f1 := fun I0 => fnd_is (I := I0) s9 hp (show l0 < 10 by omega) mem1
                  generalize hkk : (mkT (A 97) (10 * a9 + b9) l0 l0).length = kk at h106 hlen hadd
                  have s9' : ShM (up2 A9 107 (16 * l0 + kk) (nI (ixN (itL (A 97) l0) (idN (A 97) (10 * a9 + b9) l0)))) (itL (A 97)) := s9.off (up2_off (by decide)) (up2_off (by decide))
                  have f2 := fun I0 => fnd_is (I := I0) s9' hp (show l0 + 1 < 10 by omega) mem2
                  have c1 : (nI l0).toNatClampNeg = l0 := cl_n (by omega)
                  have c2 : (nI (16 * l0 + kk)).toNatClampNeg = 16 * l0 + kk := cl_n (by omega)
                  have c3 : (nI (10 * a9 + b9)).toNatClampNeg = 10 * a9 + b9 := cl_n (by omega)
                  have u102 : ∀ v, (up2 A9 107 (16 * l0 + kk) v) 102 = A2 102 := fun v => (up2_off (by decide)).trans (o9 102 (by decide))
                  have u97 : ∀ v v', (up2 (up2 A9 107 (16 * l0 + kk) v) 108 (16 * l0 + kk) v') 97 = A 97 := fun v v' => (up2_off (by decide)).trans ((up2_off (by decide)).trans ((o9 97 (by decide)).trans e97))
                  have u106 : ∀ v v' v'', (up2 (up2 (up2 A9 107 (16 * l0 + kk) v) 108 (16 * l0 + kk) v') 109 (16 * l0 + kk) v'') 106 l0 = nI kk := fun v v' v'' => by rw [up2_k (by decide), up2_k (by decide), up2_k (by decide)]; exact h106
                  simp only [c1, h106, ix_16, c2, hid1, fun I0 => (f1 I0).2, nI_1, u102, hid2, fun I0 => (f2 I0).2, ix_b, c3, u97, u106]
                  have vl : vp_in (nI l0) 10 := vp_in_nI (by omega) (by decide)
                  have v16 : vp_in (nI (16 * l0 + kk)) 160 := vp_in_nI (by omega) (by decide)
                  refine ⟨vl, ⟨va, vb⟩, (f1 _).1, v16, ⟨va, vb⟩, (f2 _).1, v16, vp_in_nI (by omega) (by decide), v16, vl, vl, ⟨a9, b9, l0 + 1, ha2, hb2, rfl, rfl, by omega, hlt, rfl, (((o9.up (by decide)).up (by decide)).up (by decide)).up (by decide), ?_, hadd⟩, ?_⟩
                  · refine s9.off ?_ ?_
                    · rw [up2_off (by decide), up2_off (by decide), up2_off (by decide), up2_off (by decide)]
                    · rw [up2_off (by decide), up2_off (by decide), up2_off (by decide), up2_off (by decide)]
                  · rw [cl_n (show l0 + 1 < 2 ^ 31 by omega)]
                    omega
              · have := kT_nst h7
                show LkM (A 97) A8 (fun l => kT (A 97) (10 * a' + b + 1) l)
                rw [this]
                exact k8
        · have hq2 := cn_lt rfl hq (by omega) h
          have hlen : (itL (A 97) q).length ≤ 26 := itT_len hp (Nat.le_refl _) (Nat.le_refl _) q
          have h104 : A5 104 q = nI (itL (A 97) q).length := (s5 q (by omega)).1
          rw [cl_n (show q < 2 ^ 31 by omega), h104]
          have h5 : nI (itL (A 97) q).length ≤ 5 ↔ (itL (A 97) q).length ≤ 5 := nI_leI (b := 5) (by omega) (by decide)
          have hmu : 10 - (nI q + 1).toNatClampNeg < 10 - q := by
            rw [nI_1, cl_n (by omega)]
            omega
          refine ⟨vp_in_nI (by omega) (by decide), fun h7 => ⟨⟨q + 1, hq2, nI_1 q, ?_⟩, hmu⟩, fun h7 => ⟨⟨q + 1, hq2, nI_1 q, ?_⟩, hmu⟩⟩
          · rw [drw_s]
            simp [h5.mp h7]
          · rw [drw_s, up2_2]
            simp [show ¬ (itL (A 97) q).length ≤ 5 from fun z => h7 (h5.mpr z)]
      · have ha2 := cn_lt rfl ha (by decide) h
        refine ⟨⟨a, 0, ha2, Nat.zero_le _, rfl, rfl, rfl, o5, z5, s5⟩, ?_⟩
        rintro x I6 A6 ⟨a', b, ha', hb, ea, rfl, rfl, o6, z6, s6⟩
        have ea : a' = a := ((nI_eq (by omega) (by omega)).mp ea).symm
        subst ea
        refine ⟨fun h => ?_, fun h => ?_⟩
        · have e := cn_eq rfl hb (by decide) h
          subst e
          exact ⟨⟨a' + 1, ha2, nI_1 a', rfl, o6, z6, s6⟩, cn_mu ha2 (by decide)⟩
        · have hb2 := cn_lt rfl hb (by decide) h
          have va : vp_in (nI a') 10 := vp_in_nI ha2 (by decide)
          have vb : vp_in (nI b) 10 := vp_in_nI hb2 (by decide)
          have hmu : 10 - (nI b + 1).toNatClampNeg < 10 - (nI b).toNatClampNeg := cn_mu hb2 (by decide)
          obtain ⟨d1, d2⟩ := dm10 (a := a') hb2
          have hiS := isS_iff (w := A 97) (sp := A2 101) m4 ha2 hb2
          rw [o6 97 (by decide), e97, o6 101 (by decide), hiS]
          refine ⟨⟨va, vb⟩, fun h7 => ⟨⟨a', b + 1, ha2, hb2, rfl, nI_1 b, rfl, o6, z6, ?_⟩, hmu⟩, fun h7 => ?_⟩
          · have := itT_nst h7
            show ShM A6 (fun l => itT (A 97) 10 (10 * a' + b + 1) l)
            rw [this]
            exact s6
          · have hs : stB (A 97) (10 * a' + b) = true := by
              cases z : stB (A 97) (10 * a' + b)
              · exact absurd z h7
              · rfl
            obtain ⟨u1, u2, u3⟩ := st_lay hp (show 10 * a' + b < 100 by omega) hs
            rw [d1] at u1 u3
            rw [d2] at u2 u3
            have n1 := lay_lt ha2 u1
            have n2 := lay_lt hb2 u2
            rw [cl_n (show a' < 2 ^ 31 by omega), o6 102 (by decide), m5 a' ha2 u1]
            refine ⟨va, ⟨a', b, layF (A 97) a' + 1, ha2, hb2, rfl, rfl, by omega, by omega, nI_1 _, rfl, o6, z6, ?_⟩, ?_⟩
            · have := mdT_0 (w := A 97) (j := 10 * a' + b)
              rw [d1] at this
              rw [this]
              exact s6
            rintro x I9 A9 ⟨a9, b9, l0, ha9, hb9, ea, eb, hl1, hl2, rfl, rfl, o9, z9, s9⟩
            have ea : a9 = a' := ((nI_eq (by omega) (by omega)).mp ea).symm
            have eb : b9 = b := ((nI_eq (by omega) (by omega)).mp eb).symm
            subst ea
            subst eb
            rw [cl_n (show b9 < 2 ^ 31 by omega), o9 102 (by decide), m5 b9 hb2 u2]
            refine ⟨vb, fun h6 => ⟨⟨a9, b9 + 1, ha2, hb2, rfl, nI_1 b9, rfl, o9, z9, ?_⟩, ?_⟩, fun h6 => ?_⟩
            · have hle := (nI_leI (by omega) (by omega)).mp h6
              have := mdT_e (w := A 97) (j := 10 * a9 + b9) (l0 := l0) (by rw [d2]; omega)
              rw [this] at s9
              exact s9
            · rw [nI_1, cl_n (by omega)]
              omega
            · have hlt : l0 < layF (A 97) b9 := (nI_ltI (by omega) (by omega)).mp (nle h6)
              have g1 : layF (A 97) ((10 * a9 + b9) / 10) < l0 := by rw [d1]; exact hl1
              have g2 : l0 < layF (A 97) ((10 * a9 + b9) % 10) := by rw [d2]; exact hlt
              have hlen := mdT_len hp (show 10 * a9 + b9 < 100 by omega) hs g1 g2
              have hT9 : ∀ q, q < 10 → (mdT (A 97) (10 * a9 + b9) l0 q).length ≤ 29 := by
                intro q _
                have h1 := itT_len hp (p := 10) (j := 10 * a9 + b9 + 1) (Nat.le_refl _) (by omega) q
                have h2 := itT_len hp (p := 10) (j := 10 * a9 + b9) (Nat.le_refl _) (by omega) q
                unfold mdT
                split <;> omega
              have hmem : ∀ y ∈ mdT (A 97) (10 * a9 + b9) l0 l0, y ≤ 100 + (10 * a9 + b9) := by
                intro y hy
                unfold mdT at hy
                rw [if_neg (Nat.lt_irrefl l0)] at hy
                rcases itT_mem hy with z | ⟨t, z1, z2⟩ <;> omega
              rw [id_n]
              refine ⟨puts_pre (T := fun l => mdT (A 97) (10 * a9 + b9) l0 l) s9 (by omega) (by show (mdT _ _ _ _).length < 30; omega) (by omega) hmem, ?_⟩
              rintro I10 A10 ⟨rfl, rfl⟩
              refine ⟨⟨a9, b9, l0 + 1, ha2, hb2, rfl, rfl, by omega, hlt, nI_1 l0, rfl, o9.tr (putsA_off.sub (by decide)), fun t ht => ?_, ?_⟩, cn_mu (by omega) (by decide)⟩
              · rw [putsA_off 106 (by decide)]
                exact z9 t ht
              · rw [mdT_s hs g1 g2]
                exact s9.add (by omega) (by show (mdT _ _ _ _).length < 30; omega) hT9
    · have hp2 := cn_lt rfl hp9 (by decide) h
      have hmu : 10 - (nI p + 1).toNatClampNeg < 10 - (nI p).toNatClampNeg := cn_mu hp2 (by decide)
      rw [m1, uBt_iff hp2]
      refine ⟨fun h7 => ⟨⟨p + 1, hp2, nI_1 p, rfl, o4, z4, ?_⟩, hmu⟩, fun h7 => ?_⟩
      · rw [pT_n h7]
        exact s4
      · have hu : usd (A 97) p = true := by
          cases z : usd (A 97) p
          · exact absurd z h7
          · rfl
        have n1 := lay_lt hp2 hu
        rw [cl_n (show p < 2 ^ 31 by omega), o4 102 (by decide), m5 p hp2 hu]
        have hT9 : ∀ q, q < 10 → (itT (A 97) p 0 q).length ≤ 29 := fun q _ => by
          have := itT_len hp (p := p) (j := 0) (by omega) (by omega) q
          omega
        have hlen := hT9 (layF (A 97) p) (by omega)
        refine ⟨vp_in_nI hp2 (by decide), puts_pre (T := fun l => itT (A 97) p 0 l) s4 (by omega) (by show (itT _ _ _ _).length < 30; omega) (by omega) (fun y hy => ?_), ?_⟩
        · rcases itT_mem hy with z | ⟨t, z1, z2⟩ <;> omega
        rintro I10 A10 ⟨rfl, rfl⟩
        refine ⟨⟨p + 1, hp2, nI_1 p, rfl, o4.tr (putsA_off.sub (by decide)), fun t ht => ?_, ?_⟩, by rw [nI_1, cl_n (by omega)]; omega⟩
        · rw [putsA_off 106 (by decide)]
          exact z4 t ht
        · rw [pT_s hu]
          exact s4.add (by omega) (by show (itT _ _ _ _).length < 30; omega) hT9
  · have hq2 := cn_lt rfl hq (by decide) h
    have v : vp_in (nI q) 10 := vp_in_nI hq2 (by decide)
    rw [cl_n (show q < 2 ^ 31 by omega)]
    refine ⟨v, v, ⟨q + 1, hq2, nI_1 q, (o3.up (by decide)).up (by decide), fun t ht => ?_⟩, by rw [nI_1, cl_n (by omega)]; omega⟩
    rcases Nat.lt_succ_iff_lt_or_eq.mp ht with z | z
    · rw [up2_k (by decide), up2_j (by omega), up2_j (by omega), up2_k (by decide)]
      exact z3 t z
    · subst z
      rw [up2_k (by decide), up2_s, up2_s]
      exact ⟨rfl, rfl⟩
