/-! Ranking: the words of its contracts -/
def strI (A : HI) (a b : Int32) : Int32 := if zPP a b = 0 then 0 else A 12 (a * 10 + b).toNatClampNeg
def lnkI (A : HI) (a b l : Int32) : Int32 := if 0 < A 12 (a * 10 + b).toNatClampNeg ∧ A 11 a.toNatClampNeg ≤ l ∧ l < A 11 b.toNatClampNeg then 1 else 0
def itmI (lay : Nat → Int32) (a b l : Int32) : Int32 := if l = lay a.toNatClampNeg then a else if l = lay b.toNatClampNeg then b else 100 + 10 * a + b
def plI (I A : HI) (i : Int32) : Int32 := if i < 0 ∨ I 3 2 ≤ i then -1 else A 9 i.toNatClampNeg
def trnI (sp : Nat → Int32) (a b : Int32) : Int32 := if sp b.toNatClampNeg < sp a.toNatClampNeg then 1 else 0
/-- the cells other than these are as they were -/
def offA (ks : List Nat) (A A' : HI) : Prop := ∀ k, k ∉ ks → A' k = A k

/-! Sheet -/
/-- the first place of x among the first n, or -1 -/
def ixO (f : Nat → Int32) (n : Nat) (x : Int32) : Int32 := match (List.range n).find? (fun i => f i == x) with
  | some i => nI i
  | none => -1
def fitI (f : Nat → Int32) : Int32 := if (List.range 11).all (fun l => decide (f l ≤ 5)) then 1 else 0
def addA (A : HI) (l x : Int32) : HI := if A 25 l.toNatClampNeg < 26 then up2 (up2 A (15 + l.toNatClampNeg) (A 25 l.toNatClampNeg).toNatClampNeg x) 25 l.toNatClampNeg (A 25 l.toNatClampNeg + 1) else A
/-! Kept -/
def notA (A : HI) (x l q : Int32) : HI := if zP x = 0 then A else up2 (up2 A 27 x.toNatClampNeg l) 28 x.toNatClampNeg q
def mvI (kl ks : Nat → Int32) (u v : Int32) : Int32 := if zPP u v = 0 then 0 else if kl u.toNatClampNeg = -1 then 0 else if kl u.toNatClampNeg = kl v.toNatClampNeg ∧ ks v.toNatClampNeg < ks u.toNatClampNeg then 1 else 0
/-! Changes: orders of n things -/
def chN (n : Nat) : Nat := [1, 1, 2, 6, 24, 120].getD n 0
def chT (n : Nat) : Nat := [0, 1, 4, 18, 96, 600].getD n 0
theorem ex_sh {j : Nat} (h : j < 6) : shp[73 + 4 * j]? = some (.inl (chN j)) := by
  match j, h with
  | 0, _ => rfl
  | 1, _ => rfl
  | 2, _ => rfl
  | 3, _ => rfl
  | 4, _ => rfl
  | 5, _ => rfl
/-! Joint -/
def pLk (A : HI) (f g x : Int32) : HI := if f < 0 ∨ 5 ≤ f ∨ g < 0 ∨ 5 ≤ g then A else up2 A 69 (f * 5 + g).toNatClampNeg x
def cnI (f : Nat → Int32) : Nat → Int32
  | 0 => 0
  | n + 1 => if 0 < f n then cnI f n + 1 else cnI f n
def uBt (u p : Int32) : Int32 := if (u >>> (p &&& 31)) &&& 1 = 1 then 1 else 0
def isF (w : Nat → Int32) (a b : Int32) : Int32 := if zP a = 0 ∨ zP b = 0 then 0 else if 0 < w (10 * a + b).toNatClampNeg then 1 else 0
def isS (w sp : Nat → Int32) (a b : Int32) : Int32 := if 0 < w (10 * a + b).toNatClampNeg ∧ trnI sp a b = 0 then 1 else 0
def stO (mn sd : Nat → Int32) (l k x : Int32) : Int32 := sd (600 * mn l.toNatClampNeg + 5 * k + x).toNatClampNeg
def stO0 (mn : Nat → Int32) (l k x : Int32) : Prop := vp_in l 10 ∧ vp_in (600 * mn l.toNatClampNeg + 5 * k + x) 3600
theorem clamp_neg {x : Int32} (h : x < 0) : x.toNatClampNeg = 0 := by
  have h1 : x.toInt < 0 := by simpa using Int32.lt_iff_toInt_lt.mp h
  unfold Int32.toNatClampNeg
  omega
theorem chO_in {x : Int32} (h : 0 ≤ x) : vp_in (mnI x 5) 6 := by
  obtain ⟨j, z1, rfl⟩ := nI_of (le_nlt h)
  unfold mnI
  split
  · exact vp_in_nI (n := 5) (by decide) (by decide)
  · rename_i q
    have : ¬ nI 5 < nI j := q
    exact vp_in_nI (Nat.lt_of_not_le fun z => this (nI_lt (by omega) z1)) (by decide)
theorem chO_lt {x : Int32} (h : 0 ≤ x) : (mnI x 5).toNatClampNeg < 6 := vin_lt (chO_in h)
theorem bX5_placeAt_0_1 : okB cX5_placeAt RX5 0 [(3, 1, 0, 0, 0)] := And.intro ⟨_, dX5_placeAt_0, rfl⟩ trivial
theorem bX5_placeAt_21_22 : okB cX5_placeAt RX5 21 [(0, 0, 0, 0, (-1))] := And.intro ⟨_, dX5_placeAt_21, by decide⟩ trivial
theorem bX5_placeAt_4_9 : okB cX5_placeAt RX5 4 [(3, 1, 0, 0, 0), (5, 0, 0, 0, 0), (23, 15, 5, 2, 0)] := And.intro ⟨_, dX5_placeAt_4, rfl⟩ (And.intro ⟨_, dX5_placeAt_5, rfl⟩ (And.intro ⟨dX5_placeAt_6, fl_X5_15⟩ trivial))
theorem bX5_placeAt_12_17 : okB cX5_placeAt RX5 12 [(5, 0, 0, 0, 0), (23, 31, 5, 7, 0), (3, 1, 0, 0, 0)] := And.intro ⟨_, dX5_placeAt_12, rfl⟩ (And.intro ⟨dX5_placeAt_13, fl_X5_31⟩ (And.intro ⟨_, dX5_placeAt_16, rfl⟩ trivial))
set_option maxHeartbeats 4000000 in
set_option maxRecDepth 100000 in
theorem k_X5_placeAt (l : Launch) (D : va_G) (ads : AD) (I A : HI) (a1 : Int32) (po : Option AV → HI → HI → Prop)
    (hv : ((a1 < 0 → po (some (.inl ((-1)))) I A) ∧ (¬ a1 < 0 → (((I 3 2) ≤ a1 → po (some (.inl ((-1)))) I A) ∧ (¬ (I 3 2) ≤ a1 → (vp_in a1 10 ∧ po (some (.inl (A 9 a1.toNatClampNeg))) I A)))))) : Ct l yX5_placeAt cX5_placeAt 2 (some .int) 0 0 D ads shp [.inr (some 3), .inl a1] I A po := by
  refine Ct_of (by decide) (Nat.le_of_ble_eq_true rfl) ?_
  intro p e s m args below meth c hC hr
  replace hC : CX p s m args meth c cX5_placeAt 2 RX5 (AdS ads s.heap.size) := hC
  show Gm p l e s m args below meth c D ads 0 0 2 po I A 0 [some (.inr (some 3)), some (.inl a1)] []
  refine g_blk hC _ bX5_placeAt_0_1 (pc' := 1) (ls' := [some (.inr (some 3)), some (.inl a1)]) (st' := [.inl a1]) (I' := I) rfl rfl ?_
  obtain ⟨hv1, hv2⟩ := hv
  refine g_iflt hC dX5_placeAt_1 (tgt := 21) (by decide) (fun hc => ?_) (fun hc => ?_)
  · have hv := hv1 hc
    clear hv1 hv2 hc
    refine g_blk hC _ bX5_placeAt_21_22 (pc' := 22) (ls' := [some (.inr (some 3)), some (.inl a1)]) (st' := [.inl ((-1))]) (I' := I) rfl rfl ?_
    exact g_reti hC hr rfl dX5_placeAt_22 hv
  · have hv := hv2 hc
    clear hv1 hv2 hc
    refine g_blk hC _ bX5_placeAt_4_9 (pc' := 9) (ls' := [some (.inr (some 3)), some (.inl a1)]) (st' := [.inl (I 3 2), .inl a1]) (I' := I) rfl rfl ?_
    obtain ⟨hv1, hv2⟩ := hv
    refine g_cge hC dX5_placeAt_9 (tgt := 21) (by decide) (fun hc => ?_) (fun hc => ?_)
    · have hv := hv1 hc
      clear hv1 hv2 hc
      refine g_blk hC _ bX5_placeAt_21_22 (pc' := 22) (ls' := [some (.inr (some 3)), some (.inl a1)]) (st' := [.inl ((-1))]) (I' := I) rfl rfl ?_
      exact g_reti hC hr rfl dX5_placeAt_22 hv
    · have hv := hv2 hc
      clear hv1 hv2 hc
      refine g_blk hC _ bX5_placeAt_12_17 (pc' := 17) (ls' := [some (.inr (some 3)), some (.inl a1)]) (st' := [.inl a1, .inr (some 9)]) (I' := I) rfl rfl ?_
      obtain ⟨hi, hv⟩ := hv
      refine g_iald hC dX5_placeAt_17 (rfl) hi ?_
      clear hi
      refine g_goto hC dX5_placeAt_18 (tgt := 22) (by decide) ?_
      exact g_reti hC hr rfl dX5_placeAt_22 hv
set_option maxHeartbeats 4000000 in
set_option maxRecDepth 100000 in
theorem c_X5_placeAt (l : Launch) (D : va_G) (ads : AD) (I A : HI) (a1 : Int32) (hp : I 3 2 ≤ 10) : Ct l yX5_placeAt cX5_placeAt 2 (some .int) 0 0 D ads shp [.inr (some 3), .inl a1] I A (qI (plI I A a1) I A) := by
  refine k_X5_placeAt l D ads I A a1 _ ⟨fun h => qI_i ?_, fun h => ⟨fun h2 => qI_i ?_, fun h2 => ⟨?_, qI_i ?_⟩⟩⟩
  · simp [plI, h]
  · simp [plI, h2]
  · have h3 : ¬ nI 10 ≤ a1 := lt_nle (Int32.lt_of_lt_of_le (nle h2) hp)
    obtain ⟨j, h4, rfl⟩ := nI_of h
    exact vp_in_nI (Nat.lt_of_not_le fun q => h3 (nI_le q h4)) (by decide)
  · simp [plI, h, h2]
theorem bX5_layerOf_0_5 : okB cX5_layerOf RX5 0 [(5, 0, 0, 0, 0), (23, 37, 5, 9, 0), (3, 1, 0, 0, 0)] := And.intro ⟨_, dX5_layerOf_0, rfl⟩ (And.intro ⟨dX5_layerOf_1, fl_X5_37⟩ (And.intro ⟨_, dX5_layerOf_4, rfl⟩ trivial))
set_option maxHeartbeats 4000000 in
set_option maxRecDepth 100000 in
theorem k_X5_layerOf (l : Launch) (D : va_G) (ads : AD) (I A : HI) (a1 : Int32) (po : Option AV → HI → HI → Prop)
    (hv : (vp_in a1 10 ∧ po (some (.inl (A 11 a1.toNatClampNeg))) I A)) : Ct l yX5_layerOf cX5_layerOf 2 (some .int) 0 0 D ads shp [.inr (some 3), .inl a1] I A po := by
  refine Ct_of (by decide) (Nat.le_of_ble_eq_true rfl) ?_
  intro p e s m args below meth c hC hr
  replace hC : CX p s m args meth c cX5_layerOf 2 RX5 (AdS ads s.heap.size) := hC
  show Gm p l e s m args below meth c D ads 0 0 2 po I A 0 [some (.inr (some 3)), some (.inl a1)] []
  refine g_blk hC _ bX5_layerOf_0_5 (pc' := 5) (ls' := [some (.inr (some 3)), some (.inl a1)]) (st' := [.inl a1, .inr (some 11)]) (I' := I) rfl rfl ?_
  obtain ⟨hi, hv⟩ := hv
  refine g_iald hC dX5_layerOf_5 (rfl) hi ?_
  clear hi
  exact g_reti hC hr rfl dX5_layerOf_6 hv
set_option maxHeartbeats 4000000 in
set_option maxRecDepth 100000 in
theorem c_X5_layerOf (l : Launch) (D : va_G) (ads : AD) (I A : HI) (a1 : Int32) (hp : vp_in a1 10) : Ct l yX5_layerOf cX5_layerOf 2 (some .int) 0 0 D ads shp [.inr (some 3), .inl a1] I A (qI (A 11 a1.toNatClampNeg) I A) := by
  exact k_X5_layerOf l D ads I A a1 _ ⟨hp, qI_i rfl⟩
theorem bX5_layers_0_4 : okB cX5_layers RX5 0 [(5, 0, 0, 0, 0), (23, 43, 5, 11, 0)] := And.intro ⟨_, dX5_layers_0, rfl⟩ (And.intro ⟨dX5_layers_1, fl_X5_43⟩ trivial)
set_option maxHeartbeats 4000000 in
set_option maxRecDepth 100000 in
theorem k_X5_layers (l : Launch) (D : va_G) (ads : AD) (I A : HI) (po : Option AV → HI → HI → Prop)
    (hv : po (some (.inl (I 3 11))) I A) : Ct l yX5_layers cX5_layers 1 (some .int) 0 0 D ads shp [.inr (some 3)] I A po := by
  refine Ct_of (by decide) (Nat.le_of_ble_eq_true rfl) ?_
  intro p e s m args below meth c hC hr
  replace hC : CX p s m args meth c cX5_layers 1 RX5 (AdS ads s.heap.size) := hC
  show Gm p l e s m args below meth c D ads 0 0 1 po I A 0 [some (.inr (some 3))] []
  refine g_blk hC _ bX5_layers_0_4 (pc' := 4) (ls' := [some (.inr (some 3))]) (st' := [.inl (I 3 11)]) (I' := I) rfl rfl ?_
  exact g_reti hC hr rfl dX5_layers_4 hv
set_option maxHeartbeats 4000000 in
set_option maxRecDepth 100000 in
theorem c_X5_layers (l : Launch) (D : va_G) (ads : AD) (I A : HI) : Ct l yX5_layers cX5_layers 1 (some .int) 0 0 D ads shp [.inr (some 3)] I A (qI (I 3 11) I A) := by
  exact k_X5_layers l D ads I A _ (qI_i rfl)
theorem bX5_turnedNumber_0_4 : okB cX5_turnedNumber RX5 0 [(5, 0, 0, 0, 0), (23, 46, 5, 12, 0)] := And.intro ⟨_, dX5_turnedNumber_0, rfl⟩ (And.intro ⟨dX5_turnedNumber_1, fl_X5_46⟩ trivial)
set_option maxHeartbeats 4000000 in
set_option maxRecDepth 100000 in
theorem k_X5_turnedNumber (l : Launch) (D : va_G) (ads : AD) (I A : HI) (po : Option AV → HI → HI → Prop)
    (hv : po (some (.inl (I 3 12))) I A) : Ct l yX5_turnedNumber cX5_turnedNumber 1 (some .int) 0 0 D ads shp [.inr (some 3)] I A po := by
  refine Ct_of (by decide) (Nat.le_of_ble_eq_true rfl) ?_
  intro p e s m args below meth c hC hr
  replace hC : CX p s m args meth c cX5_turnedNumber 1 RX5 (AdS ads s.heap.size) := hC
  show Gm p l e s m args below meth c D ads 0 0 1 po I A 0 [some (.inr (some 3))] []
  refine g_blk hC _ bX5_turnedNumber_0_4 (pc' := 4) (ls' := [some (.inr (some 3))]) (st' := [.inl (I 3 12)]) (I' := I) rfl rfl ?_
  exact g_reti hC hr rfl dX5_turnedNumber_4 hv
set_option maxHeartbeats 4000000 in
set_option maxRecDepth 100000 in
theorem c_X5_turnedNumber (l : Launch) (D : va_G) (ads : AD) (I A : HI) : Ct l yX5_turnedNumber cX5_turnedNumber 1 (some .int) 0 0 D ads shp [.inr (some 3)] I A (qI (I 3 12) I A) := by
  exact k_X5_turnedNumber l D ads I A _ (qI_i rfl)
theorem bX5_turnedSum_0_4 : okB cX5_turnedSum RX5 0 [(5, 0, 0, 0, 0), (23, 49, 5, 13, 0)] := And.intro ⟨_, dX5_turnedSum_0, rfl⟩ (And.intro ⟨dX5_turnedSum_1, fl_X5_49⟩ trivial)
set_option maxHeartbeats 4000000 in
set_option maxRecDepth 100000 in
theorem k_X5_turnedSum (l : Launch) (D : va_G) (ads : AD) (I A : HI) (po : Option AV → HI → HI → Prop)
    (hv : po (some (.inl (I 3 13))) I A) : Ct l yX5_turnedSum cX5_turnedSum 1 (some .int) 0 0 D ads shp [.inr (some 3)] I A po := by
  refine Ct_of (by decide) (Nat.le_of_ble_eq_true rfl) ?_
  intro p e s m args below meth c hC hr
  replace hC : CX p s m args meth c cX5_turnedSum 1 RX5 (AdS ads s.heap.size) := hC
  show Gm p l e s m args below meth c D ads 0 0 1 po I A 0 [some (.inr (some 3))] []
  refine g_blk hC _ bX5_turnedSum_0_4 (pc' := 4) (ls' := [some (.inr (some 3))]) (st' := [.inl (I 3 13)]) (I' := I) rfl rfl ?_
  exact g_reti hC hr rfl dX5_turnedSum_4 hv
set_option maxHeartbeats 4000000 in
set_option maxRecDepth 100000 in
theorem c_X5_turnedSum (l : Launch) (D : va_G) (ads : AD) (I A : HI) : Ct l yX5_turnedSum cX5_turnedSum 1 (some .int) 0 0 D ads shp [.inr (some 3)] I A (qI (I 3 13) I A) := by
  exact k_X5_turnedSum l D ads I A _ (qI_i rfl)
theorem bX5_turns_0_5 : okB cX5_turns RX5 0 [(5, 0, 0, 0, 0), (23, 34, 5, 8, 0), (3, 2, 0, 0, 0)] := And.intro ⟨_, dX5_turns_0, rfl⟩ (And.intro ⟨dX5_turns_1, fl_X5_34⟩ (And.intro ⟨_, dX5_turns_4, rfl⟩ trivial))
theorem bX5_turns_6_11 : okB cX5_turns RX5 6 [(5, 0, 0, 0, 0), (23, 34, 5, 8, 0), (3, 1, 0, 0, 0)] := And.intro ⟨_, dX5_turns_6, rfl⟩ (And.intro ⟨dX5_turns_7, fl_X5_34⟩ (And.intro ⟨_, dX5_turns_10, rfl⟩ trivial))
theorem bX5_turns_19_20 : okB cX5_turns RX5 19 [(0, 0, 0, 0, 0)] := And.intro ⟨_, dX5_turns_19, by decide⟩ trivial
theorem bX5_turns_15_16 : okB cX5_turns RX5 15 [(0, 0, 0, 0, 1)] := And.intro ⟨_, dX5_turns_15, by decide⟩ trivial
set_option maxHeartbeats 4000000 in
set_option maxRecDepth 100000 in
theorem k_X5_turns (l : Launch) (D : va_G) (ads : AD) (I A : HI) (a1 : Int32) (a2 : Int32) (po : Option AV → HI → HI → Prop)
    (hv : (vp_in a2 10 ∧ (vp_in a1 10 ∧ (((A 10 a1.toNatClampNeg) ≤ (A 10 a2.toNatClampNeg) → po (some (.inl 0)) I A) ∧ (¬ (A 10 a1.toNatClampNeg) ≤ (A 10 a2.toNatClampNeg) → po (some (.inl 1)) I A))))) : Ct l yX5_turns cX5_turns 3 (some .boolean) 0 0 D ads shp [.inr (some 3), .inl a1, .inl a2] I A po := by
  refine Ct_of (by decide) (Nat.le_of_ble_eq_true rfl) ?_
  intro p e s m args below meth c hC hr
  replace hC : CX p s m args meth c cX5_turns 3 RX5 (AdS ads s.heap.size) := hC
  show Gm p l e s m args below meth c D ads 0 0 3 po I A 0 [some (.inr (some 3)), some (.inl a1), some (.inl a2)] []
  refine g_blk hC _ bX5_turns_0_5 (pc' := 5) (ls' := [some (.inr (some 3)), some (.inl a1), some (.inl a2)]) (st' := [.inl a2, .inr (some 10)]) (I' := I) rfl rfl ?_
  obtain ⟨hi, hv⟩ := hv
  refine g_iald hC dX5_turns_5 (rfl) hi ?_
  clear hi
  refine g_blk hC _ bX5_turns_6_11 (pc' := 11) (ls' := [some (.inr (some 3)), some (.inl a1), some (.inl a2)]) (st' := [.inl a1, .inr (some 10), .inl (A 10 a2.toNatClampNeg)]) (I' := I) rfl rfl ?_
  obtain ⟨hi, hv⟩ := hv
  refine g_iald hC dX5_turns_11 (rfl) hi ?_
  clear hi
  obtain ⟨hv1, hv2⟩ := hv
  refine g_cge hC dX5_turns_12 (tgt := 19) (by decide) (fun hc => ?_) (fun hc => ?_)
  · have hv := hv1 hc
    clear hv1 hv2 hc
    refine g_blk hC _ bX5_turns_19_20 (pc' := 20) (ls' := [some (.inr (some 3)), some (.inl a1), some (.inl a2)]) (st' := [.inl 0]) (I' := I) rfl rfl ?_
    exact g_reti hC hr (by decide) dX5_turns_20 hv
  · have hv := hv2 hc
    clear hv1 hv2 hc
    refine g_blk hC _ bX5_turns_15_16 (pc' := 16) (ls' := [some (.inr (some 3)), some (.inl a1), some (.inl a2)]) (st' := [.inl 1]) (I' := I) rfl rfl ?_
    refine g_goto hC dX5_turns_16 (tgt := 20) (by decide) ?_
    exact g_reti hC hr (by decide) dX5_turns_20 hv
set_option maxHeartbeats 4000000 in
set_option maxRecDepth 100000 in
theorem c_X5_turns (l : Launch) (D : va_G) (ads : AD) (I A : HI) (a1 : Int32) (a2 : Int32) (hp : vp_in a1 10 ∧ vp_in a2 10) : Ct l yX5_turns cX5_turns 3 (some .boolean) 0 0 D ads shp [.inr (some 3), .inl a1, .inl a2] I A (qI (trnI (A 10) a1 a2) I A) := by
  refine k_X5_turns l D ads I A a1 a2 _ ⟨hp.2, hp.1, fun h => qI_i ?_, fun h => qI_i ?_⟩
  · simp [trnI, le_nlt h]
  · simp [trnI, nle h]
theorem bX5_straight_0_2 : okB cX5_straight RX5 0 [(3, 1, 0, 0, 0), (3, 2, 0, 0, 0)] := And.intro ⟨_, dX5_straight_0, rfl⟩ (And.intro ⟨_, dX5_straight_1, rfl⟩ trivial)
theorem bX5_straight_22_23 : okB cX5_straight RX5 22 [(0, 0, 0, 0, 0)] := And.intro ⟨_, dX5_straight_22, by decide⟩ trivial
theorem bX5_straight_8_18 : okB cX5_straight RX5 8 [(5, 0, 0, 0, 0), (23, 40, 5, 10, 0), (3, 1, 0, 0, 0), (1, 0, 0, 0, 10), (14, 0, 0, 0, 0), (3, 2, 0, 0, 0), (12, 0, 0, 0, 0)] := And.intro ⟨_, dX5_straight_8, rfl⟩ (And.intro ⟨dX5_straight_9, fl_X5_40⟩ (And.intro ⟨_, dX5_straight_12, rfl⟩ (And.intro ⟨_, dX5_straight_13, by decide⟩ (And.intro dX5_straight_15 (And.intro ⟨_, dX5_straight_16, rfl⟩ (And.intro dX5_straight_17 trivial))))))
set_option maxHeartbeats 4000000 in
set_option maxRecDepth 100000 in
theorem k_X5_straight (l : Launch) (D : va_G) (ads : AD) (I A : HI) (a1 : Int32) (a2 : Int32) (po : Option AV → HI → HI → Prop)
    (hv : (((zPP a1 a2) = 0 → po (some (.inl 0)) I A) ∧ (¬ (zPP a1 a2) = 0 → (vp_in ((a1 * 10) + a2) 100 ∧ po (some (.inl (A 12 ((a1 * 10) + a2).toNatClampNeg))) I A)))) : Ct l yX5_straight cX5_straight 3 (some .int) 1 21 D ads shp [.inr (some 3), .inl a1, .inl a2] I A po := by
  refine Ct_of (by decide) (Nat.le_of_ble_eq_true rfl) ?_
  intro p e s m args below meth c hC hr
  replace hC : CX p s m args meth c cX5_straight 3 RX5 (AdS ads s.heap.size) := hC
  show Gm p l e s m args below meth c D ads 1 21 3 po I A 0 [some (.inr (some 3)), some (.inl a1), some (.inl a2)] []
  refine g_blk hC _ bX5_straight_0_2 (pc' := 2) (ls' := [some (.inr (some 3)), some (.inl a1), some (.inl a2)]) (st' := [.inl a2, .inl a1]) (I' := I) rfl rfl ?_
  refine g_callN (host := RX8) hC (c_X8_arePlaces l D ads I A a1 a2) dX5_straight_2 nm_X8_arePlaces (List.mem_of_getElem? (i := 3) rfl) wt_X8_arePlaces wn_X8 wc_X8_arePlaces ⟨by decide, by decide⟩ (as := [.inl a1, .inl a2]) (rest := []) rfl (Nat.le_of_ble_eq_true rfl) ⟨Nat.le_refl _, Nat.le_refl _⟩ (k_qI ?_)
  obtain ⟨hv1, hv2⟩ := hv
  refine g_ifeq hC dX5_straight_5 (tgt := 22) (by decide) (fun hc => ?_) (fun hc => ?_)
  · have hv := hv1 hc
    clear hv1 hv2 hc
    refine g_blk hC _ bX5_straight_22_23 (pc' := 23) (ls' := [some (.inr (some 3)), some (.inl a1), some (.inl a2)]) (st' := [.inl 0]) (I' := I) rfl rfl ?_
    exact g_reti hC hr rfl dX5_straight_23 hv
  · have hv := hv2 hc
    clear hv1 hv2 hc
    refine g_blk hC _ bX5_straight_8_18 (pc' := 18) (ls' := [some (.inr (some 3)), some (.inl a1), some (.inl a2)]) (st' := [.inl ((a1 * 10) + a2), .inr (some 12)]) (I' := I) rfl rfl ?_
    obtain ⟨hi, hv⟩ := hv
    refine g_iald hC dX5_straight_18 (rfl) hi ?_
    clear hi
    refine g_goto hC dX5_straight_19 (tgt := 23) (by decide) ?_
    exact g_reti hC hr rfl dX5_straight_23 hv
set_option maxHeartbeats 4000000 in
set_option maxRecDepth 100000 in
theorem c_X5_straight (l : Launch) (D : va_G) (ads : AD) (I A : HI) (a1 : Int32) (a2 : Int32) : Ct l yX5_straight cX5_straight 3 (some .int) 1 21 D ads shp [.inr (some 3), .inl a1, .inl a2] I A (qI (strI A a1 a2) I A) := by
  refine k_X5_straight l D ads I A a1 a2 _ ⟨fun h => qI_i ?_, fun h => ⟨vi_pp h, qI_i ?_⟩⟩ <;> simp [strI, h]
theorem bX5_links_0_10 : okB cX5_links RX5 0 [(5, 0, 0, 0, 0), (23, 40, 5, 10, 0), (3, 1, 0, 0, 0), (1, 0, 0, 0, 10), (14, 0, 0, 0, 0), (3, 2, 0, 0, 0), (12, 0, 0, 0, 0)] := And.intro ⟨_, dX5_links_0, rfl⟩ (And.intro ⟨dX5_links_1, fl_X5_40⟩ (And.intro ⟨_, dX5_links_4, rfl⟩ (And.intro ⟨_, dX5_links_5, by decide⟩ (And.intro dX5_links_7 (And.intro ⟨_, dX5_links_8, rfl⟩ (And.intro dX5_links_9 trivial))))))
theorem bX5_links_38_39 : okB cX5_links RX5 38 [(0, 0, 0, 0, 0)] := And.intro ⟨_, dX5_links_38, by decide⟩ trivial
theorem bX5_links_14_19 : okB cX5_links RX5 14 [(5, 0, 0, 0, 0), (23, 37, 5, 9, 0), (3, 1, 0, 0, 0)] := And.intro ⟨_, dX5_links_14, rfl⟩ (And.intro ⟨dX5_links_15, fl_X5_37⟩ (And.intro ⟨_, dX5_links_18, rfl⟩ trivial))
theorem bX5_links_20_21 : okB cX5_links RX5 20 [(3, 3, 0, 0, 0)] := And.intro ⟨_, dX5_links_20, rfl⟩ trivial
theorem bX5_links_24_30 : okB cX5_links RX5 24 [(3, 3, 0, 0, 0), (5, 0, 0, 0, 0), (23, 37, 5, 9, 0), (3, 2, 0, 0, 0)] := And.intro ⟨_, dX5_links_24, rfl⟩ (And.intro ⟨_, dX5_links_25, rfl⟩ (And.intro ⟨dX5_links_26, fl_X5_37⟩ (And.intro ⟨_, dX5_links_29, rfl⟩ trivial)))
theorem bX5_links_34_35 : okB cX5_links RX5 34 [(0, 0, 0, 0, 1)] := And.intro ⟨_, dX5_links_34, by decide⟩ trivial
set_option maxHeartbeats 4000000 in
set_option maxRecDepth 100000 in
theorem k_X5_links (l : Launch) (D : va_G) (ads : AD) (I A : HI) (a1 : Int32) (a2 : Int32) (a3 : Int32) (po : Option AV → HI → HI → Prop)
    (hv : (vp_in ((a1 * 10) + a2) 100 ∧ (((A 12 ((a1 * 10) + a2).toNatClampNeg) ≤ 0 → po (some (.inl 0)) I A) ∧ (¬ (A 12 ((a1 * 10) + a2).toNatClampNeg) ≤ 0 → (vp_in a1 10 ∧ ((a3 < (A 11 a1.toNatClampNeg) → po (some (.inl 0)) I A) ∧ (¬ a3 < (A 11 a1.toNatClampNeg) → (vp_in a2 10 ∧ (((A 11 a2.toNatClampNeg) ≤ a3 → po (some (.inl 0)) I A) ∧ (¬ (A 11 a2.toNatClampNeg) ≤ a3 → po (some (.inl 1)) I A)))))))))) : Ct l yX5_links cX5_links 4 (some .boolean) 0 0 D ads shp [.inr (some 3), .inl a1, .inl a2, .inl a3] I A po := by
  refine Ct_of (by decide) (Nat.le_of_ble_eq_true rfl) ?_
  intro p e s m args below meth c hC hr
  replace hC : CX p s m args meth c cX5_links 4 RX5 (AdS ads s.heap.size) := hC
  show Gm p l e s m args below meth c D ads 0 0 4 po I A 0 [some (.inr (some 3)), some (.inl a1), some (.inl a2), some (.inl a3)] []
  refine g_blk hC _ bX5_links_0_10 (pc' := 10) (ls' := [some (.inr (some 3)), some (.inl a1), some (.inl a2), some (.inl a3)]) (st' := [.inl ((a1 * 10) + a2), .inr (some 12)]) (I' := I) rfl rfl ?_
  obtain ⟨hi, hv⟩ := hv
  refine g_iald hC dX5_links_10 (rfl) hi ?_
  clear hi
  obtain ⟨hv1, hv2⟩ := hv
  refine g_ifle hC dX5_links_11 (tgt := 38) (by decide) (fun hc => ?_) (fun hc => ?_)
  · have hv := hv1 hc
    clear hv1 hv2 hc
    refine g_blk hC _ bX5_links_38_39 (pc' := 39) (ls' := [some (.inr (some 3)), some (.inl a1), some (.inl a2), some (.inl a3)]) (st' := [.inl 0]) (I' := I) rfl rfl ?_
    exact g_reti hC hr (by decide) dX5_links_39 hv
  · have hv := hv2 hc
    clear hv1 hv2 hc
    refine g_blk hC _ bX5_links_14_19 (pc' := 19) (ls' := [some (.inr (some 3)), some (.inl a1), some (.inl a2), some (.inl a3)]) (st' := [.inl a1, .inr (some 11)]) (I' := I) rfl rfl ?_
    obtain ⟨hi, hv⟩ := hv
    refine g_iald hC dX5_links_19 (rfl) hi ?_
    clear hi
    refine g_blk hC _ bX5_links_20_21 (pc' := 21) (ls' := [some (.inr (some 3)), some (.inl a1), some (.inl a2), some (.inl a3)]) (st' := [.inl a3, .inl (A 11 a1.toNatClampNeg)]) (I' := I) rfl rfl ?_
    obtain ⟨hv1, hv2⟩ := hv
    refine g_cgt hC dX5_links_21 (tgt := 38) (by decide) (fun hc => ?_) (fun hc => ?_)
    · have hv := hv1 hc
      clear hv1 hv2 hc
      refine g_blk hC _ bX5_links_38_39 (pc' := 39) (ls' := [some (.inr (some 3)), some (.inl a1), some (.inl a2), some (.inl a3)]) (st' := [.inl 0]) (I' := I) rfl rfl ?_
      exact g_reti hC hr (by decide) dX5_links_39 hv
    · have hv := hv2 hc
      clear hv1 hv2 hc
      refine g_blk hC _ bX5_links_24_30 (pc' := 30) (ls' := [some (.inr (some 3)), some (.inl a1), some (.inl a2), some (.inl a3)]) (st' := [.inl a2, .inr (some 11), .inl a3]) (I' := I) rfl rfl ?_
      obtain ⟨hi, hv⟩ := hv
      refine g_iald hC dX5_links_30 (rfl) hi ?_
      clear hi
      obtain ⟨hv1, hv2⟩ := hv
      refine g_cge hC dX5_links_31 (tgt := 38) (by decide) (fun hc => ?_) (fun hc => ?_)
      · have hv := hv1 hc
        clear hv1 hv2 hc
        refine g_blk hC _ bX5_links_38_39 (pc' := 39) (ls' := [some (.inr (some 3)), some (.inl a1), some (.inl a2), some (.inl a3)]) (st' := [.inl 0]) (I' := I) rfl rfl ?_
        exact g_reti hC hr (by decide) dX5_links_39 hv
      · have hv := hv2 hc
        clear hv1 hv2 hc
        refine g_blk hC _ bX5_links_34_35 (pc' := 35) (ls' := [some (.inr (some 3)), some (.inl a1), some (.inl a2), some (.inl a3)]) (st' := [.inl 1]) (I' := I) rfl rfl ?_
        refine g_goto hC dX5_links_35 (tgt := 39) (by decide) ?_
        exact g_reti hC hr (by decide) dX5_links_39 hv
set_option maxHeartbeats 4000000 in
set_option maxRecDepth 100000 in
theorem c_X5_links (l : Launch) (D : va_G) (ads : AD) (I A : HI) (a1 : Int32) (a2 : Int32) (a3 : Int32) (hp : vp_in a1 10 ∧ vp_in a2 10) : Ct l yX5_links cX5_links 4 (some .boolean) 0 0 D ads shp [.inr (some 3), .inl a1, .inl a2, .inl a3] I A (qI (lnkI A a1 a2 a3) I A) := by
  refine k_X5_links l D ads I A a1 a2 a3 _ ⟨(vi_ab hp.1 hp.2).1, fun h => qI_i ?_, fun h => ⟨hp.1, fun h2 => qI_i ?_, fun h2 => ⟨hp.2, fun h3 => qI_i ?_, fun h3 => qI_i ?_⟩⟩⟩
  · simp [lnkI, le_nlt h]
  · simp [lnkI, lt_nle h2]
  · simp [lnkI, le_nlt h3]
  · simp [lnkI, nle h, nlt h2, nle h3]
theorem bX5_itemOf_0_6 : okB cX5_itemOf RX5 0 [(3, 3, 0, 0, 0), (5, 0, 0, 0, 0), (23, 37, 5, 9, 0), (3, 1, 0, 0, 0)] := And.intro ⟨_, dX5_itemOf_0, rfl⟩ (And.intro ⟨_, dX5_itemOf_1, rfl⟩ (And.intro ⟨dX5_itemOf_2, fl_X5_37⟩ (And.intro ⟨_, dX5_itemOf_5, rfl⟩ trivial)))
theorem bX5_itemOf_12_18 : okB cX5_itemOf RX5 12 [(3, 3, 0, 0, 0), (5, 0, 0, 0, 0), (23, 37, 5, 9, 0), (3, 2, 0, 0, 0)] := And.intro ⟨_, dX5_itemOf_12, rfl⟩ (And.intro ⟨_, dX5_itemOf_13, rfl⟩ (And.intro ⟨dX5_itemOf_14, fl_X5_37⟩ (And.intro ⟨_, dX5_itemOf_17, rfl⟩ trivial)))
theorem bX5_itemOf_26_35 : okB cX5_itemOf RX5 26 [(1, 0, 0, 0, 100), (1, 0, 0, 0, 10), (3, 1, 0, 0, 0), (14, 0, 0, 0, 0), (12, 0, 0, 0, 0), (3, 2, 0, 0, 0), (12, 0, 0, 0, 0)] := And.intro ⟨_, dX5_itemOf_26, by decide⟩ (And.intro ⟨_, dX5_itemOf_28, by decide⟩ (And.intro ⟨_, dX5_itemOf_30, rfl⟩ (And.intro dX5_itemOf_31 (And.intro dX5_itemOf_32 (And.intro ⟨_, dX5_itemOf_33, rfl⟩ (And.intro dX5_itemOf_34 trivial))))))
theorem bX5_itemOf_22_23 : okB cX5_itemOf RX5 22 [(3, 2, 0, 0, 0)] := And.intro ⟨_, dX5_itemOf_22, rfl⟩ trivial
theorem bX5_itemOf_10_11 : okB cX5_itemOf RX5 10 [(3, 1, 0, 0, 0)] := And.intro ⟨_, dX5_itemOf_10, rfl⟩ trivial
set_option maxHeartbeats 4000000 in
set_option maxRecDepth 100000 in
theorem k_X5_itemOf (l : Launch) (D : va_G) (ads : AD) (I A : HI) (a1 : Int32) (a2 : Int32) (a3 : Int32) (po : Option AV → HI → HI → Prop)
    (hv : (vp_in a1 10 ∧ ((¬ a3 = (A 11 a1.toNatClampNeg) → (vp_in a2 10 ∧ ((¬ a3 = (A 11 a2.toNatClampNeg) → po (some (.inl ((100 + (10 * a1)) + a2))) I A) ∧ (a3 = (A 11 a2.toNatClampNeg) → po (some (.inl a2)) I A)))) ∧ (a3 = (A 11 a1.toNatClampNeg) → po (some (.inl a1)) I A)))) : Ct l yX5_itemOf cX5_itemOf 4 (some .int) 0 0 D ads shp [.inr (some 3), .inl a1, .inl a2, .inl a3] I A po := by
  refine Ct_of (by decide) (Nat.le_of_ble_eq_true rfl) ?_
  intro p e s m args below meth c hC hr
  replace hC : CX p s m args meth c cX5_itemOf 4 RX5 (AdS ads s.heap.size) := hC
  show Gm p l e s m args below meth c D ads 0 0 4 po I A 0 [some (.inr (some 3)), some (.inl a1), some (.inl a2), some (.inl a3)] []
  refine g_blk hC _ bX5_itemOf_0_6 (pc' := 6) (ls' := [some (.inr (some 3)), some (.inl a1), some (.inl a2), some (.inl a3)]) (st' := [.inl a1, .inr (some 11), .inl a3]) (I' := I) rfl rfl ?_
  obtain ⟨hi, hv⟩ := hv
  refine g_iald hC dX5_itemOf_6 (rfl) hi ?_
  clear hi
  obtain ⟨hv1, hv2⟩ := hv
  refine g_cne hC dX5_itemOf_7 (tgt := 12) (by decide) (fun hc => ?_) (fun hc => ?_)
  · have hv := hv1 hc
    clear hv1 hv2 hc
    refine g_blk hC _ bX5_itemOf_12_18 (pc' := 18) (ls' := [some (.inr (some 3)), some (.inl a1), some (.inl a2), some (.inl a3)]) (st' := [.inl a2, .inr (some 11), .inl a3]) (I' := I) rfl rfl ?_
    obtain ⟨hi, hv⟩ := hv
    refine g_iald hC dX5_itemOf_18 (rfl) hi ?_
    clear hi
    obtain ⟨hv1, hv2⟩ := hv
    refine g_cne hC dX5_itemOf_19 (tgt := 26) (by decide) (fun hc => ?_) (fun hc => ?_)
    · have hv := hv1 hc
      clear hv1 hv2 hc
      refine g_blk hC _ bX5_itemOf_26_35 (pc' := 35) (ls' := [some (.inr (some 3)), some (.inl a1), some (.inl a2), some (.inl a3)]) (st' := [.inl ((100 + (10 * a1)) + a2)]) (I' := I) rfl rfl ?_
      exact g_reti hC hr rfl dX5_itemOf_35 hv
    · have hv := hv2 hc
      clear hv1 hv2 hc
      refine g_blk hC _ bX5_itemOf_22_23 (pc' := 23) (ls' := [some (.inr (some 3)), some (.inl a1), some (.inl a2), some (.inl a3)]) (st' := [.inl a2]) (I' := I) rfl rfl ?_
      refine g_goto hC dX5_itemOf_23 (tgt := 35) (by decide) ?_
      exact g_reti hC hr rfl dX5_itemOf_35 hv
  · have hv := hv2 hc
    clear hv1 hv2 hc
    refine g_blk hC _ bX5_itemOf_10_11 (pc' := 11) (ls' := [some (.inr (some 3)), some (.inl a1), some (.inl a2), some (.inl a3)]) (st' := [.inl a1]) (I' := I) rfl rfl ?_
    exact g_reti hC hr rfl dX5_itemOf_11 hv
set_option maxHeartbeats 4000000 in
set_option maxRecDepth 100000 in
theorem c_X5_itemOf (l : Launch) (D : va_G) (ads : AD) (I A : HI) (a1 : Int32) (a2 : Int32) (a3 : Int32) (hp : vp_in a1 10 ∧ vp_in a2 10) : Ct l yX5_itemOf cX5_itemOf 4 (some .int) 0 0 D ads shp [.inr (some 3), .inl a1, .inl a2, .inl a3] I A (qI (itmI (A 11) a1 a2 a3) I A) := by
  refine k_X5_itemOf l D ads I A a1 a2 a3 _ ⟨hp.1, fun h => ⟨hp.2, fun h2 => qI_i ?_, fun h2 => qI_i ?_⟩, fun h => qI_i ?_⟩
  · simp only [itmI, if_neg h, if_neg h2]
  · simp only [itmI, if_neg h, if_pos h2]
  · simp only [itmI, if_pos h]
theorem bX7_countIn_0_5 : okB cX7_countIn RX7 0 [(5, 0, 0, 0, 0), (23, 16, 7, 2, 0), (3, 1, 0, 0, 0)] := And.intro ⟨_, dX7_countIn_0, rfl⟩ (And.intro ⟨dX7_countIn_1, fl_X7_16⟩ (And.intro ⟨_, dX7_countIn_4, rfl⟩ trivial))
set_option maxHeartbeats 4000000 in
set_option maxRecDepth 100000 in
theorem k_X7_countIn (l : Launch) (D : va_G) (ads : AD) (I A : HI) (a1 : Int32) (po : Option AV → HI → HI → Prop)
    (hv : (vp_in a1 11 ∧ po (some (.inl (A 25 a1.toNatClampNeg))) I A)) : Ct l yX7_countIn cX7_countIn 2 (some .int) 0 0 D ads shp [.inr (some 13), .inl a1] I A po := by
  refine Ct_of (by decide) (Nat.le_of_ble_eq_true rfl) ?_
  intro p e s m args below meth c hC hr
  replace hC : CX p s m args meth c cX7_countIn 2 RX7 (AdS ads s.heap.size) := hC
  show Gm p l e s m args below meth c D ads 0 0 2 po I A 0 [some (.inr (some 13)), some (.inl a1)] []
  refine g_blk hC _ bX7_countIn_0_5 (pc' := 5) (ls' := [some (.inr (some 13)), some (.inl a1)]) (st' := [.inl a1, .inr (some 25)]) (I' := I) rfl rfl ?_
  obtain ⟨hi, hv⟩ := hv
  refine g_iald hC dX7_countIn_5 (rfl) hi ?_
  clear hi
  exact g_reti hC hr rfl dX7_countIn_6 hv
set_option maxHeartbeats 4000000 in
set_option maxRecDepth 100000 in
theorem c_X7_countIn (l : Launch) (D : va_G) (ads : AD) (I A : HI) (a1 : Int32) (hp : vp_in a1 11) : Ct l yX7_countIn cX7_countIn 2 (some .int) 0 0 D ads shp [.inr (some 13), .inl a1] I A (qI (A 25 a1.toNatClampNeg) I A) := by
  exact k_X7_countIn l D ads I A a1 _ ⟨hp, qI_i rfl⟩
theorem bX7_numberAt_0_5 : okB cX7_numberAt RX7 0 [(5, 0, 0, 0, 0), (23, 11, 7, 1, 0), (3, 1, 0, 0, 0)] := And.intro ⟨_, dX7_numberAt_0, rfl⟩ (And.intro ⟨dX7_numberAt_1, fl_X7_11⟩ (And.intro ⟨_, dX7_numberAt_4, rfl⟩ trivial))
theorem bX7_numberAt_6_7 : okB cX7_numberAt RX7 6 [(3, 2, 0, 0, 0)] := And.intro ⟨_, dX7_numberAt_6, rfl⟩ trivial
set_option maxHeartbeats 4000000 in
set_option maxRecDepth 100000 in
theorem k_X7_numberAt (l : Launch) (D : va_G) (ads : AD) (I A : HI) (a1 : Int32) (a2 : Int32) (po : Option AV → HI → HI → Prop)
    (hv : (vp_in a1 10 ∧ (vp_in a2 26 ∧ po (some (.inl (A (15 + a1.toNatClampNeg) a2.toNatClampNeg))) I A))) : Ct l yX7_numberAt cX7_numberAt 3 (some .int) 0 0 D ads shp [.inr (some 13), .inl a1, .inl a2] I A po := by
  refine Ct_of (by decide) (Nat.le_of_ble_eq_true rfl) ?_
  intro p e s m args below meth c hC hr
  replace hC : CX p s m args meth c cX7_numberAt 3 RX7 (AdS ads s.heap.size) := hC
  show Gm p l e s m args below meth c D ads 0 0 3 po I A 0 [some (.inr (some 13)), some (.inl a1), some (.inl a2)] []
  refine g_blk hC _ bX7_numberAt_0_5 (pc' := 5) (ls' := [some (.inr (some 13)), some (.inl a1), some (.inl a2)]) (st' := [.inl a1, .inr (some 14)]) (I' := I) rfl rfl ?_
  obtain ⟨hr1, hv⟩ := hv
  refine g_aald hC dX7_numberAt_5 (f := _) rfl hr1 (ra_14 (vin_lt hr1)) ?_
  refine g_blk hC _ bX7_numberAt_6_7 (pc' := 7) (ls' := [some (.inr (some 13)), some (.inl a1), some (.inl a2)]) (st' := [.inl a2, .inr (some (15 + a1.toNatClampNeg))]) (I' := I) rfl rfl ?_
  obtain ⟨hi, hv⟩ := hv
  refine g_iald hC dX7_numberAt_7 (rw_14 (vin_lt hr1)) hi ?_
  clear hi
  exact g_reti hC hr rfl dX7_numberAt_8 hv
set_option maxHeartbeats 4000000 in
set_option maxRecDepth 100000 in
theorem c_X7_numberAt (l : Launch) (D : va_G) (ads : AD) (I A : HI) (a1 : Int32) (a2 : Int32) (hp : vp_in a1 10 ∧ vp_in a2 26) : Ct l yX7_numberAt cX7_numberAt 3 (some .int) 0 0 D ads shp [.inr (some 13), .inl a1, .inl a2] I A (qI (A (15 + a1.toNatClampNeg) a2.toNatClampNeg) I A) := by
  exact k_X7_numberAt l D ads I A a1 a2 _ ⟨hp.1, hp.2, qI_i rfl⟩
theorem bX7_indexOf_0_2 : okB cX7_indexOf RX7 0 [(0, 0, 0, 0, 0), (7, 3, 0, 0, 0)] := And.intro ⟨_, dX7_indexOf_0, by decide⟩ (And.intro ⟨_, dX7_indexOf_1, rfl⟩ trivial)
theorem bX7_indexOf_2_8 : okB cX7_indexOf RX7 2 [(3, 3, 0, 0, 0), (5, 0, 0, 0, 0), (23, 16, 7, 2, 0), (3, 1, 0, 0, 0)] := And.intro ⟨_, dX7_indexOf_2, rfl⟩ (And.intro ⟨_, dX7_indexOf_3, rfl⟩ (And.intro ⟨dX7_indexOf_4, fl_X7_16⟩ (And.intro ⟨_, dX7_indexOf_7, rfl⟩ trivial)))
theorem bX7_indexOf_32_33 : okB cX7_indexOf RX7 32 [(0, 0, 0, 0, (-1))] := And.intro ⟨_, dX7_indexOf_32, by decide⟩ trivial
theorem bX7_indexOf_12_17 : okB cX7_indexOf RX7 12 [(5, 0, 0, 0, 0), (23, 11, 7, 1, 0), (3, 1, 0, 0, 0)] := And.intro ⟨_, dX7_indexOf_12, rfl⟩ (And.intro ⟨dX7_indexOf_13, fl_X7_11⟩ (And.intro ⟨_, dX7_indexOf_16, rfl⟩ trivial))
theorem bX7_indexOf_18_19 : okB cX7_indexOf RX7 18 [(3, 3, 0, 0, 0)] := And.intro ⟨_, dX7_indexOf_18, rfl⟩ trivial
theorem bX7_indexOf_20_21 : okB cX7_indexOf RX7 20 [(3, 2, 0, 0, 0)] := And.intro ⟨_, dX7_indexOf_20, rfl⟩ trivial
theorem bX7_indexOf_26_29 : okB cX7_indexOf RX7 26 [(11, 3, 0, 0, 1)] := And.intro ⟨_, dX7_indexOf_26, by decide⟩ trivial
theorem bX7_indexOf_24_25 : okB cX7_indexOf RX7 24 [(3, 3, 0, 0, 0)] := And.intro ⟨_, dX7_indexOf_24, rfl⟩ trivial
set_option maxHeartbeats 4000000 in
set_option maxRecDepth 100000 in
theorem k_X7_indexOf (l : Launch) (D : va_G) (ads : AD) (I A : HI) (a1 : Int32) (a2 : Int32) (po : Option AV → HI → HI → Prop) (Iv2 : Int32 → Prop) (mu2 : Int32 → Nat)
    (hv : (Iv2 0 ∧ ∀ (x3_2 : Int32), Iv2 x3_2 → (vp_in a1 11 ∧ (((A 25 a1.toNatClampNeg) ≤ x3_2 → po (some (.inl ((-1)))) I A) ∧ (¬ (A 25 a1.toNatClampNeg) ≤ x3_2 → (vp_in a1 10 ∧ (vp_in x3_2 26 ∧ ((¬ (A (15 + a1.toNatClampNeg) x3_2.toNatClampNeg) = a2 → (Iv2 (x3_2 + 1) ∧ mu2 (x3_2 + 1) < mu2 x3_2)) ∧ ((A (15 + a1.toNatClampNeg) x3_2.toNatClampNeg) = a2 → po (some (.inl x3_2)) I A))))))))) : Ct l yX7_indexOf cX7_indexOf 4 (some .int) 0 0 D ads shp [.inr (some 13), .inl a1, .inl a2] I A po := by
  refine Ct_of (by decide) (Nat.le_of_ble_eq_true rfl) ?_
  intro p e s m args below meth c hC hr
  replace hC : CX p s m args meth c cX7_indexOf 4 RX7 (AdS ads s.heap.size) := hC
  show Gm p l e s m args below meth c D ads 0 0 4 po I A 0 [some (.inr (some 13)), some (.inl a1), some (.inl a2), none] []
  refine g_blk hC _ bX7_indexOf_0_2 (pc' := 2) (ls' := [some (.inr (some 13)), some (.inl a1), some (.inl a2), some (.inl 0)]) (st' := []) (I' := I) rfl rfl ?_
  obtain ⟨hi2, hb2⟩ := hv
  have L2 : ∀ (n : Nat) (x3_2 : Int32), Iv2 x3_2 → mu2 x3_2 < n → Gm p l e s m args below meth c D ads 0 0 4 po I A 2 [some (.inr (some 13)), some (.inl a1), some (.inl a2), some (.inl x3_2)] [] := by
    intro n
    induction n with
    | zero => intro x3_2 _ hn; exact absurd hn (Nat.not_lt_zero _)
    | succ n ih2 =>
      intro x3_2 hv hn2
      replace hv := hb2 x3_2 hv
      skip
      refine g_blk hC _ bX7_indexOf_2_8 (pc' := 8) (ls' := [some (.inr (some 13)), some (.inl a1), some (.inl a2), some (.inl x3_2)]) (st' := [.inl a1, .inr (some 25), .inl x3_2]) (I' := I) rfl rfl ?_
      obtain ⟨hi, hv⟩ := hv
      refine g_iald hC dX7_indexOf_8 (rfl) hi ?_
      clear hi
      obtain ⟨hv1, hv2⟩ := hv
      refine g_cge hC dX7_indexOf_9 (tgt := 32) (by decide) (fun hc => ?_) (fun hc => ?_)
      · have hv := hv1 hc
        clear hv1 hv2 hc
        refine g_blk hC _ bX7_indexOf_32_33 (pc' := 33) (ls' := [some (.inr (some 13)), some (.inl a1), some (.inl a2), some (.inl x3_2)]) (st' := [.inl ((-1))]) (I' := I) rfl rfl ?_
        exact g_reti hC hr rfl dX7_indexOf_33 hv
      · have hv := hv2 hc
        clear hv1 hv2 hc
        refine g_blk hC _ bX7_indexOf_12_17 (pc' := 17) (ls' := [some (.inr (some 13)), some (.inl a1), some (.inl a2), some (.inl x3_2)]) (st' := [.inl a1, .inr (some 14)]) (I' := I) rfl rfl ?_
        obtain ⟨hr1, hv⟩ := hv
        refine g_aald hC dX7_indexOf_17 (f := _) rfl hr1 (ra_14 (vin_lt hr1)) ?_
        refine g_blk hC _ bX7_indexOf_18_19 (pc' := 19) (ls' := [some (.inr (some 13)), some (.inl a1), some (.inl a2), some (.inl x3_2)]) (st' := [.inl x3_2, .inr (some (15 + a1.toNatClampNeg))]) (I' := I) rfl rfl ?_
        obtain ⟨hi, hv⟩ := hv
        refine g_iald hC dX7_indexOf_19 (rw_14 (vin_lt hr1)) hi ?_
        clear hi
        refine g_blk hC _ bX7_indexOf_20_21 (pc' := 21) (ls' := [some (.inr (some 13)), some (.inl a1), some (.inl a2), some (.inl x3_2)]) (st' := [.inl a2, .inl (A (15 + a1.toNatClampNeg) x3_2.toNatClampNeg)]) (I' := I) rfl rfl ?_
        obtain ⟨hv1, hv2⟩ := hv
        refine g_cne hC dX7_indexOf_21 (tgt := 26) (by decide) (fun hc => ?_) (fun hc => ?_)
        · have hv := hv1 hc
          clear hv1 hv2 hc
          refine g_blk hC _ bX7_indexOf_26_29 (pc' := 29) (ls' := [some (.inr (some 13)), some (.inl a1), some (.inl a2), some (.inl (x3_2 + 1))]) (st' := []) (I' := I) rfl rfl ?_
          refine g_goto hC dX7_indexOf_29 (tgt := 2) (by decide) ?_
          exact g_weak (ls1 := [some (.inr (some 13)), some (.inl a1), some (.inl a2), some (.inl (x3_2 + 1))]) rfl (And.intro rfl (And.intro rfl (And.intro rfl (And.intro rfl trivial)))) (ih2 (x3_2 + 1) hv.1 (Nat.lt_of_lt_of_le hv.2 (Nat.le_of_lt_succ hn2)))
        · have hv := hv2 hc
          clear hv1 hv2 hc
          refine g_blk hC _ bX7_indexOf_24_25 (pc' := 25) (ls' := [some (.inr (some 13)), some (.inl a1), some (.inl a2), some (.inl x3_2)]) (st' := [.inl x3_2]) (I' := I) rfl rfl ?_
          exact g_reti hC hr rfl dX7_indexOf_25 hv
  exact g_weak (ls1 := [some (.inr (some 13)), some (.inl a1), some (.inl a2), some (.inl 0)]) rfl (And.intro rfl (And.intro rfl (And.intro rfl (And.intro rfl trivial)))) (L2 _ 0 hi2 (Nat.lt_succ_self _))
set_option maxHeartbeats 4000000 in
set_option maxRecDepth 100000 in
theorem c_X7_indexOf (l : Launch) (D : va_G) (ads : AD) (I A : HI) (a1 : Int32) (a2 : Int32) (hp : vp_in a1 10 ∧ A 25 a1.toNatClampNeg ≤ 26) : Ct l yX7_indexOf cX7_indexOf 4 (some .int) 0 0 D ads shp [.inr (some 13), .inl a1, .inl a2] I A (qI (ixO (A (15 + a1.toNatClampNeg)) (A 25 a1.toNatClampNeg).toNatClampNeg a2) I A) := by
  obtain ⟨hp1, hp2⟩ := hp
  have hp0 : vp_in a1 11 := vi_mono hp1 (by decide)
  generalize hc : A 25 a1.toNatClampNeg = c at hp2 ⊢
  have hcn : c.toNatClampNeg ≤ 26 := by
    rcases Int32.lt_or_le c 0 with q | q
    · rw [clamp_neg q]
      omega
    · obtain ⟨j, z1, rfl⟩ := nI_of (fun h => absurd q (lt_nle h))
      rw [cl_n z1]
      exact (nI_leI z1 (by decide)).mp hp2
  refine k_X7_indexOf l D ads I A a1 a2 _ (fun i => ∃ j, (j = 0 ∨ j ≤ c.toNatClampNeg) ∧ i = nI j ∧ ∀ q, q < j → ¬ A (15 + a1.toNatClampNeg) q = a2) (fun i => 30 - i.toNatClampNeg) ⟨⟨0, Or.inl rfl, rfl, fun q h => absurd h (Nat.not_lt_zero q)⟩, ?_⟩
  rintro i ⟨j, h1, rfl, h2⟩
  rw [hc]
  have hj26 : j ≤ 26 := by omega
  refine ⟨hp0, fun h => qI_i ?_, fun h => ⟨hp1, ?_⟩⟩
  · have hle : c.toNatClampNeg ≤ j := by
      rcases Int32.lt_or_le c 0 with q | q
      · rw [clamp_neg q]
        omega
      · obtain ⟨k, z1, rfl⟩ := nI_of (fun h => absurd q (lt_nle h))
        rw [cl_n z1]
        exact (nI_leI z1 (by omega)).mp h
    unfold ixO
    have hf : (List.range c.toNatClampNeg).find? (fun i => A (15 + a1.toNatClampNeg) i == a2) = none := by
      rw [List.find?_eq_none]
      intro q hq
      have := h2 q (by have := List.mem_range.mp hq; omega)
      simpa using this
    rw [hf]
  · have hlt : nI j < c := nle h
    have hc0 : ¬ c < 0 := fun q => absurd (Int32.lt_trans hlt q) (nI_pos (by omega))
    obtain ⟨k, z1, rfl⟩ := nI_of hc0
    rw [cl_n z1] at hcn h1 ⊢
    have hjk : j < k := (nI_ltI (by omega) z1).mp hlt
    refine ⟨vp_in_nI (by omega) (by decide), fun h3 => ⟨⟨j + 1, Or.inr hjk, nI_1 j, fun q hq => ?_⟩, ?_⟩, fun h3 => qI_i ?_⟩
    · rw [cl_n (by omega)] at h3
      rcases Nat.lt_succ_iff_lt_or_eq.mp hq with z | z
      · exact h2 q z
      · subst z
        exact h3
    · rw [nI_1, cl_n (by omega), cl_n (by omega)]
      omega
    · rw [cl_n (by omega)] at h3
      unfold ixO
      have hf : (List.range k).find? (fun i => A (15 + a1.toNatClampNeg) i == a2) = some j := by
        rw [List.find?_range_eq_some]
        refine ⟨by simpa using h3, List.mem_range.mpr hjk, fun q hq => ?_⟩
        simpa using h2 q hq
      rw [hf]
theorem bX7_fits_0_10 : okB cX7_fits RX7 0 [(5, 0, 0, 0, 0), (23, 16, 7, 2, 0), (9, 1, 0, 0, 0), (5, 1, 0, 0, 0), (27, 0, 0, 0, 0), (7, 2, 0, 0, 0), (0, 0, 0, 0, 0), (7, 3, 0, 0, 0)] := And.intro ⟨_, dX7_fits_0, rfl⟩ (And.intro ⟨dX7_fits_1, fl_X7_16⟩ (And.intro ⟨_, dX7_fits_4, rfl⟩ (And.intro ⟨_, dX7_fits_5, rfl⟩ (And.intro dX7_fits_6 (And.intro ⟨_, dX7_fits_7, rfl⟩ (And.intro ⟨_, dX7_fits_8, by decide⟩ (And.intro ⟨_, dX7_fits_9, rfl⟩ trivial)))))))
theorem bX7_fits_10_12 : okB cX7_fits RX7 10 [(3, 3, 0, 0, 0), (3, 2, 0, 0, 0)] := And.intro ⟨_, dX7_fits_10, rfl⟩ (And.intro ⟨_, dX7_fits_11, rfl⟩ trivial)
theorem bX7_fits_34_35 : okB cX7_fits RX7 34 [(0, 0, 0, 0, 1)] := And.intro ⟨_, dX7_fits_34, by decide⟩ trivial
theorem bX7_fits_15_17 : okB cX7_fits RX7 15 [(5, 1, 0, 0, 0), (3, 3, 0, 0, 0)] := And.intro ⟨_, dX7_fits_15, rfl⟩ (And.intro ⟨_, dX7_fits_16, rfl⟩ trivial)
theorem bX7_fits_18_23 : okB cX7_fits RX7 18 [(8, 4, 0, 0, 0), (4, 4, 0, 0, 0), (0, 0, 0, 0, 5)] := And.intro dX7_fits_18 (And.intro dX7_fits_20 (And.intro ⟨_, dX7_fits_22, by decide⟩ trivial))
theorem bX7_fits_28_31 : okB cX7_fits RX7 28 [(11, 3, 0, 0, 1)] := And.intro ⟨_, dX7_fits_28, by decide⟩ trivial
theorem bX7_fits_26_27 : okB cX7_fits RX7 26 [(0, 0, 0, 0, 0)] := And.intro ⟨_, dX7_fits_26, by decide⟩ trivial
set_option maxHeartbeats 4000000 in
set_option maxRecDepth 100000 in
theorem k_X7_fits (l : Launch) (D : va_G) (ads : AD) (I A : HI) (po : Option AV → HI → HI → Prop) (Iv10 : Int32 → Prop) (mu10 : Int32 → Nat)
    (hv : (Iv10 0 ∧ ∀ (x3_10 : Int32), Iv10 x3_10 → (((Int32.ofNat 11) ≤ x3_10 → po (some (.inl 1)) I A) ∧ (¬ (Int32.ofNat 11) ≤ x3_10 → (vp_in x3_10 11 ∧ (((A 25 x3_10.toNatClampNeg) ≤ 5 → (Iv10 (x3_10 + 1) ∧ mu10 (x3_10 + 1) < mu10 x3_10)) ∧ (¬ (A 25 x3_10.toNatClampNeg) ≤ 5 → po (some (.inl 0)) I A))))))) : Ct l yX7_fits cX7_fits 5 (some .boolean) 0 0 D ads shp [.inr (some 13)] I A po := by
  refine Ct_of (by decide) (Nat.le_of_ble_eq_true rfl) ?_
  intro p e s m args below meth c hC hr
  replace hC : CX p s m args meth c cX7_fits 5 RX7 (AdS ads s.heap.size) := hC
  show Gm p l e s m args below meth c D ads 0 0 5 po I A 0 [some (.inr (some 13)), none, none, none, none] []
  refine g_blk hC _ bX7_fits_0_10 (pc' := 10) (ls' := [some (.inr (some 13)), some (.inr (some 25)), some (.inl (Int32.ofNat 11)), some (.inl 0), none]) (st' := []) (I' := I) rfl rfl ?_
  obtain ⟨hi10, hb10⟩ := hv
  have L10 : ∀ (n : Nat) (x3_10 : Int32), Iv10 x3_10 → mu10 x3_10 < n → Gm p l e s m args below meth c D ads 0 0 5 po I A 10 [none, some (.inr (some 25)), some (.inl (Int32.ofNat 11)), some (.inl x3_10), none] [] := by
    intro n
    induction n with
    | zero => intro x3_10 _ hn; exact absurd hn (Nat.not_lt_zero _)
    | succ n ih10 =>
      intro x3_10 hv hn10
      replace hv := hb10 x3_10 hv
      skip
      refine g_blk hC _ bX7_fits_10_12 (pc' := 12) (ls' := [none, some (.inr (some 25)), some (.inl (Int32.ofNat 11)), some (.inl x3_10), none]) (st' := [.inl (Int32.ofNat 11), .inl x3_10]) (I' := I) rfl rfl ?_
      obtain ⟨hv1, hv2⟩ := hv
      refine g_cge hC dX7_fits_12 (tgt := 34) (by decide) (fun hc => ?_) (fun hc => ?_)
      · have hv := hv1 hc
        clear hv1 hv2 hc
        refine g_blk hC _ bX7_fits_34_35 (pc' := 35) (ls' := [none, some (.inr (some 25)), some (.inl (Int32.ofNat 11)), some (.inl x3_10), none]) (st' := [.inl 1]) (I' := I) rfl rfl ?_
        exact g_reti hC hr (by decide) dX7_fits_35 hv
      · have hv := hv2 hc
        clear hv1 hv2 hc
        refine g_blk hC _ bX7_fits_15_17 (pc' := 17) (ls' := [none, some (.inr (some 25)), some (.inl (Int32.ofNat 11)), some (.inl x3_10), none]) (st' := [.inl x3_10, .inr (some 25)]) (I' := I) rfl rfl ?_
        obtain ⟨hi, hv⟩ := hv
        refine g_iald hC dX7_fits_17 (rfl) hi ?_
        clear hi
        refine g_blk hC _ bX7_fits_18_23 (pc' := 23) (ls' := [none, some (.inr (some 25)), some (.inl (Int32.ofNat 11)), some (.inl x3_10), some (.inl (A 25 x3_10.toNatClampNeg))]) (st' := [.inl 5, .inl (A 25 x3_10.toNatClampNeg)]) (I' := I) rfl rfl ?_
        obtain ⟨hv1, hv2⟩ := hv
        refine g_cle hC dX7_fits_23 (tgt := 28) (by decide) (fun hc => ?_) (fun hc => ?_)
        · have hv := hv1 hc
          clear hv1 hv2 hc
          refine g_blk hC _ bX7_fits_28_31 (pc' := 31) (ls' := [none, some (.inr (some 25)), some (.inl (Int32.ofNat 11)), some (.inl (x3_10 + 1)), some (.inl (A 25 x3_10.toNatClampNeg))]) (st' := []) (I' := I) rfl rfl ?_
          refine g_goto hC dX7_fits_31 (tgt := 10) (by decide) ?_
          exact g_weak (ls1 := [none, some (.inr (some 25)), some (.inl (Int32.ofNat 11)), some (.inl (x3_10 + 1)), none]) rfl (And.intro rfl (And.intro rfl (And.intro rfl trivial))) (ih10 (x3_10 + 1) hv.1 (Nat.lt_of_lt_of_le hv.2 (Nat.le_of_lt_succ hn10)))
        · have hv := hv2 hc
          clear hv1 hv2 hc
          refine g_blk hC _ bX7_fits_26_27 (pc' := 27) (ls' := [none, some (.inr (some 25)), some (.inl (Int32.ofNat 11)), some (.inl x3_10), some (.inl (A 25 x3_10.toNatClampNeg))]) (st' := [.inl 0]) (I' := I) rfl rfl ?_
          exact g_reti hC hr (by decide) dX7_fits_27 hv
  exact g_weak (ls1 := [none, some (.inr (some 25)), some (.inl (Int32.ofNat 11)), some (.inl 0), none]) rfl (And.intro rfl (And.intro rfl (And.intro rfl trivial))) (L10 _ 0 hi10 (Nat.lt_succ_self _))
set_option maxHeartbeats 4000000 in
set_option maxRecDepth 100000 in
theorem c_X7_fits (l : Launch) (D : va_G) (ads : AD) (I A : HI) : Ct l yX7_fits cX7_fits 5 (some .boolean) 0 0 D ads shp [.inr (some 13)] I A (qI (fitI (A 25)) I A) := by
  refine k_X7_fits l D ads I A _ (fun i => ∃ j, j ≤ 11 ∧ i = nI j ∧ ∀ q, q < j → A 25 q ≤ 5) (fun i => 11 - i.toNatClampNeg) ⟨⟨0, Nat.zero_le _, rfl, fun q h => absurd h (Nat.not_lt_zero q)⟩, ?_⟩
  rintro i ⟨j, h1, rfl, h2⟩
  refine ⟨fun h => qI_i ?_, fun h => ?_⟩
  · have e := cn_eq rfl h1 (by decide) h
    subst e
    unfold fitI
    rw [if_pos]
    rw [List.all_eq_true]
    intro q hq
    simpa using h2 q (List.mem_range.mp hq)
  · have hj := cn_lt rfl h1 (by decide) h
    refine ⟨vp_in_nI hj (by decide), fun h3 => ⟨⟨j + 1, hj, nI_1 j, fun q hq => ?_⟩, cn_mu hj (by decide)⟩, fun h3 => qI_i ?_⟩
    · rw [cl_n (by omega)] at h3
      rcases Nat.lt_succ_iff_lt_or_eq.mp hq with z | z
      · exact h2 q z
      · subst z
        exact h3
    · rw [cl_n (by omega)] at h3
      unfold fitI
      rw [if_neg]
      rw [List.all_eq_true]
      intro z
      have := z j (List.mem_range.mpr hj)
      simp only [decide_eq_true_eq] at this
      exact h3 this
theorem bX7_add_0_5 : okB cX7_add RX7 0 [(5, 0, 0, 0, 0), (23, 16, 7, 2, 0), (3, 1, 0, 0, 0)] := And.intro ⟨_, dX7_add_0, rfl⟩ (And.intro ⟨dX7_add_1, fl_X7_16⟩ (And.intro ⟨_, dX7_add_4, rfl⟩ trivial))
theorem bX7_add_6_11 : okB cX7_add RX7 6 [(5, 0, 0, 0, 0), (23, 11, 7, 1, 0), (3, 1, 0, 0, 0)] := And.intro ⟨_, dX7_add_6, rfl⟩ (And.intro ⟨dX7_add_7, fl_X7_11⟩ (And.intro ⟨_, dX7_add_10, rfl⟩ trivial))
theorem bX7_add_16_21 : okB cX7_add RX7 16 [(5, 0, 0, 0, 0), (23, 11, 7, 1, 0), (3, 1, 0, 0, 0)] := And.intro ⟨_, dX7_add_16, rfl⟩ (And.intro ⟨dX7_add_17, fl_X7_11⟩ (And.intro ⟨_, dX7_add_20, rfl⟩ trivial))
theorem bX7_add_22_27 : okB cX7_add RX7 22 [(5, 0, 0, 0, 0), (23, 16, 7, 2, 0), (3, 1, 0, 0, 0)] := And.intro ⟨_, dX7_add_22, rfl⟩ (And.intro ⟨dX7_add_23, fl_X7_16⟩ (And.intro ⟨_, dX7_add_26, rfl⟩ trivial))
theorem bX7_add_28_29 : okB cX7_add RX7 28 [(3, 2, 0, 0, 0)] := And.intro ⟨_, dX7_add_28, rfl⟩ trivial
theorem bX7_add_30_36 : okB cX7_add RX7 30 [(5, 0, 0, 0, 0), (23, 16, 7, 2, 0), (3, 1, 0, 0, 0), (22, 0, 0, 0, 0)] := And.intro ⟨_, dX7_add_30, rfl⟩ (And.intro ⟨dX7_add_31, fl_X7_16⟩ (And.intro ⟨_, dX7_add_34, rfl⟩ (And.intro dX7_add_35 trivial)))
theorem bX7_add_37_39 : okB cX7_add RX7 37 [(0, 0, 0, 0, 1), (12, 0, 0, 0, 0)] := And.intro ⟨_, dX7_add_37, by decide⟩ (And.intro dX7_add_38 trivial)
set_option maxHeartbeats 4000000 in
set_option maxRecDepth 100000 in
theorem k_X7_add (l : Launch) (D : va_G) (ads : AD) (I A : HI) (a1 : Int32) (a2 : Int32) (po : Option AV → HI → HI → Prop)
    (hv : (vp_in a1 11 ∧ (vp_in a1 10 ∧ (((Int32.ofNat 26) ≤ (A 25 a1.toNatClampNeg) → po none I A) ∧ (¬ (Int32.ofNat 26) ≤ (A 25 a1.toNatClampNeg) → (vp_in a1 10 ∧ (vp_in a1 11 ∧ (vp_in (A 25 a1.toNatClampNeg) 26 ∧ (vp_in a1 11 ∧ (vp_in a1 11 ∧ po none I (up2 (up2 A (15 + a1.toNatClampNeg) (A 25 a1.toNatClampNeg).toNatClampNeg a2) 25 a1.toNatClampNeg (((up2 A (15 + a1.toNatClampNeg) (A 25 a1.toNatClampNeg).toNatClampNeg a2) 25 a1.toNatClampNeg) + 1)))))))))))) : Ct l yX7_add cX7_add 3 none 0 0 D ads shp [.inr (some 13), .inl a1, .inl a2] I A po := by
  refine Ct_of (by decide) (Nat.le_of_ble_eq_true rfl) ?_
  intro p e s m args below meth c hC hr
  replace hC : CX p s m args meth c cX7_add 3 RX7 (AdS ads s.heap.size) := hC
  show Gm p l e s m args below meth c D ads 0 0 3 po I A 0 [some (.inr (some 13)), some (.inl a1), some (.inl a2)] []
  refine g_blk hC _ bX7_add_0_5 (pc' := 5) (ls' := [some (.inr (some 13)), some (.inl a1), some (.inl a2)]) (st' := [.inl a1, .inr (some 25)]) (I' := I) rfl rfl ?_
  obtain ⟨hi, hv⟩ := hv
  refine g_iald hC dX7_add_5 (rfl) hi ?_
  clear hi
  refine g_blk hC _ bX7_add_6_11 (pc' := 11) (ls' := [some (.inr (some 13)), some (.inl a1), some (.inl a2)]) (st' := [.inl a1, .inr (some 14), .inl (A 25 a1.toNatClampNeg)]) (I' := I) rfl rfl ?_
  obtain ⟨hr1, hv⟩ := hv
  refine g_aald hC dX7_add_11 (f := _) rfl hr1 (ra_14 (vin_lt hr1)) ?_
  refine g_alen hC dX7_add_12 (rw_14 (vin_lt hr1)) ?_
  obtain ⟨hv1, hv2⟩ := hv
  refine g_cge hC dX7_add_13 (tgt := 40) (by decide) (fun hc => ?_) (fun hc => ?_)
  · have hv := hv1 hc
    clear hv1 hv2 hc
    exact g_retv hC hr dX7_add_40 hv
  · have hv := hv2 hc
    clear hv1 hv2 hc
    refine g_blk hC _ bX7_add_16_21 (pc' := 21) (ls' := [some (.inr (some 13)), some (.inl a1), some (.inl a2)]) (st' := [.inl a1, .inr (some 14)]) (I' := I) rfl rfl ?_
    obtain ⟨hr2, hv⟩ := hv
    refine g_aald hC dX7_add_21 (f := _) rfl hr2 (ra_14 (vin_lt hr2)) ?_
    refine g_blk hC _ bX7_add_22_27 (pc' := 27) (ls' := [some (.inr (some 13)), some (.inl a1), some (.inl a2)]) (st' := [.inl a1, .inr (some 25), .inr (some (15 + a1.toNatClampNeg))]) (I' := I) rfl rfl ?_
    obtain ⟨hi, hv⟩ := hv
    refine g_iald hC dX7_add_27 (rfl) hi ?_
    clear hi
    refine g_blk hC _ bX7_add_28_29 (pc' := 29) (ls' := [some (.inr (some 13)), some (.inl a1), some (.inl a2)]) (st' := [.inl a2, .inl (A 25 a1.toNatClampNeg), .inr (some (15 + a1.toNatClampNeg))]) (I' := I) rfl rfl ?_
    obtain ⟨hi, hv⟩ := hv
    refine g_iast hC dX7_add_29 (rw_14 (vin_lt hr2)) hi ?_
    clear hi
    refine g_blk hC _ bX7_add_30_36 (pc' := 36) (ls' := [some (.inr (some 13)), some (.inl a1), some (.inl a2)]) (st' := [.inl a1, .inr (some 25), .inl a1, .inr (some 25)]) (I' := I) rfl rfl ?_
    obtain ⟨hi, hv⟩ := hv
    refine g_iald hC dX7_add_36 (rfl) hi ?_
    clear hi
    refine g_blk hC _ bX7_add_37_39 (pc' := 39) (ls' := [some (.inr (some 13)), some (.inl a1), some (.inl a2)]) (st' := [.inl (((up2 A (15 + a1.toNatClampNeg) (A 25 a1.toNatClampNeg).toNatClampNeg a2) 25 a1.toNatClampNeg) + 1), .inl a1, .inr (some 25)]) (I' := I) rfl rfl ?_
    obtain ⟨hi, hv⟩ := hv
    refine g_iast hC dX7_add_39 (rfl) hi ?_
    clear hi
    exact g_retv hC hr dX7_add_40 hv
set_option maxHeartbeats 4000000 in
set_option maxRecDepth 100000 in
theorem c_X7_add (l : Launch) (D : va_G) (ads : AD) (I A : HI) (a1 : Int32) (a2 : Int32) (hp : vp_in a1 10 ∧ 0 ≤ A 25 a1.toNatClampNeg) : Ct l yX7_add cX7_add 3 none 0 0 D ads shp [.inr (some 13), .inl a1, .inl a2] I A (qN I (addA A a1 a2)) := by
  obtain ⟨h1, h2⟩ := hp
  have h11 : vp_in a1 11 := vi_mono h1 (by decide)
  refine k_X7_add l D ads I A a1 a2 _ ⟨h11, h1, fun h => qN_i rfl ?_, fun h => ⟨h1, h11, ?_, h11, h11, qN_i rfl ?_⟩⟩
  · unfold addA
    rw [if_neg]
    exact le_nlt h
  · have h0 : ¬ A 25 a1.toNatClampNeg < 0 := le_nlt h2
    obtain ⟨j, z1, z2⟩ := nI_of h0
    rw [z2] at h ⊢
    exact vp_in_nI (Nat.lt_of_not_le fun q => h (nI_le q z1)) (by decide)
  · unfold addA
    have e : A 25 a1.toNatClampNeg < 26 := nle h
    rw [if_pos e, up2_k (show (25 : Nat) ≠ 15 + a1.toNatClampNeg by have := vin_lt h1; omega)]
theorem bX4_holds_0_4 : okB cX4_holds RX4 0 [(5, 0, 0, 0, 0), (23, 18, 4, 2, 0)] := And.intro ⟨_, dX4_holds_0, rfl⟩ (And.intro ⟨dX4_holds_1, fl_X4_18⟩ trivial)
set_option maxHeartbeats 4000000 in
set_option maxRecDepth 100000 in
theorem k_X4_holds (l : Launch) (D : va_G) (ads : AD) (I A : HI) (po : Option AV → HI → HI → Prop)
    (hv : (((I 26 2) = 0 ∨ (I 26 2) = 1) ∧ po (some (.inl (I 26 2))) I A)) : Ct l yX4_holds cX4_holds 1 (some .boolean) 0 0 D ads shp [.inr (some 26)] I A po := by
  refine Ct_of (by decide) (Nat.le_of_ble_eq_true rfl) ?_
  intro p e s m args below meth c hC hr
  replace hC : CX p s m args meth c cX4_holds 1 RX4 (AdS ads s.heap.size) := hC
  show Gm p l e s m args below meth c D ads 0 0 1 po I A 0 [some (.inr (some 26))] []
  refine g_blk hC _ bX4_holds_0_4 (pc' := 4) (ls' := [some (.inr (some 26))]) (st' := [.inl (I 26 2)]) (I' := I) rfl rfl ?_
  exact g_reti hC hr (nar_z hv.1).1 dX4_holds_4 hv.2
set_option maxHeartbeats 4000000 in
set_option maxRecDepth 100000 in
theorem c_X4_holds (l : Launch) (D : va_G) (ads : AD) (I A : HI) (hp : I 26 2 = 0 ∨ I 26 2 = 1) : Ct l yX4_holds cX4_holds 1 (some .boolean) 0 0 D ads shp [.inr (some 26)] I A (qI (I 26 2) I A) := by
  exact k_X4_holds l D ads I A _ ⟨hp, qI_i rfl⟩
theorem bX4_hold_0_5 : okB cX4_hold RX4 0 [(5, 0, 0, 0, 0), (0, 0, 0, 0, 1), (25, 18, 4, 2, 0)] := And.intro ⟨_, dX4_hold_0, rfl⟩ (And.intro ⟨_, dX4_hold_1, by decide⟩ (And.intro ⟨dX4_hold_2, fl_X4_18, rfl, rfl⟩ trivial))
set_option maxHeartbeats 4000000 in
set_option maxRecDepth 100000 in
theorem k_X4_hold (l : Launch) (D : va_G) (ads : AD) (I A : HI) (po : Option AV → HI → HI → Prop)
    (hv : po none (up2 I 26 2 1) A) : Ct l yX4_hold cX4_hold 1 none 0 0 D ads shp [.inr (some 26)] I A po := by
  refine Ct_of (by decide) (Nat.le_of_ble_eq_true rfl) ?_
  intro p e s m args below meth c hC hr
  replace hC : CX p s m args meth c cX4_hold 1 RX4 (AdS ads s.heap.size) := hC
  show Gm p l e s m args below meth c D ads 0 0 1 po I A 0 [some (.inr (some 26))] []
  refine g_blk hC _ bX4_hold_0_5 (pc' := 5) (ls' := [some (.inr (some 26))]) (st' := []) (I' := up2 I 26 2 1) rfl rfl ?_
  exact g_retv hC hr dX4_hold_5 hv
set_option maxHeartbeats 4000000 in
set_option maxRecDepth 100000 in
theorem c_X4_hold (l : Launch) (D : va_G) (ads : AD) (I A : HI) : Ct l yX4_hold cX4_hold 1 none 0 0 D ads shp [.inr (some 26)] I A (qN (up2 I 26 2 1) A) := by
  exact k_X4_hold l D ads I A _ (qN_i rfl rfl)
theorem bX4_empty_0_5 : okB cX4_empty RX4 0 [(5, 0, 0, 0, 0), (23, 9, 4, 0, 0), (0, 0, 0, 0, (-1))] := And.intro ⟨_, dX4_empty_0, rfl⟩ (And.intro ⟨dX4_empty_1, fl_X4_9⟩ (And.intro ⟨_, dX4_empty_4, by decide⟩ trivial))
theorem bX4_empty_8_13 : okB cX4_empty RX4 8 [(5, 0, 0, 0, 0), (0, 0, 0, 0, 0), (25, 18, 4, 2, 0)] := And.intro ⟨_, dX4_empty_8, rfl⟩ (And.intro ⟨_, dX4_empty_9, by decide⟩ (And.intro ⟨dX4_empty_10, fl_X4_18, rfl, rfl⟩ trivial))
set_option maxHeartbeats 4000000 in
set_option maxRecDepth 100000 in
theorem k_X4_empty (l : Launch) (D : va_G) (ads : AD) (I A : HI) (po : Option AV → HI → HI → Prop)
    (hv : po none (up2 I 26 2 0) (filA A 27 10 ((-1)))) : Ct l yX4_empty cX4_empty 1 none 1 23 D ads shp [.inr (some 26)] I A po := by
  refine Ct_of (by decide) (Nat.le_of_ble_eq_true rfl) ?_
  intro p e s m args below meth c hC hr
  replace hC : CX p s m args meth c cX4_empty 1 RX4 (AdS ads s.heap.size) := hC
  show Gm p l e s m args below meth c D ads 1 23 1 po I A 0 [some (.inr (some 26))] []
  refine g_blk hC _ bX4_empty_0_5 (pc' := 5) (ls' := [some (.inr (some 26))]) (st' := [.inl ((-1)), .inr (some 27)]) (I' := I) rfl rfl ?_
  refine g_callS hC (c_J7_fill_53178 l D ads I A 27 ((-1)) 10 (rfl) (by decide)) dX4_empty_5 nm_J7_fill_53178 wl_X4_22 wt_J7_fill_53178 wn_J7 wc_J7_fill_53178 ⟨by decide, by decide⟩ (as := [.inr (some 27), .inl ((-1))]) (rest := []) rfl (Nat.le_of_ble_eq_true rfl) ⟨Nat.le_refl _, Nat.le_refl _⟩ (k_qN ?_)
  refine g_blk hC _ bX4_empty_8_13 (pc' := 13) (ls' := [some (.inr (some 26))]) (st' := []) (I' := up2 I 26 2 0) rfl rfl ?_
  exact g_retv hC hr dX4_empty_13 hv
set_option maxHeartbeats 4000000 in
set_option maxRecDepth 100000 in
theorem c_X4_empty (l : Launch) (D : va_G) (ads : AD) (I A : HI) : Ct l yX4_empty cX4_empty 1 none 1 23 D ads shp [.inr (some 26)] I A (qN (up2 I 26 2 0) (filA A 27 10 (-1))) := by
  exact k_X4_empty l D ads I A _ (qN_i rfl rfl)
theorem bX4_note_0_1 : okB cX4_note RX4 0 [(3, 1, 0, 0, 0)] := And.intro ⟨_, dX4_note_0, rfl⟩ trivial
theorem bX4_note_7_13 : okB cX4_note RX4 7 [(5, 0, 0, 0, 0), (23, 9, 4, 0, 0), (3, 1, 0, 0, 0), (3, 2, 0, 0, 0)] := And.intro ⟨_, dX4_note_7, rfl⟩ (And.intro ⟨dX4_note_8, fl_X4_9⟩ (And.intro ⟨_, dX4_note_11, rfl⟩ (And.intro ⟨_, dX4_note_12, rfl⟩ trivial)))
theorem bX4_note_14_20 : okB cX4_note RX4 14 [(5, 0, 0, 0, 0), (23, 15, 4, 1, 0), (3, 1, 0, 0, 0), (3, 3, 0, 0, 0)] := And.intro ⟨_, dX4_note_14, rfl⟩ (And.intro ⟨dX4_note_15, fl_X4_15⟩ (And.intro ⟨_, dX4_note_18, rfl⟩ (And.intro ⟨_, dX4_note_19, rfl⟩ trivial)))
set_option maxHeartbeats 4000000 in
set_option maxRecDepth 100000 in
theorem k_X4_note (l : Launch) (D : va_G) (ads : AD) (I A : HI) (a1 : Int32) (a2 : Int32) (a3 : Int32) (po : Option AV → HI → HI → Prop)
    (hv : (((zP a1) = 0 → po none I A) ∧ (¬ (zP a1) = 0 → (vp_in a1 10 ∧ (vp_in a1 10 ∧ po none I (up2 (up2 A 27 a1.toNatClampNeg a2) 28 a1.toNatClampNeg a3)))))) : Ct l yX4_note cX4_note 4 none 1 20 D ads shp [.inr (some 26), .inl a1, .inl a2, .inl a3] I A po := by
  refine Ct_of (by decide) (Nat.le_of_ble_eq_true rfl) ?_
  intro p e s m args below meth c hC hr
  replace hC : CX p s m args meth c cX4_note 4 RX4 (AdS ads s.heap.size) := hC
  show Gm p l e s m args below meth c D ads 1 20 4 po I A 0 [some (.inr (some 26)), some (.inl a1), some (.inl a2), some (.inl a3)] []
  refine g_blk hC _ bX4_note_0_1 (pc' := 1) (ls' := [some (.inr (some 26)), some (.inl a1), some (.inl a2), some (.inl a3)]) (st' := [.inl a1]) (I' := I) rfl rfl ?_
  refine g_callN (host := RX8) hC (c_X8_isPlace l D ads I A a1) dX4_note_1 nm_X8_isPlace (List.mem_of_getElem? (i := 7) rfl) wt_X8_isPlace wn_X8 wc_X8_isPlace ⟨by decide, by decide⟩ (as := [.inl a1]) (rest := []) rfl (Nat.le_of_ble_eq_true rfl) ⟨Nat.le_refl _, Nat.le_refl _⟩ (k_qI ?_)
  obtain ⟨hv1, hv2⟩ := hv
  refine g_ifeq hC dX4_note_4 (tgt := 21) (by decide) (fun hc => ?_) (fun hc => ?_)
  · have hv := hv1 hc
    clear hv1 hv2 hc
    exact g_retv hC hr dX4_note_21 hv
  · have hv := hv2 hc
    clear hv1 hv2 hc
    refine g_blk hC _ bX4_note_7_13 (pc' := 13) (ls' := [some (.inr (some 26)), some (.inl a1), some (.inl a2), some (.inl a3)]) (st' := [.inl a2, .inl a1, .inr (some 27)]) (I' := I) rfl rfl ?_
    obtain ⟨hi, hv⟩ := hv
    refine g_iast hC dX4_note_13 (rfl) hi ?_
    clear hi
    refine g_blk hC _ bX4_note_14_20 (pc' := 20) (ls' := [some (.inr (some 26)), some (.inl a1), some (.inl a2), some (.inl a3)]) (st' := [.inl a3, .inl a1, .inr (some 28)]) (I' := I) rfl rfl ?_
    obtain ⟨hi, hv⟩ := hv
    refine g_iast hC dX4_note_20 (rfl) hi ?_
    clear hi
    exact g_retv hC hr dX4_note_21 hv
set_option maxHeartbeats 4000000 in
set_option maxRecDepth 100000 in
theorem c_X4_note (l : Launch) (D : va_G) (ads : AD) (I A : HI) (a1 : Int32) (a2 : Int32) (a3 : Int32) : Ct l yX4_note cX4_note 4 none 1 20 D ads shp [.inr (some 26), .inl a1, .inl a2, .inl a3] I A (qN I (notA A a1 a2 a3)) := by
  refine k_X4_note l D ads I A a1 a2 a3 _ ⟨fun h => qN_i rfl ?_, fun h => ?_⟩
  · simp [notA, h]
  · obtain ⟨j, h1, rfl⟩ := zP_ne h
    refine ⟨vp_in_nI h1 (by decide), vp_in_nI h1 (by decide), qN_i rfl ?_⟩
    simp only [notA, if_neg h]
theorem bX4_moves_0_2 : okB cX4_moves RX4 0 [(3, 1, 0, 0, 0), (3, 2, 0, 0, 0)] := And.intro ⟨_, dX4_moves_0, rfl⟩ (And.intro ⟨_, dX4_moves_1, rfl⟩ trivial)
theorem bX4_moves_18_19 : okB cX4_moves RX4 18 [(0, 0, 0, 0, 0)] := And.intro ⟨_, dX4_moves_18, by decide⟩ trivial
theorem bX4_moves_8_13 : okB cX4_moves RX4 8 [(5, 0, 0, 0, 0), (23, 9, 4, 0, 0), (3, 1, 0, 0, 0)] := And.intro ⟨_, dX4_moves_8, rfl⟩ (And.intro ⟨dX4_moves_9, fl_X4_9⟩ (And.intro ⟨_, dX4_moves_12, rfl⟩ trivial))
theorem bX4_moves_14_15 : okB cX4_moves RX4 14 [(0, 0, 0, 0, (-1))] := And.intro ⟨_, dX4_moves_14, by decide⟩ trivial
theorem bX4_moves_20_25 : okB cX4_moves RX4 20 [(5, 0, 0, 0, 0), (23, 9, 4, 0, 0), (3, 1, 0, 0, 0)] := And.intro ⟨_, dX4_moves_20, rfl⟩ (And.intro ⟨dX4_moves_21, fl_X4_9⟩ (And.intro ⟨_, dX4_moves_24, rfl⟩ trivial))
theorem bX4_moves_26_31 : okB cX4_moves RX4 26 [(5, 0, 0, 0, 0), (23, 9, 4, 0, 0), (3, 2, 0, 0, 0)] := And.intro ⟨_, dX4_moves_26, rfl⟩ (And.intro ⟨dX4_moves_27, fl_X4_9⟩ (And.intro ⟨_, dX4_moves_30, rfl⟩ trivial))
theorem bX4_moves_54_55 : okB cX4_moves RX4 54 [(0, 0, 0, 0, 0)] := And.intro ⟨_, dX4_moves_54, by decide⟩ trivial
theorem bX4_moves_35_40 : okB cX4_moves RX4 35 [(5, 0, 0, 0, 0), (23, 15, 4, 1, 0), (3, 1, 0, 0, 0)] := And.intro ⟨_, dX4_moves_35, rfl⟩ (And.intro ⟨dX4_moves_36, fl_X4_15⟩ (And.intro ⟨_, dX4_moves_39, rfl⟩ trivial))
theorem bX4_moves_41_46 : okB cX4_moves RX4 41 [(5, 0, 0, 0, 0), (23, 15, 4, 1, 0), (3, 2, 0, 0, 0)] := And.intro ⟨_, dX4_moves_41, rfl⟩ (And.intro ⟨dX4_moves_42, fl_X4_15⟩ (And.intro ⟨_, dX4_moves_45, rfl⟩ trivial))
theorem bX4_moves_50_51 : okB cX4_moves RX4 50 [(0, 0, 0, 0, 1)] := And.intro ⟨_, dX4_moves_50, by decide⟩ trivial
set_option maxHeartbeats 4000000 in
set_option maxRecDepth 100000 in
theorem k_X4_moves (l : Launch) (D : va_G) (ads : AD) (I A : HI) (a1 : Int32) (a2 : Int32) (po : Option AV → HI → HI → Prop)
    (hv : (((zPP a1 a2) = 0 → po (some (.inl 0)) I A) ∧ (¬ (zPP a1 a2) = 0 → (vp_in a1 10 ∧ ((¬ (A 27 a1.toNatClampNeg) = ((-1)) → (vp_in a1 10 ∧ (vp_in a2 10 ∧ ((¬ (A 27 a1.toNatClampNeg) = (A 27 a2.toNatClampNeg) → po (some (.inl 0)) I A) ∧ ((A 27 a1.toNatClampNeg) = (A 27 a2.toNatClampNeg) → (vp_in a1 10 ∧ (vp_in a2 10 ∧ (((A 28 a1.toNatClampNeg) ≤ (A 28 a2.toNatClampNeg) → po (some (.inl 0)) I A) ∧ (¬ (A 28 a1.toNatClampNeg) ≤ (A 28 a2.toNatClampNeg) → po (some (.inl 1)) I A))))))))) ∧ ((A 27 a1.toNatClampNeg) = ((-1)) → po (some (.inl 0)) I A)))))) : Ct l yX4_moves cX4_moves 3 (some .int) 1 21 D ads shp [.inr (some 26), .inl a1, .inl a2] I A po := by
  refine Ct_of (by decide) (Nat.le_of_ble_eq_true rfl) ?_
  intro p e s m args below meth c hC hr
  replace hC : CX p s m args meth c cX4_moves 3 RX4 (AdS ads s.heap.size) := hC
  show Gm p l e s m args below meth c D ads 1 21 3 po I A 0 [some (.inr (some 26)), some (.inl a1), some (.inl a2)] []
  refine g_blk hC _ bX4_moves_0_2 (pc' := 2) (ls' := [some (.inr (some 26)), some (.inl a1), some (.inl a2)]) (st' := [.inl a2, .inl a1]) (I' := I) rfl rfl ?_
  refine g_callN (host := RX8) hC (c_X8_arePlaces l D ads I A a1 a2) dX4_moves_2 nm_X8_arePlaces (List.mem_of_getElem? (i := 5) rfl) wt_X8_arePlaces wn_X8 wc_X8_arePlaces ⟨by decide, by decide⟩ (as := [.inl a1, .inl a2]) (rest := []) rfl (Nat.le_of_ble_eq_true rfl) ⟨Nat.le_refl _, Nat.le_refl _⟩ (k_qI ?_)
  obtain ⟨hv1, hv2⟩ := hv
  refine g_ifeq hC dX4_moves_5 (tgt := 18) (by decide) (fun hc => ?_) (fun hc => ?_)
  · have hv := hv1 hc
    clear hv1 hv2 hc
    refine g_blk hC _ bX4_moves_18_19 (pc' := 19) (ls' := [some (.inr (some 26)), some (.inl a1), some (.inl a2)]) (st' := [.inl 0]) (I' := I) rfl rfl ?_
    exact g_reti hC hr rfl dX4_moves_19 hv
  · have hv := hv2 hc
    clear hv1 hv2 hc
    refine g_blk hC _ bX4_moves_8_13 (pc' := 13) (ls' := [some (.inr (some 26)), some (.inl a1), some (.inl a2)]) (st' := [.inl a1, .inr (some 27)]) (I' := I) rfl rfl ?_
    obtain ⟨hi, hv⟩ := hv
    refine g_iald hC dX4_moves_13 (rfl) hi ?_
    clear hi
    refine g_blk hC _ bX4_moves_14_15 (pc' := 15) (ls' := [some (.inr (some 26)), some (.inl a1), some (.inl a2)]) (st' := [.inl ((-1)), .inl (A 27 a1.toNatClampNeg)]) (I' := I) rfl rfl ?_
    obtain ⟨hv1, hv2⟩ := hv
    refine g_cne hC dX4_moves_15 (tgt := 20) (by decide) (fun hc => ?_) (fun hc => ?_)
    · have hv := hv1 hc
      clear hv1 hv2 hc
      refine g_blk hC _ bX4_moves_20_25 (pc' := 25) (ls' := [some (.inr (some 26)), some (.inl a1), some (.inl a2)]) (st' := [.inl a1, .inr (some 27)]) (I' := I) rfl rfl ?_
      obtain ⟨hi, hv⟩ := hv
      refine g_iald hC dX4_moves_25 (rfl) hi ?_
      clear hi
      refine g_blk hC _ bX4_moves_26_31 (pc' := 31) (ls' := [some (.inr (some 26)), some (.inl a1), some (.inl a2)]) (st' := [.inl a2, .inr (some 27), .inl (A 27 a1.toNatClampNeg)]) (I' := I) rfl rfl ?_
      obtain ⟨hi, hv⟩ := hv
      refine g_iald hC dX4_moves_31 (rfl) hi ?_
      clear hi
      obtain ⟨hv1, hv2⟩ := hv
      refine g_cne hC dX4_moves_32 (tgt := 54) (by decide) (fun hc => ?_) (fun hc => ?_)
      · have hv := hv1 hc
        clear hv1 hv2 hc
        refine g_blk hC _ bX4_moves_54_55 (pc' := 55) (ls' := [some (.inr (some 26)), some (.inl a1), some (.inl a2)]) (st' := [.inl 0]) (I' := I) rfl rfl ?_
        exact g_reti hC hr rfl dX4_moves_55 hv
      · have hv := hv2 hc
        clear hv1 hv2 hc
        refine g_blk hC _ bX4_moves_35_40 (pc' := 40) (ls' := [some (.inr (some 26)), some (.inl a1), some (.inl a2)]) (st' := [.inl a1, .inr (some 28)]) (I' := I) rfl rfl ?_
        obtain ⟨hi, hv⟩ := hv
        refine g_iald hC dX4_moves_40 (rfl) hi ?_
        clear hi
        refine g_blk hC _ bX4_moves_41_46 (pc' := 46) (ls' := [some (.inr (some 26)), some (.inl a1), some (.inl a2)]) (st' := [.inl a2, .inr (some 28), .inl (A 28 a1.toNatClampNeg)]) (I' := I) rfl rfl ?_
        obtain ⟨hi, hv⟩ := hv
        refine g_iald hC dX4_moves_46 (rfl) hi ?_
        clear hi
        obtain ⟨hv1, hv2⟩ := hv
        refine g_cle hC dX4_moves_47 (tgt := 54) (by decide) (fun hc => ?_) (fun hc => ?_)
        · have hv := hv1 hc
          clear hv1 hv2 hc
          refine g_blk hC _ bX4_moves_54_55 (pc' := 55) (ls' := [some (.inr (some 26)), some (.inl a1), some (.inl a2)]) (st' := [.inl 0]) (I' := I) rfl rfl ?_
          exact g_reti hC hr rfl dX4_moves_55 hv
        · have hv := hv2 hc
          clear hv1 hv2 hc
          refine g_blk hC _ bX4_moves_50_51 (pc' := 51) (ls' := [some (.inr (some 26)), some (.inl a1), some (.inl a2)]) (st' := [.inl 1]) (I' := I) rfl rfl ?_
          refine g_goto hC dX4_moves_51 (tgt := 55) (by decide) ?_
          exact g_reti hC hr rfl dX4_moves_55 hv
    · have hv := hv2 hc
      clear hv1 hv2 hc
      refine g_blk hC _ bX4_moves_18_19 (pc' := 19) (ls' := [some (.inr (some 26)), some (.inl a1), some (.inl a2)]) (st' := [.inl 0]) (I' := I) rfl rfl ?_
      exact g_reti hC hr rfl dX4_moves_19 hv
set_option maxHeartbeats 4000000 in
set_option maxRecDepth 100000 in
theorem c_X4_moves (l : Launch) (D : va_G) (ads : AD) (I A : HI) (a1 : Int32) (a2 : Int32) : Ct l yX4_moves cX4_moves 3 (some .int) 1 21 D ads shp [.inr (some 26), .inl a1, .inl a2] I A (qI (mvI (A 27) (A 28) a1 a2) I A) := by
  refine k_X4_moves l D ads I A a1 a2 _ ⟨fun h => qI_i ?_, fun h => ?_⟩
  · simp [mvI, h]
  · obtain ⟨i, j, h1, h2, rfl, rfl⟩ := zPP_ne h
    have v1 : vp_in (nI i) 10 := vp_in_nI h1 (by decide)
    have v2 : vp_in (nI j) 10 := vp_in_nI h2 (by decide)
    refine ⟨v1, fun h3 => ⟨v1, v2, fun h4 => qI_i ?_, fun h4 => ⟨v1, v2, fun h5 => qI_i ?_, fun h5 => qI_i ?_⟩⟩, fun h3 => qI_i ?_⟩
    · simp only [mvI, if_neg h, if_neg h3, if_neg (fun q : _ ∧ _ => h4 q.1)]
    · simp only [mvI, if_neg h, if_neg h3, if_neg (fun q : _ ∧ _ => le_nlt h5 q.2)]
    · simp only [mvI, if_neg h, if_neg h3, if_pos (And.intro h4 (nle h5))]
    · simp only [mvI, if_neg h, if_pos h3]
theorem bX0_number_0_4 : okB cX0_number RX0 0 [(5, 0, 0, 0, 0), (23, 15, 0, 1, 0)] := And.intro ⟨_, dX0_number_0, rfl⟩ (And.intro ⟨dX0_number_1, fl_X0_15⟩ trivial)
set_option maxHeartbeats 4000000 in
set_option maxRecDepth 100000 in
theorem k_X0_number_0 (l : Launch) (D : va_G) (ads : AD) (I A : HI) (po : Option AV → HI → HI → Prop)
    (hv : po (some (.inl (I 71 1))) I A) : Ct l yX0_number cX0_number 1 (some .int) 0 0 D ads shp [.inr (some 71)] I A po := by
  refine Ct_of (by decide) (Nat.le_of_ble_eq_true rfl) ?_
  intro p e s m args below meth c hC hr
  replace hC : CX p s m args meth c cX0_number 1 RX0 (AdS ads s.heap.size) := hC
  show Gm p l e s m args below meth c D ads 0 0 1 po I A 0 [some (.inr (some 71))] []
  refine g_blk hC _ bX0_number_0_4 (pc' := 4) (ls' := [some (.inr (some 71))]) (st' := [.inl (I 71 1)]) (I' := I) rfl rfl ?_
  exact g_reti hC hr rfl dX0_number_4 hv
set_option maxHeartbeats 4000000 in
set_option maxRecDepth 100000 in
theorem k_X0_number_1 (l : Launch) (D : va_G) (ads : AD) (I A : HI) (po : Option AV → HI → HI → Prop)
    (hv : po (some (.inl (I 75 1))) I A) : Ct l yX0_number cX0_number 1 (some .int) 0 0 D ads shp [.inr (some 75)] I A po := by
  refine Ct_of (by decide) (Nat.le_of_ble_eq_true rfl) ?_
  intro p e s m args below meth c hC hr
  replace hC : CX p s m args meth c cX0_number 1 RX0 (AdS ads s.heap.size) := hC
  show Gm p l e s m args below meth c D ads 0 0 1 po I A 0 [some (.inr (some 75))] []
  refine g_blk hC _ bX0_number_0_4 (pc' := 4) (ls' := [some (.inr (some 75))]) (st' := [.inl (I 75 1)]) (I' := I) rfl rfl ?_
  exact g_reti hC hr rfl dX0_number_4 hv
set_option maxHeartbeats 4000000 in
set_option maxRecDepth 100000 in
theorem k_X0_number_2 (l : Launch) (D : va_G) (ads : AD) (I A : HI) (po : Option AV → HI → HI → Prop)
    (hv : po (some (.inl (I 79 1))) I A) : Ct l yX0_number cX0_number 1 (some .int) 0 0 D ads shp [.inr (some 79)] I A po := by
  refine Ct_of (by decide) (Nat.le_of_ble_eq_true rfl) ?_
  intro p e s m args below meth c hC hr
  replace hC : CX p s m args meth c cX0_number 1 RX0 (AdS ads s.heap.size) := hC
  show Gm p l e s m args below meth c D ads 0 0 1 po I A 0 [some (.inr (some 79))] []
  refine g_blk hC _ bX0_number_0_4 (pc' := 4) (ls' := [some (.inr (some 79))]) (st' := [.inl (I 79 1)]) (I' := I) rfl rfl ?_
  exact g_reti hC hr rfl dX0_number_4 hv
set_option maxHeartbeats 4000000 in
set_option maxRecDepth 100000 in
theorem k_X0_number_3 (l : Launch) (D : va_G) (ads : AD) (I A : HI) (po : Option AV → HI → HI → Prop)
    (hv : po (some (.inl (I 83 1))) I A) : Ct l yX0_number cX0_number 1 (some .int) 0 0 D ads shp [.inr (some 83)] I A po := by
  refine Ct_of (by decide) (Nat.le_of_ble_eq_true rfl) ?_
  intro p e s m args below meth c hC hr
  replace hC : CX p s m args meth c cX0_number 1 RX0 (AdS ads s.heap.size) := hC
  show Gm p l e s m args below meth c D ads 0 0 1 po I A 0 [some (.inr (some 83))] []
  refine g_blk hC _ bX0_number_0_4 (pc' := 4) (ls' := [some (.inr (some 83))]) (st' := [.inl (I 83 1)]) (I' := I) rfl rfl ?_
  exact g_reti hC hr rfl dX0_number_4 hv
set_option maxHeartbeats 4000000 in
set_option maxRecDepth 100000 in
theorem k_X0_number_4 (l : Launch) (D : va_G) (ads : AD) (I A : HI) (po : Option AV → HI → HI → Prop)
    (hv : po (some (.inl (I 87 1))) I A) : Ct l yX0_number cX0_number 1 (some .int) 0 0 D ads shp [.inr (some 87)] I A po := by
  refine Ct_of (by decide) (Nat.le_of_ble_eq_true rfl) ?_
  intro p e s m args below meth c hC hr
  replace hC : CX p s m args meth c cX0_number 1 RX0 (AdS ads s.heap.size) := hC
  show Gm p l e s m args below meth c D ads 0 0 1 po I A 0 [some (.inr (some 87))] []
  refine g_blk hC _ bX0_number_0_4 (pc' := 4) (ls' := [some (.inr (some 87))]) (st' := [.inl (I 87 1)]) (I' := I) rfl rfl ?_
  exact g_reti hC hr rfl dX0_number_4 hv
set_option maxHeartbeats 4000000 in
set_option maxRecDepth 100000 in
theorem k_X0_number_5 (l : Launch) (D : va_G) (ads : AD) (I A : HI) (po : Option AV → HI → HI → Prop)
    (hv : po (some (.inl (I 91 1))) I A) : Ct l yX0_number cX0_number 1 (some .int) 0 0 D ads shp [.inr (some 91)] I A po := by
  refine Ct_of (by decide) (Nat.le_of_ble_eq_true rfl) ?_
  intro p e s m args below meth c hC hr
  replace hC : CX p s m args meth c cX0_number 1 RX0 (AdS ads s.heap.size) := hC
  show Gm p l e s m args below meth c D ads 0 0 1 po I A 0 [some (.inr (some 91))] []
  refine g_blk hC _ bX0_number_0_4 (pc' := 4) (ls' := [some (.inr (some 91))]) (st' := [.inl (I 91 1)]) (I' := I) rfl rfl ?_
  exact g_reti hC hr rfl dX0_number_4 hv
set_option maxHeartbeats 4000000 in
set_option maxRecDepth 100000 in
theorem c_X0_number (l : Launch) (D : va_G) (ads : AD) (I A : HI) (n : Nat) (hn : n < 6) : Ct l yX0_number cX0_number 1 (some .int) 0 0 D ads shp [.inr (some (71 + 4 * n))] I A (qI (I (71 + 4 * n) 1) I A) := by
  match n, hn with
  | 0, _ => exact k_X0_number_0 l D ads I A _ (qI_i rfl)
  | 1, _ => exact k_X0_number_1 l D ads I A _ (qI_i rfl)
  | 2, _ => exact k_X0_number_2 l D ads I A _ (qI_i rfl)
  | 3, _ => exact k_X0_number_3 l D ads I A _ (qI_i rfl)
  | 4, _ => exact k_X0_number_4 l D ads I A _ (qI_i rfl)
  | 5, _ => exact k_X0_number_5 l D ads I A _ (qI_i rfl)
theorem bX0_thingAt_0_12 : okB cX0_thingAt RX0 0 [(5, 0, 0, 0, 0), (23, 18, 0, 2, 0), (3, 1, 0, 0, 0), (5, 0, 0, 0, 0), (23, 9, 0, 0, 0), (14, 0, 0, 0, 0), (3, 2, 0, 0, 0), (12, 0, 0, 0, 0)] := And.intro ⟨_, dX0_thingAt_0, rfl⟩ (And.intro ⟨dX0_thingAt_1, fl_X0_18⟩ (And.intro ⟨_, dX0_thingAt_4, rfl⟩ (And.intro ⟨_, dX0_thingAt_5, rfl⟩ (And.intro ⟨dX0_thingAt_6, fl_X0_9⟩ (And.intro dX0_thingAt_9 (And.intro ⟨_, dX0_thingAt_10, rfl⟩ (And.intro dX0_thingAt_11 trivial)))))))
set_option maxHeartbeats 4000000 in
set_option maxRecDepth 100000 in
theorem k_X0_thingAt_0 (l : Launch) (D : va_G) (ads : AD) (I A : HI) (a1 : Int32) (a2 : Int32) (po : Option AV → HI → HI → Prop)
    (hv : (vp_in ((a1 * (I 71 0)) + a2) 0 ∧ po (some (.inl (A 72 ((a1 * (I 71 0)) + a2).toNatClampNeg))) I A)) : Ct l yX0_thingAt cX0_thingAt 3 (some .int) 0 0 D ads shp [.inr (some 71), .inl a1, .inl a2] I A po := by
  refine Ct_of (by decide) (Nat.le_of_ble_eq_true rfl) ?_
  intro p e s m args below meth c hC hr
  replace hC : CX p s m args meth c cX0_thingAt 3 RX0 (AdS ads s.heap.size) := hC
  show Gm p l e s m args below meth c D ads 0 0 3 po I A 0 [some (.inr (some 71)), some (.inl a1), some (.inl a2)] []
  refine g_blk hC _ bX0_thingAt_0_12 (pc' := 12) (ls' := [some (.inr (some 71)), some (.inl a1), some (.inl a2)]) (st' := [.inl ((a1 * (I 71 0)) + a2), .inr (some 72)]) (I' := I) rfl rfl ?_
  obtain ⟨hi, hv⟩ := hv
  refine g_iald hC dX0_thingAt_12 (rfl) hi ?_
  clear hi
  exact g_reti hC hr rfl dX0_thingAt_13 hv
set_option maxHeartbeats 4000000 in
set_option maxRecDepth 100000 in
theorem k_X0_thingAt_1 (l : Launch) (D : va_G) (ads : AD) (I A : HI) (a1 : Int32) (a2 : Int32) (po : Option AV → HI → HI → Prop)
    (hv : (vp_in ((a1 * (I 75 0)) + a2) 1 ∧ po (some (.inl (A 76 ((a1 * (I 75 0)) + a2).toNatClampNeg))) I A)) : Ct l yX0_thingAt cX0_thingAt 3 (some .int) 0 0 D ads shp [.inr (some 75), .inl a1, .inl a2] I A po := by
  refine Ct_of (by decide) (Nat.le_of_ble_eq_true rfl) ?_
  intro p e s m args below meth c hC hr
  replace hC : CX p s m args meth c cX0_thingAt 3 RX0 (AdS ads s.heap.size) := hC
  show Gm p l e s m args below meth c D ads 0 0 3 po I A 0 [some (.inr (some 75)), some (.inl a1), some (.inl a2)] []
  refine g_blk hC _ bX0_thingAt_0_12 (pc' := 12) (ls' := [some (.inr (some 75)), some (.inl a1), some (.inl a2)]) (st' := [.inl ((a1 * (I 75 0)) + a2), .inr (some 76)]) (I' := I) rfl rfl ?_
  obtain ⟨hi, hv⟩ := hv
  refine g_iald hC dX0_thingAt_12 (rfl) hi ?_
  clear hi
  exact g_reti hC hr rfl dX0_thingAt_13 hv
set_option maxHeartbeats 4000000 in
set_option maxRecDepth 100000 in
theorem k_X0_thingAt_2 (l : Launch) (D : va_G) (ads : AD) (I A : HI) (a1 : Int32) (a2 : Int32) (po : Option AV → HI → HI → Prop)
    (hv : (vp_in ((a1 * (I 79 0)) + a2) 4 ∧ po (some (.inl (A 80 ((a1 * (I 79 0)) + a2).toNatClampNeg))) I A)) : Ct l yX0_thingAt cX0_thingAt 3 (some .int) 0 0 D ads shp [.inr (some 79), .inl a1, .inl a2] I A po := by
  refine Ct_of (by decide) (Nat.le_of_ble_eq_true rfl) ?_
  intro p e s m args below meth c hC hr
  replace hC : CX p s m args meth c cX0_thingAt 3 RX0 (AdS ads s.heap.size) := hC
  show Gm p l e s m args below meth c D ads 0 0 3 po I A 0 [some (.inr (some 79)), some (.inl a1), some (.inl a2)] []
  refine g_blk hC _ bX0_thingAt_0_12 (pc' := 12) (ls' := [some (.inr (some 79)), some (.inl a1), some (.inl a2)]) (st' := [.inl ((a1 * (I 79 0)) + a2), .inr (some 80)]) (I' := I) rfl rfl ?_
  obtain ⟨hi, hv⟩ := hv
  refine g_iald hC dX0_thingAt_12 (rfl) hi ?_
  clear hi
  exact g_reti hC hr rfl dX0_thingAt_13 hv
set_option maxHeartbeats 4000000 in
set_option maxRecDepth 100000 in
theorem k_X0_thingAt_3 (l : Launch) (D : va_G) (ads : AD) (I A : HI) (a1 : Int32) (a2 : Int32) (po : Option AV → HI → HI → Prop)
    (hv : (vp_in ((a1 * (I 83 0)) + a2) 18 ∧ po (some (.inl (A 84 ((a1 * (I 83 0)) + a2).toNatClampNeg))) I A)) : Ct l yX0_thingAt cX0_thingAt 3 (some .int) 0 0 D ads shp [.inr (some 83), .inl a1, .inl a2] I A po := by
  refine Ct_of (by decide) (Nat.le_of_ble_eq_true rfl) ?_
  intro p e s m args below meth c hC hr
  replace hC : CX p s m args meth c cX0_thingAt 3 RX0 (AdS ads s.heap.size) := hC
  show Gm p l e s m args below meth c D ads 0 0 3 po I A 0 [some (.inr (some 83)), some (.inl a1), some (.inl a2)] []
  refine g_blk hC _ bX0_thingAt_0_12 (pc' := 12) (ls' := [some (.inr (some 83)), some (.inl a1), some (.inl a2)]) (st' := [.inl ((a1 * (I 83 0)) + a2), .inr (some 84)]) (I' := I) rfl rfl ?_
  obtain ⟨hi, hv⟩ := hv
  refine g_iald hC dX0_thingAt_12 (rfl) hi ?_
  clear hi
  exact g_reti hC hr rfl dX0_thingAt_13 hv
set_option maxHeartbeats 4000000 in
set_option maxRecDepth 100000 in
theorem k_X0_thingAt_4 (l : Launch) (D : va_G) (ads : AD) (I A : HI) (a1 : Int32) (a2 : Int32) (po : Option AV → HI → HI → Prop)
    (hv : (vp_in ((a1 * (I 87 0)) + a2) 96 ∧ po (some (.inl (A 88 ((a1 * (I 87 0)) + a2).toNatClampNeg))) I A)) : Ct l yX0_thingAt cX0_thingAt 3 (some .int) 0 0 D ads shp [.inr (some 87), .inl a1, .inl a2] I A po := by
  refine Ct_of (by decide) (Nat.le_of_ble_eq_true rfl) ?_
  intro p e s m args below meth c hC hr
  replace hC : CX p s m args meth c cX0_thingAt 3 RX0 (AdS ads s.heap.size) := hC
  show Gm p l e s m args below meth c D ads 0 0 3 po I A 0 [some (.inr (some 87)), some (.inl a1), some (.inl a2)] []
  refine g_blk hC _ bX0_thingAt_0_12 (pc' := 12) (ls' := [some (.inr (some 87)), some (.inl a1), some (.inl a2)]) (st' := [.inl ((a1 * (I 87 0)) + a2), .inr (some 88)]) (I' := I) rfl rfl ?_
  obtain ⟨hi, hv⟩ := hv
  refine g_iald hC dX0_thingAt_12 (rfl) hi ?_
  clear hi
  exact g_reti hC hr rfl dX0_thingAt_13 hv
set_option maxHeartbeats 4000000 in
set_option maxRecDepth 100000 in
theorem k_X0_thingAt_5 (l : Launch) (D : va_G) (ads : AD) (I A : HI) (a1 : Int32) (a2 : Int32) (po : Option AV → HI → HI → Prop)
    (hv : (vp_in ((a1 * (I 91 0)) + a2) 600 ∧ po (some (.inl (A 92 ((a1 * (I 91 0)) + a2).toNatClampNeg))) I A)) : Ct l yX0_thingAt cX0_thingAt 3 (some .int) 0 0 D ads shp [.inr (some 91), .inl a1, .inl a2] I A po := by
  refine Ct_of (by decide) (Nat.le_of_ble_eq_true rfl) ?_
  intro p e s m args below meth c hC hr
  replace hC : CX p s m args meth c cX0_thingAt 3 RX0 (AdS ads s.heap.size) := hC
  show Gm p l e s m args below meth c D ads 0 0 3 po I A 0 [some (.inr (some 91)), some (.inl a1), some (.inl a2)] []
  refine g_blk hC _ bX0_thingAt_0_12 (pc' := 12) (ls' := [some (.inr (some 91)), some (.inl a1), some (.inl a2)]) (st' := [.inl ((a1 * (I 91 0)) + a2), .inr (some 92)]) (I' := I) rfl rfl ?_
  obtain ⟨hi, hv⟩ := hv
  refine g_iald hC dX0_thingAt_12 (rfl) hi ?_
  clear hi
  exact g_reti hC hr rfl dX0_thingAt_13 hv
set_option maxHeartbeats 4000000 in
set_option maxRecDepth 100000 in
theorem c_X0_thingAt (l : Launch) (D : va_G) (ads : AD) (I A : HI) (n : Nat) (a1 : Int32) (a2 : Int32) (hn : n < 6) (hp : vp_in (a1 * I (71 + 4 * n) 0 + a2) (chT n)) : Ct l yX0_thingAt cX0_thingAt 3 (some .int) 0 0 D ads shp [.inr (some (71 + 4 * n)), .inl a1, .inl a2] I A (qI (A (72 + 4 * n) (a1 * I (71 + 4 * n) 0 + a2).toNatClampNeg) I A) := by
  match n, hn, hp with
  | 0, _, hp => exact k_X0_thingAt_0 l D ads I A a1 a2 _ ⟨hp, qI_i rfl⟩
  | 1, _, hp => exact k_X0_thingAt_1 l D ads I A a1 a2 _ ⟨hp, qI_i rfl⟩
  | 2, _, hp => exact k_X0_thingAt_2 l D ads I A a1 a2 _ ⟨hp, qI_i rfl⟩
  | 3, _, hp => exact k_X0_thingAt_3 l D ads I A a1 a2 _ ⟨hp, qI_i rfl⟩
  | 4, _, hp => exact k_X0_thingAt_4 l D ads I A a1 a2 _ ⟨hp, qI_i rfl⟩
  | 5, _, hp => exact k_X0_thingAt_5 l D ads I A a1 a2 _ ⟨hp, qI_i rfl⟩
theorem bX0_exchanged_0_4 : okB cX0_exchanged RX0 0 [(5, 0, 0, 0, 0), (23, 22, 0, 3, 0)] := And.intro ⟨_, dX0_exchanged_0, rfl⟩ (And.intro ⟨dX0_exchanged_1, fl_X0_22⟩ trivial)
set_option maxHeartbeats 4000000 in
set_option maxRecDepth 100000 in
theorem k_X0_exchanged_0 (l : Launch) (D : va_G) (ads : AD) (I A : HI) (po : Option AV → HI → HI → Prop)
    (hv : po (some (.inr (some 73))) I A) : Ct l yX0_exchanged cX0_exchanged 1 (some (.array .int)) 0 0 D ads shp [.inr (some 71)] I A po := by
  refine Ct_of (by decide) (Nat.le_of_ble_eq_true rfl) ?_
  intro p e s m args below meth c hC hr
  replace hC : CX p s m args meth c cX0_exchanged 1 RX0 (AdS ads s.heap.size) := hC
  show Gm p l e s m args below meth c D ads 0 0 1 po I A 0 [some (.inr (some 71))] []
  refine g_blk hC _ bX0_exchanged_0_4 (pc' := 4) (ls' := [some (.inr (some 71))]) (st' := [.inr (some 73)]) (I' := I) rfl rfl ?_
  exact g_reta hC hr (Or.inr ⟨_, rfl⟩) dX0_exchanged_4 hv
set_option maxHeartbeats 4000000 in
set_option maxRecDepth 100000 in
theorem k_X0_exchanged_1 (l : Launch) (D : va_G) (ads : AD) (I A : HI) (po : Option AV → HI → HI → Prop)
    (hv : po (some (.inr (some 77))) I A) : Ct l yX0_exchanged cX0_exchanged 1 (some (.array .int)) 0 0 D ads shp [.inr (some 75)] I A po := by
  refine Ct_of (by decide) (Nat.le_of_ble_eq_true rfl) ?_
  intro p e s m args below meth c hC hr
  replace hC : CX p s m args meth c cX0_exchanged 1 RX0 (AdS ads s.heap.size) := hC
  show Gm p l e s m args below meth c D ads 0 0 1 po I A 0 [some (.inr (some 75))] []
  refine g_blk hC _ bX0_exchanged_0_4 (pc' := 4) (ls' := [some (.inr (some 75))]) (st' := [.inr (some 77)]) (I' := I) rfl rfl ?_
  exact g_reta hC hr (Or.inr ⟨_, rfl⟩) dX0_exchanged_4 hv
set_option maxHeartbeats 4000000 in
set_option maxRecDepth 100000 in
theorem k_X0_exchanged_2 (l : Launch) (D : va_G) (ads : AD) (I A : HI) (po : Option AV → HI → HI → Prop)
    (hv : po (some (.inr (some 81))) I A) : Ct l yX0_exchanged cX0_exchanged 1 (some (.array .int)) 0 0 D ads shp [.inr (some 79)] I A po := by
  refine Ct_of (by decide) (Nat.le_of_ble_eq_true rfl) ?_
  intro p e s m args below meth c hC hr
  replace hC : CX p s m args meth c cX0_exchanged 1 RX0 (AdS ads s.heap.size) := hC
  show Gm p l e s m args below meth c D ads 0 0 1 po I A 0 [some (.inr (some 79))] []
  refine g_blk hC _ bX0_exchanged_0_4 (pc' := 4) (ls' := [some (.inr (some 79))]) (st' := [.inr (some 81)]) (I' := I) rfl rfl ?_
  exact g_reta hC hr (Or.inr ⟨_, rfl⟩) dX0_exchanged_4 hv
set_option maxHeartbeats 4000000 in
set_option maxRecDepth 100000 in
theorem k_X0_exchanged_3 (l : Launch) (D : va_G) (ads : AD) (I A : HI) (po : Option AV → HI → HI → Prop)
    (hv : po (some (.inr (some 85))) I A) : Ct l yX0_exchanged cX0_exchanged 1 (some (.array .int)) 0 0 D ads shp [.inr (some 83)] I A po := by
  refine Ct_of (by decide) (Nat.le_of_ble_eq_true rfl) ?_
  intro p e s m args below meth c hC hr
  replace hC : CX p s m args meth c cX0_exchanged 1 RX0 (AdS ads s.heap.size) := hC
  show Gm p l e s m args below meth c D ads 0 0 1 po I A 0 [some (.inr (some 83))] []
  refine g_blk hC _ bX0_exchanged_0_4 (pc' := 4) (ls' := [some (.inr (some 83))]) (st' := [.inr (some 85)]) (I' := I) rfl rfl ?_
  exact g_reta hC hr (Or.inr ⟨_, rfl⟩) dX0_exchanged_4 hv
set_option maxHeartbeats 4000000 in
set_option maxRecDepth 100000 in
theorem k_X0_exchanged_4 (l : Launch) (D : va_G) (ads : AD) (I A : HI) (po : Option AV → HI → HI → Prop)
    (hv : po (some (.inr (some 89))) I A) : Ct l yX0_exchanged cX0_exchanged 1 (some (.array .int)) 0 0 D ads shp [.inr (some 87)] I A po := by
  refine Ct_of (by decide) (Nat.le_of_ble_eq_true rfl) ?_
  intro p e s m args below meth c hC hr
  replace hC : CX p s m args meth c cX0_exchanged 1 RX0 (AdS ads s.heap.size) := hC
  show Gm p l e s m args below meth c D ads 0 0 1 po I A 0 [some (.inr (some 87))] []
  refine g_blk hC _ bX0_exchanged_0_4 (pc' := 4) (ls' := [some (.inr (some 87))]) (st' := [.inr (some 89)]) (I' := I) rfl rfl ?_
  exact g_reta hC hr (Or.inr ⟨_, rfl⟩) dX0_exchanged_4 hv
set_option maxHeartbeats 4000000 in
set_option maxRecDepth 100000 in
theorem k_X0_exchanged_5 (l : Launch) (D : va_G) (ads : AD) (I A : HI) (po : Option AV → HI → HI → Prop)
    (hv : po (some (.inr (some 93))) I A) : Ct l yX0_exchanged cX0_exchanged 1 (some (.array .int)) 0 0 D ads shp [.inr (some 91)] I A po := by
  refine Ct_of (by decide) (Nat.le_of_ble_eq_true rfl) ?_
  intro p e s m args below meth c hC hr
  replace hC : CX p s m args meth c cX0_exchanged 1 RX0 (AdS ads s.heap.size) := hC
  show Gm p l e s m args below meth c D ads 0 0 1 po I A 0 [some (.inr (some 91))] []
  refine g_blk hC _ bX0_exchanged_0_4 (pc' := 4) (ls' := [some (.inr (some 91))]) (st' := [.inr (some 93)]) (I' := I) rfl rfl ?_
  exact g_reta hC hr (Or.inr ⟨_, rfl⟩) dX0_exchanged_4 hv
set_option maxHeartbeats 4000000 in
set_option maxRecDepth 100000 in
theorem c_X0_exchanged (l : Launch) (D : va_G) (ads : AD) (I A : HI) (n : Nat) (hn : n < 6) : Ct l yX0_exchanged cX0_exchanged 1 (some (.array .int)) 0 0 D ads shp [.inr (some (71 + 4 * n))] I A (qR (73 + 4 * n) I A) := by
  match n, hn with
  | 0, _ => exact k_X0_exchanged_0 l D ads I A _ ⟨rfl, rfl, rfl⟩
  | 1, _ => exact k_X0_exchanged_1 l D ads I A _ ⟨rfl, rfl, rfl⟩
  | 2, _ => exact k_X0_exchanged_2 l D ads I A _ ⟨rfl, rfl, rfl⟩
  | 3, _ => exact k_X0_exchanged_3 l D ads I A _ ⟨rfl, rfl, rfl⟩
  | 4, _ => exact k_X0_exchanged_4 l D ads I A _ ⟨rfl, rfl, rfl⟩
  | 5, _ => exact k_X0_exchanged_5 l D ads I A _ ⟨rfl, rfl, rfl⟩
theorem bX0_rankAt_0_5 : okB cX0_rankAt RX0 0 [(5, 0, 0, 0, 0), (23, 25, 0, 4, 0), (3, 1, 0, 0, 0)] := And.intro ⟨_, dX0_rankAt_0, rfl⟩ (And.intro ⟨dX0_rankAt_1, fl_X0_25⟩ (And.intro ⟨_, dX0_rankAt_4, rfl⟩ trivial))
set_option maxHeartbeats 4000000 in
set_option maxRecDepth 100000 in
theorem k_X0_rankAt_0 (l : Launch) (D : va_G) (ads : AD) (I A : HI) (a1 : Int32) (po : Option AV → HI → HI → Prop)
    (hv : (vp_in a1 1 ∧ po (some (.inl (A 74 a1.toNatClampNeg))) I A)) : Ct l yX0_rankAt cX0_rankAt 2 (some .int) 0 0 D ads shp [.inr (some 71), .inl a1] I A po := by
  refine Ct_of (by decide) (Nat.le_of_ble_eq_true rfl) ?_
  intro p e s m args below meth c hC hr
  replace hC : CX p s m args meth c cX0_rankAt 2 RX0 (AdS ads s.heap.size) := hC
  show Gm p l e s m args below meth c D ads 0 0 2 po I A 0 [some (.inr (some 71)), some (.inl a1)] []
  refine g_blk hC _ bX0_rankAt_0_5 (pc' := 5) (ls' := [some (.inr (some 71)), some (.inl a1)]) (st' := [.inl a1, .inr (some 74)]) (I' := I) rfl rfl ?_
  obtain ⟨hi, hv⟩ := hv
  refine g_iald hC dX0_rankAt_5 (rfl) hi ?_
  clear hi
  exact g_reti hC hr rfl dX0_rankAt_6 hv
set_option maxHeartbeats 4000000 in
set_option maxRecDepth 100000 in
theorem k_X0_rankAt_1 (l : Launch) (D : va_G) (ads : AD) (I A : HI) (a1 : Int32) (po : Option AV → HI → HI → Prop)
    (hv : (vp_in a1 1 ∧ po (some (.inl (A 78 a1.toNatClampNeg))) I A)) : Ct l yX0_rankAt cX0_rankAt 2 (some .int) 0 0 D ads shp [.inr (some 75), .inl a1] I A po := by
  refine Ct_of (by decide) (Nat.le_of_ble_eq_true rfl) ?_
  intro p e s m args below meth c hC hr
  replace hC : CX p s m args meth c cX0_rankAt 2 RX0 (AdS ads s.heap.size) := hC
  show Gm p l e s m args below meth c D ads 0 0 2 po I A 0 [some (.inr (some 75)), some (.inl a1)] []
  refine g_blk hC _ bX0_rankAt_0_5 (pc' := 5) (ls' := [some (.inr (some 75)), some (.inl a1)]) (st' := [.inl a1, .inr (some 78)]) (I' := I) rfl rfl ?_
  obtain ⟨hi, hv⟩ := hv
  refine g_iald hC dX0_rankAt_5 (rfl) hi ?_
  clear hi
  exact g_reti hC hr rfl dX0_rankAt_6 hv
set_option maxHeartbeats 4000000 in
set_option maxRecDepth 100000 in
theorem k_X0_rankAt_2 (l : Launch) (D : va_G) (ads : AD) (I A : HI) (a1 : Int32) (po : Option AV → HI → HI → Prop)
    (hv : (vp_in a1 2 ∧ po (some (.inl (A 82 a1.toNatClampNeg))) I A)) : Ct l yX0_rankAt cX0_rankAt 2 (some .int) 0 0 D ads shp [.inr (some 79), .inl a1] I A po := by
  refine Ct_of (by decide) (Nat.le_of_ble_eq_true rfl) ?_
  intro p e s m args below meth c hC hr
  replace hC : CX p s m args meth c cX0_rankAt 2 RX0 (AdS ads s.heap.size) := hC
  show Gm p l e s m args below meth c D ads 0 0 2 po I A 0 [some (.inr (some 79)), some (.inl a1)] []
  refine g_blk hC _ bX0_rankAt_0_5 (pc' := 5) (ls' := [some (.inr (some 79)), some (.inl a1)]) (st' := [.inl a1, .inr (some 82)]) (I' := I) rfl rfl ?_
  obtain ⟨hi, hv⟩ := hv
  refine g_iald hC dX0_rankAt_5 (rfl) hi ?_
  clear hi
  exact g_reti hC hr rfl dX0_rankAt_6 hv
set_option maxHeartbeats 4000000 in
set_option maxRecDepth 100000 in
theorem k_X0_rankAt_3 (l : Launch) (D : va_G) (ads : AD) (I A : HI) (a1 : Int32) (po : Option AV → HI → HI → Prop)
    (hv : (vp_in a1 6 ∧ po (some (.inl (A 86 a1.toNatClampNeg))) I A)) : Ct l yX0_rankAt cX0_rankAt 2 (some .int) 0 0 D ads shp [.inr (some 83), .inl a1] I A po := by
  refine Ct_of (by decide) (Nat.le_of_ble_eq_true rfl) ?_
  intro p e s m args below meth c hC hr
  replace hC : CX p s m args meth c cX0_rankAt 2 RX0 (AdS ads s.heap.size) := hC
  show Gm p l e s m args below meth c D ads 0 0 2 po I A 0 [some (.inr (some 83)), some (.inl a1)] []
  refine g_blk hC _ bX0_rankAt_0_5 (pc' := 5) (ls' := [some (.inr (some 83)), some (.inl a1)]) (st' := [.inl a1, .inr (some 86)]) (I' := I) rfl rfl ?_
  obtain ⟨hi, hv⟩ := hv
  refine g_iald hC dX0_rankAt_5 (rfl) hi ?_
  clear hi
  exact g_reti hC hr rfl dX0_rankAt_6 hv
set_option maxHeartbeats 4000000 in
set_option maxRecDepth 100000 in
theorem k_X0_rankAt_4 (l : Launch) (D : va_G) (ads : AD) (I A : HI) (a1 : Int32) (po : Option AV → HI → HI → Prop)
    (hv : (vp_in a1 24 ∧ po (some (.inl (A 90 a1.toNatClampNeg))) I A)) : Ct l yX0_rankAt cX0_rankAt 2 (some .int) 0 0 D ads shp [.inr (some 87), .inl a1] I A po := by
  refine Ct_of (by decide) (Nat.le_of_ble_eq_true rfl) ?_
  intro p e s m args below meth c hC hr
  replace hC : CX p s m args meth c cX0_rankAt 2 RX0 (AdS ads s.heap.size) := hC
  show Gm p l e s m args below meth c D ads 0 0 2 po I A 0 [some (.inr (some 87)), some (.inl a1)] []
  refine g_blk hC _ bX0_rankAt_0_5 (pc' := 5) (ls' := [some (.inr (some 87)), some (.inl a1)]) (st' := [.inl a1, .inr (some 90)]) (I' := I) rfl rfl ?_
  obtain ⟨hi, hv⟩ := hv
  refine g_iald hC dX0_rankAt_5 (rfl) hi ?_
  clear hi
  exact g_reti hC hr rfl dX0_rankAt_6 hv
set_option maxHeartbeats 4000000 in
set_option maxRecDepth 100000 in
theorem k_X0_rankAt_5 (l : Launch) (D : va_G) (ads : AD) (I A : HI) (a1 : Int32) (po : Option AV → HI → HI → Prop)
    (hv : (vp_in a1 120 ∧ po (some (.inl (A 94 a1.toNatClampNeg))) I A)) : Ct l yX0_rankAt cX0_rankAt 2 (some .int) 0 0 D ads shp [.inr (some 91), .inl a1] I A po := by
  refine Ct_of (by decide) (Nat.le_of_ble_eq_true rfl) ?_
  intro p e s m args below meth c hC hr
  replace hC : CX p s m args meth c cX0_rankAt 2 RX0 (AdS ads s.heap.size) := hC
  show Gm p l e s m args below meth c D ads 0 0 2 po I A 0 [some (.inr (some 91)), some (.inl a1)] []
  refine g_blk hC _ bX0_rankAt_0_5 (pc' := 5) (ls' := [some (.inr (some 91)), some (.inl a1)]) (st' := [.inl a1, .inr (some 94)]) (I' := I) rfl rfl ?_
  obtain ⟨hi, hv⟩ := hv
  refine g_iald hC dX0_rankAt_5 (rfl) hi ?_
  clear hi
  exact g_reti hC hr rfl dX0_rankAt_6 hv
set_option maxHeartbeats 4000000 in
set_option maxRecDepth 100000 in
theorem c_X0_rankAt (l : Launch) (D : va_G) (ads : AD) (I A : HI) (n : Nat) (a1 : Int32) (hn : n < 6) (hp : vp_in a1 (chN n)) : Ct l yX0_rankAt cX0_rankAt 2 (some .int) 0 0 D ads shp [.inr (some (71 + 4 * n)), .inl a1] I A (qI (A (74 + 4 * n) a1.toNatClampNeg) I A) := by
  match n, hn, hp with
  | 0, _, hp => exact k_X0_rankAt_0 l D ads I A a1 _ ⟨hp, qI_i rfl⟩
  | 1, _, hp => exact k_X0_rankAt_1 l D ads I A a1 _ ⟨hp, qI_i rfl⟩
  | 2, _, hp => exact k_X0_rankAt_2 l D ads I A a1 _ ⟨hp, qI_i rfl⟩
  | 3, _, hp => exact k_X0_rankAt_3 l D ads I A a1 _ ⟨hp, qI_i rfl⟩
  | 4, _, hp => exact k_X0_rankAt_4 l D ads I A a1 _ ⟨hp, qI_i rfl⟩
  | 5, _, hp => exact k_X0_rankAt_5 l D ads I A a1 _ ⟨hp, qI_i rfl⟩
theorem bX3_base_0_4 : okB cX3_base RX3 0 [(5, 0, 0, 0, 0), (23, 18, 3, 5, 0)] := And.intro ⟨_, dX3_base_0, rfl⟩ (And.intro ⟨dX3_base_1, fl_X3_18⟩ trivial)
set_option maxHeartbeats 4000000 in
set_option maxRecDepth 100000 in
theorem k_X3_base (l : Launch) (D : va_G) (ads : AD) (I A : HI) (po : Option AV → HI → HI → Prop)
    (hv : po (some (.inl (I 68 5))) I A) : Ct l yX3_base cX3_base 1 (some .int) 0 0 D ads shp [.inr (some 68)] I A po := by
  refine Ct_of (by decide) (Nat.le_of_ble_eq_true rfl) ?_
  intro p e s m args below meth c hC hr
  replace hC : CX p s m args meth c cX3_base 1 RX3 (AdS ads s.heap.size) := hC
  show Gm p l e s m args below meth c D ads 0 0 1 po I A 0 [some (.inr (some 68))] []
  refine g_blk hC _ bX3_base_0_4 (pc' := 4) (ls' := [some (.inr (some 68))]) (st' := [.inl (I 68 5)]) (I' := I) rfl rfl ?_
  exact g_reti hC hr rfl dX3_base_4 hv
set_option maxHeartbeats 4000000 in
set_option maxRecDepth 100000 in
theorem c_X3_base (l : Launch) (D : va_G) (ads : AD) (I A : HI) : Ct l yX3_base cX3_base 1 (some .int) 0 0 D ads shp [.inr (some 68)] I A (qI (I 68 5) I A) := by
  exact k_X3_base l D ads I A _ (qI_i rfl)
theorem bX3_gains_0_4 : okB cX3_gains RX3 0 [(5, 0, 0, 0, 0), (23, 15, 3, 4, 0)] := And.intro ⟨_, dX3_gains_0, rfl⟩ (And.intro ⟨dX3_gains_1, fl_X3_15⟩ trivial)
set_option maxHeartbeats 4000000 in
set_option maxRecDepth 100000 in
theorem k_X3_gains (l : Launch) (D : va_G) (ads : AD) (I A : HI) (po : Option AV → HI → HI → Prop)
    (hv : po (some (.inr (some 70))) I A) : Ct l yX3_gains cX3_gains 1 (some (.array .int)) 0 0 D ads shp [.inr (some 68)] I A po := by
  refine Ct_of (by decide) (Nat.le_of_ble_eq_true rfl) ?_
  intro p e s m args below meth c hC hr
  replace hC : CX p s m args meth c cX3_gains 1 RX3 (AdS ads s.heap.size) := hC
  show Gm p l e s m args below meth c D ads 0 0 1 po I A 0 [some (.inr (some 68))] []
  refine g_blk hC _ bX3_gains_0_4 (pc' := 4) (ls' := [some (.inr (some 68))]) (st' := [.inr (some 70)]) (I' := I) rfl rfl ?_
  exact g_reta hC hr (Or.inr ⟨_, rfl⟩) dX3_gains_4 hv
set_option maxHeartbeats 4000000 in
set_option maxRecDepth 100000 in
theorem c_X3_gains (l : Launch) (D : va_G) (ads : AD) (I A : HI) : Ct l yX3_gains cX3_gains 1 (some (.array .int)) 0 0 D ads shp [.inr (some 68)] I A (qR (70) I A) := by
  exact k_X3_gains l D ads I A _ ⟨rfl, rfl, rfl⟩
theorem bX3_crossing_0_7 : okB cX3_crossing RX3 0 [(5, 0, 0, 0, 0), (23, 9, 3, 3, 0), (3, 1, 0, 0, 0), (4, 4, 0, 0, 0)] := And.intro ⟨_, dX3_crossing_0, rfl⟩ (And.intro ⟨dX3_crossing_1, fl_X3_9⟩ (And.intro ⟨_, dX3_crossing_4, rfl⟩ (And.intro dX3_crossing_5 trivial)))
theorem bX3_crossing_11_17 : okB cX3_crossing RX3 11 [(5, 0, 0, 0, 0), (23, 9, 3, 3, 0), (3, 2, 0, 0, 0), (3, 3, 0, 0, 0)] := And.intro ⟨_, dX3_crossing_11, rfl⟩ (And.intro ⟨dX3_crossing_12, fl_X3_9⟩ (And.intro ⟨_, dX3_crossing_15, rfl⟩ (And.intro ⟨_, dX3_crossing_16, rfl⟩ trivial)))
theorem bX3_crossing_21_22 : okB cX3_crossing RX3 21 [(14, 0, 0, 0, 0)] := And.intro dX3_crossing_21 trivial
set_option maxHeartbeats 4000000 in
set_option maxRecDepth 100000 in
theorem k_X3_crossing (l : Launch) (D : va_G) (ads : AD) (I A : HI) (a1 : Int32) (a2 : Int32) (a3 : Int32) (a4 : Int32) (po : Option AV → HI → HI → Prop)
    (hv : (vp_in (a1 * 5 + a4) 25 ∧ (vp_in (a2 * 5 + a3) 25 ∧ po (some (.inl ((A 69 (a1 * 5 + a4).toNatClampNeg) * (A 69 (a2 * 5 + a3).toNatClampNeg)))) I A))) : Ct l yX3_crossing cX3_crossing 5 (some .int) 1 21 D ads shp [.inr (some 68), .inl a1, .inl a2, .inl a3, .inl a4] I A po := by
  refine Ct_of (by decide) (Nat.le_of_ble_eq_true rfl) ?_
  intro p e s m args below meth c hC hr
  replace hC : CX p s m args meth c cX3_crossing 5 RX3 (AdS ads s.heap.size) := hC
  show Gm p l e s m args below meth c D ads 1 21 5 po I A 0 [some (.inr (some 68)), some (.inl a1), some (.inl a2), some (.inl a3), some (.inl a4)] []
  refine g_blk hC _ bX3_crossing_0_7 (pc' := 7) (ls' := [some (.inr (some 68)), some (.inl a1), some (.inl a2), some (.inl a3), some (.inl a4)]) (st' := [.inl a4, .inl a1, .inr (some 69)]) (I' := I) rfl rfl ?_
  refine g_callN (host := RX8) hC (c_X8_pair l D ads I A a1 a4) dX3_crossing_7 nm_X8_pair (List.mem_of_getElem? (i := 4) rfl) wt_X8_pair wn_X8 wc_X8_pair ⟨by decide, by decide⟩ (as := [.inl a1, .inl a4]) (rest := [.inr (some 69)]) rfl (Nat.le_of_ble_eq_true rfl) ⟨Nat.le_refl _, Nat.le_refl _⟩ (k_qI ?_)
  obtain ⟨hi, hv⟩ := hv
  refine g_iald hC dX3_crossing_10 (rfl) hi ?_
  clear hi
  refine g_blk hC _ bX3_crossing_11_17 (pc' := 17) (ls' := [some (.inr (some 68)), some (.inl a1), some (.inl a2), some (.inl a3), some (.inl a4)]) (st' := [.inl a3, .inl a2, .inr (some 69), .inl (A 69 (a1 * 5 + a4).toNatClampNeg)]) (I' := I) rfl rfl ?_
  refine g_callN (host := RX8) hC (c_X8_pair l D ads I A a2 a3) dX3_crossing_17 nm_X8_pair (List.mem_of_getElem? (i := 4) rfl) wt_X8_pair wn_X8 wc_X8_pair ⟨by decide, by decide⟩ (as := [.inl a2, .inl a3]) (rest := [.inr (some 69), .inl (A 69 (a1 * 5 + a4).toNatClampNeg)]) rfl (Nat.le_of_ble_eq_true rfl) ⟨Nat.le_refl _, Nat.le_refl _⟩ (k_qI ?_)
  obtain ⟨hi, hv⟩ := hv
  refine g_iald hC dX3_crossing_20 (rfl) hi ?_
  clear hi
  refine g_blk hC _ bX3_crossing_21_22 (pc' := 22) (ls' := [some (.inr (some 68)), some (.inl a1), some (.inl a2), some (.inl a3), some (.inl a4)]) (st' := [.inl ((A 69 (a1 * 5 + a4).toNatClampNeg) * (A 69 (a2 * 5 + a3).toNatClampNeg))]) (I' := I) rfl rfl ?_
  exact g_reti hC hr rfl dX3_crossing_22 hv
set_option maxHeartbeats 4000000 in
set_option maxRecDepth 100000 in
theorem c_X3_crossing (l : Launch) (D : va_G) (ads : AD) (I A : HI) (a1 : Int32) (a2 : Int32) (a3 : Int32) (a4 : Int32) (hp : vp_in (a1 * 5 + a4) 25 ∧ vp_in (a2 * 5 + a3) 25) : Ct l yX3_crossing cX3_crossing 5 (some .int) 1 21 D ads shp [.inr (some 68), .inl a1, .inl a2, .inl a3, .inl a4] I A (qI (A 69 (a1 * 5 + a4).toNatClampNeg * A 69 (a2 * 5 + a3).toNatClampNeg) I A) := by
  exact k_X3_crossing l D ads I A a1 a2 a3 a4 _ ⟨hp.1, hp.2, qI_i rfl⟩
theorem bX3_putLink_0_1 : okB cX3_putLink RX3 0 [(3, 1, 0, 0, 0)] := And.intro ⟨_, dX3_putLink_0, rfl⟩ trivial
theorem bX3_putLink_4_6 : okB cX3_putLink RX3 4 [(3, 1, 0, 0, 0), (0, 0, 0, 0, 5)] := And.intro ⟨_, dX3_putLink_4, rfl⟩ (And.intro ⟨_, dX3_putLink_5, by decide⟩ trivial)
theorem bX3_putLink_9_10 : okB cX3_putLink RX3 9 [(3, 2, 0, 0, 0)] := And.intro ⟨_, dX3_putLink_9, rfl⟩ trivial
theorem bX3_putLink_13_15 : okB cX3_putLink RX3 13 [(3, 2, 0, 0, 0), (0, 0, 0, 0, 5)] := And.intro ⟨_, dX3_putLink_13, rfl⟩ (And.intro ⟨_, dX3_putLink_14, by decide⟩ trivial)
theorem bX3_putLink_18_24 : okB cX3_putLink RX3 18 [(5, 0, 0, 0, 0), (23, 9, 3, 3, 0), (3, 1, 0, 0, 0), (3, 2, 0, 0, 0)] := And.intro ⟨_, dX3_putLink_18, rfl⟩ (And.intro ⟨dX3_putLink_19, fl_X3_9⟩ (And.intro ⟨_, dX3_putLink_22, rfl⟩ (And.intro ⟨_, dX3_putLink_23, rfl⟩ trivial)))
theorem bX3_putLink_27_28 : okB cX3_putLink RX3 27 [(3, 3, 0, 0, 0)] := And.intro ⟨_, dX3_putLink_27, rfl⟩ trivial
set_option maxHeartbeats 4000000 in
set_option maxRecDepth 100000 in
theorem k_X3_putLink (l : Launch) (D : va_G) (ads : AD) (I A : HI) (a1 : Int32) (a2 : Int32) (a3 : Int32) (po : Option AV → HI → HI → Prop)
    (hv : ((a1 < 0 → po none I A) ∧ (¬ a1 < 0 → ((5 ≤ a1 → po none I A) ∧ (¬ 5 ≤ a1 → ((a2 < 0 → po none I A) ∧ (¬ a2 < 0 → ((5 ≤ a2 → po none I A) ∧ (¬ 5 ≤ a2 → (vp_in (a1 * 5 + a2) 25 ∧ po none I (up2 A 69 (a1 * 5 + a2).toNatClampNeg a3))))))))))) : Ct l yX3_putLink cX3_putLink 4 none 1 21 D ads shp [.inr (some 68), .inl a1, .inl a2, .inl a3] I A po := by
  refine Ct_of (by decide) (Nat.le_of_ble_eq_true rfl) ?_
  intro p e s m args below meth c hC hr
  replace hC : CX p s m args meth c cX3_putLink 4 RX3 (AdS ads s.heap.size) := hC
  show Gm p l e s m args below meth c D ads 1 21 4 po I A 0 [some (.inr (some 68)), some (.inl a1), some (.inl a2), some (.inl a3)] []
  refine g_blk hC _ bX3_putLink_0_1 (pc' := 1) (ls' := [some (.inr (some 68)), some (.inl a1), some (.inl a2), some (.inl a3)]) (st' := [.inl a1]) (I' := I) rfl rfl ?_
  obtain ⟨hv1, hv2⟩ := hv
  refine g_iflt hC dX3_putLink_1 (tgt := 29) (by decide) (fun hc => ?_) (fun hc => ?_)
  · have hv := hv1 hc
    clear hv1 hv2 hc
    exact g_retv hC hr dX3_putLink_29 hv
  · have hv := hv2 hc
    clear hv1 hv2 hc
    refine g_blk hC _ bX3_putLink_4_6 (pc' := 6) (ls' := [some (.inr (some 68)), some (.inl a1), some (.inl a2), some (.inl a3)]) (st' := [.inl 5, .inl a1]) (I' := I) rfl rfl ?_
    obtain ⟨hv1, hv2⟩ := hv
    refine g_cge hC dX3_putLink_6 (tgt := 29) (by decide) (fun hc => ?_) (fun hc => ?_)
    · have hv := hv1 hc
      clear hv1 hv2 hc
      exact g_retv hC hr dX3_putLink_29 hv
    · have hv := hv2 hc
      clear hv1 hv2 hc
      refine g_blk hC _ bX3_putLink_9_10 (pc' := 10) (ls' := [some (.inr (some 68)), some (.inl a1), some (.inl a2), some (.inl a3)]) (st' := [.inl a2]) (I' := I) rfl rfl ?_
      obtain ⟨hv1, hv2⟩ := hv
      refine g_iflt hC dX3_putLink_10 (tgt := 29) (by decide) (fun hc => ?_) (fun hc => ?_)
      · have hv := hv1 hc
        clear hv1 hv2 hc
        exact g_retv hC hr dX3_putLink_29 hv
      · have hv := hv2 hc
        clear hv1 hv2 hc
        refine g_blk hC _ bX3_putLink_13_15 (pc' := 15) (ls' := [some (.inr (some 68)), some (.inl a1), some (.inl a2), some (.inl a3)]) (st' := [.inl 5, .inl a2]) (I' := I) rfl rfl ?_
        obtain ⟨hv1, hv2⟩ := hv
        refine g_cge hC dX3_putLink_15 (tgt := 29) (by decide) (fun hc => ?_) (fun hc => ?_)
        · have hv := hv1 hc
          clear hv1 hv2 hc
          exact g_retv hC hr dX3_putLink_29 hv
        · have hv := hv2 hc
          clear hv1 hv2 hc
          refine g_blk hC _ bX3_putLink_18_24 (pc' := 24) (ls' := [some (.inr (some 68)), some (.inl a1), some (.inl a2), some (.inl a3)]) (st' := [.inl a2, .inl a1, .inr (some 69)]) (I' := I) rfl rfl ?_
          refine g_callN (host := RX8) hC (c_X8_pair l D ads I A a1 a2) dX3_putLink_24 nm_X8_pair (List.mem_of_getElem? (i := 4) rfl) wt_X8_pair wn_X8 wc_X8_pair ⟨by decide, by decide⟩ (as := [.inl a1, .inl a2]) (rest := [.inr (some 69)]) rfl (Nat.le_of_ble_eq_true rfl) ⟨Nat.le_refl _, Nat.le_refl _⟩ (k_qI ?_)
          refine g_blk hC _ bX3_putLink_27_28 (pc' := 28) (ls' := [some (.inr (some 68)), some (.inl a1), some (.inl a2), some (.inl a3)]) (st' := [.inl a3, .inl (a1 * 5 + a2), .inr (some 69)]) (I' := I) rfl rfl ?_
          obtain ⟨hi, hv⟩ := hv
          refine g_iast hC dX3_putLink_28 (rfl) hi ?_
          clear hi
          exact g_retv hC hr dX3_putLink_29 hv
set_option maxHeartbeats 4000000 in
set_option maxRecDepth 100000 in
theorem c_X3_putLink (l : Launch) (D : va_G) (ads : AD) (I A : HI) (a1 : Int32) (a2 : Int32) (a3 : Int32) : Ct l yX3_putLink cX3_putLink 4 none 1 21 D ads shp [.inr (some 68), .inl a1, .inl a2, .inl a3] I A (qN I (pLk A a1 a2 a3)) := by
  refine k_X3_putLink l D ads I A a1 a2 a3 _ ⟨fun h => qN_i rfl ?_, fun h => ⟨fun h2 => qN_i rfl ?_, fun h2 => ⟨fun h3 => qN_i rfl ?_, fun h3 => ⟨fun h4 => qN_i rfl ?_, fun h4 => ⟨?_, qN_i rfl ?_⟩⟩⟩⟩⟩
  · simp [pLk, h]
  · simp [pLk, h2]
  · simp [pLk, h3]
  · simp [pLk, h4]
  · obtain ⟨i, z1, rfl⟩ := nI_of h
    obtain ⟨j, z2, rfl⟩ := nI_of h3
    have i5 : i < 5 := Nat.lt_of_not_le fun q => h2 (nI_le q z1)
    have j5 : j < 5 := Nat.lt_of_not_le fun q => h4 (nI_le q z2)
    rw [ix_5]
    exact vp_in_nI (by omega) (by decide)
  · simp [pLk, h, h2, h3, h4]
theorem bX6_leastCost_0_4 : okB cX6_leastCost RX6 0 [(5, 0, 0, 0, 0), (23, 32, 6, 9, 0)] := And.intro ⟨_, dX6_leastCost_0, rfl⟩ (And.intro ⟨dX6_leastCost_1, fl_X6_32⟩ trivial)
set_option maxHeartbeats 4000000 in
set_option maxRecDepth 100000 in
theorem k_X6_leastCost (l : Launch) (D : va_G) (ads : AD) (I A : HI) (po : Option AV → HI → HI → Prop)
    (hv : po (some (.inl (I 29 9))) I A) : Ct l yX6_leastCost cX6_leastCost 1 (some .int) 0 0 D ads shp [.inr (some 29)] I A po := by
  refine Ct_of (by decide) (Nat.le_of_ble_eq_true rfl) ?_
  intro p e s m args below meth c hC hr
  replace hC : CX p s m args meth c cX6_leastCost 1 RX6 (AdS ads s.heap.size) := hC
  show Gm p l e s m args below meth c D ads 0 0 1 po I A 0 [some (.inr (some 29))] []
  refine g_blk hC _ bX6_leastCost_0_4 (pc' := 4) (ls' := [some (.inr (some 29))]) (st' := [.inl (I 29 9)]) (I' := I) rfl rfl ?_
  exact g_reti hC hr rfl dX6_leastCost_4 hv
set_option maxHeartbeats 4000000 in
set_option maxRecDepth 100000 in
theorem c_X6_leastCost (l : Launch) (D : va_G) (ads : AD) (I A : HI) : Ct l yX6_leastCost cX6_leastCost 1 (some .int) 0 0 D ads shp [.inr (some 29)] I A (qI (I 29 9) I A) := by
  exact k_X6_leastCost l D ads I A _ (qI_i rfl)
theorem bX6_leastWays_0_4 : okB cX6_leastWays RX6 0 [(5, 0, 0, 0, 0), (23, 36, 6, 10, 0)] := And.intro ⟨_, dX6_leastWays_0, rfl⟩ (And.intro ⟨dX6_leastWays_1, fl_X6_36⟩ trivial)
set_option maxHeartbeats 4000000 in
set_option maxRecDepth 100000 in
theorem k_X6_leastWays (l : Launch) (D : va_G) (ads : AD) (I A : HI) (po : Option AV → HI → HI → Prop)
    (hv : po (some (.inl (I 29 10))) I A) : Ct l yX6_leastWays cX6_leastWays 1 (some .int) 0 0 D ads shp [.inr (some 29)] I A po := by
  refine Ct_of (by decide) (Nat.le_of_ble_eq_true rfl) ?_
  intro p e s m args below meth c hC hr
  replace hC : CX p s m args meth c cX6_leastWays 1 RX6 (AdS ads s.heap.size) := hC
  show Gm p l e s m args below meth c D ads 0 0 1 po I A 0 [some (.inr (some 29))] []
  refine g_blk hC _ bX6_leastWays_0_4 (pc' := 4) (ls' := [some (.inr (some 29))]) (st' := [.inl (I 29 10)]) (I' := I) rfl rfl ?_
  exact g_reti hC hr rfl dX6_leastWays_4 hv
set_option maxHeartbeats 4000000 in
set_option maxRecDepth 100000 in
theorem c_X6_leastWays (l : Launch) (D : va_G) (ads : AD) (I A : HI) : Ct l yX6_leastWays cX6_leastWays 1 (some .int) 0 0 D ads shp [.inr (some 29)] I A (qI (I 29 10) I A) := by
  exact k_X6_leastWays l D ads I A _ (qI_i rfl)
theorem bX6_crossCost_0_4 : okB cX6_crossCost RX6 0 [(5, 0, 0, 0, 0), (23, 39, 6, 11, 0)] := And.intro ⟨_, dX6_crossCost_0, rfl⟩ (And.intro ⟨dX6_crossCost_1, fl_X6_39⟩ trivial)
set_option maxHeartbeats 4000000 in
set_option maxRecDepth 100000 in
theorem k_X6_crossCost (l : Launch) (D : va_G) (ads : AD) (I A : HI) (po : Option AV → HI → HI → Prop)
    (hv : po (some (.inl (I 29 11))) I A) : Ct l yX6_crossCost cX6_crossCost 1 (some .int) 0 0 D ads shp [.inr (some 29)] I A po := by
  refine Ct_of (by decide) (Nat.le_of_ble_eq_true rfl) ?_
  intro p e s m args below meth c hC hr
  replace hC : CX p s m args meth c cX6_crossCost 1 RX6 (AdS ads s.heap.size) := hC
  show Gm p l e s m args below meth c D ads 0 0 1 po I A 0 [some (.inr (some 29))] []
  refine g_blk hC _ bX6_crossCost_0_4 (pc' := 4) (ls' := [some (.inr (some 29))]) (st' := [.inl (I 29 11)]) (I' := I) rfl rfl ?_
  exact g_reti hC hr rfl dX6_crossCost_4 hv
set_option maxHeartbeats 4000000 in
set_option maxRecDepth 100000 in
theorem c_X6_crossCost (l : Launch) (D : va_G) (ads : AD) (I A : HI) : Ct l yX6_crossCost cX6_crossCost 1 (some .int) 0 0 D ads shp [.inr (some 29)] I A (qI (I 29 11) I A) := by
  exact k_X6_crossCost l D ads I A _ (qI_i rfl)
theorem bX6_crossPairs_0_4 : okB cX6_crossPairs RX6 0 [(5, 0, 0, 0, 0), (23, 42, 6, 12, 0)] := And.intro ⟨_, dX6_crossPairs_0, rfl⟩ (And.intro ⟨dX6_crossPairs_1, fl_X6_42⟩ trivial)
set_option maxHeartbeats 4000000 in
set_option maxRecDepth 100000 in
theorem k_X6_crossPairs (l : Launch) (D : va_G) (ads : AD) (I A : HI) (po : Option AV → HI → HI → Prop)
    (hv : po (some (.inl (I 29 12))) I A) : Ct l yX6_crossPairs cX6_crossPairs 1 (some .int) 0 0 D ads shp [.inr (some 29)] I A po := by
  refine Ct_of (by decide) (Nat.le_of_ble_eq_true rfl) ?_
  intro p e s m args below meth c hC hr
  replace hC : CX p s m args meth c cX6_crossPairs 1 RX6 (AdS ads s.heap.size) := hC
  show Gm p l e s m args below meth c D ads 0 0 1 po I A 0 [some (.inr (some 29))] []
  refine g_blk hC _ bX6_crossPairs_0_4 (pc' := 4) (ls' := [some (.inr (some 29))]) (st' := [.inl (I 29 12)]) (I' := I) rfl rfl ?_
  exact g_reti hC hr rfl dX6_crossPairs_4 hv
set_option maxHeartbeats 4000000 in
set_option maxRecDepth 100000 in
theorem c_X6_crossPairs (l : Launch) (D : va_G) (ads : AD) (I A : HI) : Ct l yX6_crossPairs cX6_crossPairs 1 (some .int) 0 0 D ads shp [.inr (some 29)] I A (qI (I 29 12) I A) := by
  exact k_X6_crossPairs l D ads I A _ (qI_i rfl)
theorem bX6_movedPairs_0_4 : okB cX6_movedPairs RX6 0 [(5, 0, 0, 0, 0), (23, 45, 6, 13, 0)] := And.intro ⟨_, dX6_movedPairs_0, rfl⟩ (And.intro ⟨dX6_movedPairs_1, fl_X6_45⟩ trivial)
set_option maxHeartbeats 4000000 in
set_option maxRecDepth 100000 in
theorem k_X6_movedPairs (l : Launch) (D : va_G) (ads : AD) (I A : HI) (po : Option AV → HI → HI → Prop)
    (hv : po (some (.inl (I 29 13))) I A) : Ct l yX6_movedPairs cX6_movedPairs 1 (some .int) 0 0 D ads shp [.inr (some 29)] I A po := by
  refine Ct_of (by decide) (Nat.le_of_ble_eq_true rfl) ?_
  intro p e s m args below meth c hC hr
  replace hC : CX p s m args meth c cX6_movedPairs 1 RX6 (AdS ads s.heap.size) := hC
  show Gm p l e s m args below meth c D ads 0 0 1 po I A 0 [some (.inr (some 29))] []
  refine g_blk hC _ bX6_movedPairs_0_4 (pc' := 4) (ls' := [some (.inr (some 29))]) (st' := [.inl (I 29 13)]) (I' := I) rfl rfl ?_
  exact g_reti hC hr rfl dX6_movedPairs_4 hv
set_option maxHeartbeats 4000000 in
set_option maxRecDepth 100000 in
theorem c_X6_movedPairs (l : Launch) (D : va_G) (ads : AD) (I A : HI) : Ct l yX6_movedPairs cX6_movedPairs 1 (some .int) 0 0 D ads shp [.inr (some 29)] I A (qI (I 29 13) I A) := by
  exact k_X6_movedPairs l D ads I A _ (qI_i rfl)
theorem bX6_changesOf_0_9 : okB cX6_changesOf RX6 0 [(5, 0, 0, 0, 0), (23, 11, 6, 4, 0), (5, 0, 0, 0, 0), (23, 52, 6, 1, 0), (3, 1, 0, 0, 0)] := And.intro ⟨_, dX6_changesOf_0, rfl⟩ (And.intro ⟨dX6_changesOf_1, fl_X6_11⟩ (And.intro ⟨_, dX6_changesOf_4, rfl⟩ (And.intro ⟨dX6_changesOf_5, fl_X6_52⟩ (And.intro ⟨_, dX6_changesOf_8, rfl⟩ trivial))))
theorem bX6_changesOf_12_13 : okB cX6_changesOf RX6 12 [(0, 0, 0, 0, 5)] := And.intro ⟨_, dX6_changesOf_12, by decide⟩ trivial
set_option maxHeartbeats 4000000 in
set_option maxRecDepth 100000 in
theorem k_X6_changesOf (l : Launch) (D : va_G) (ads : AD) (I A : HI) (a1 : Int32) (po : Option AV → HI → HI → Prop)
    (hv : ((vp_in a1 11) ∧ (vp_in (mnI (A 25 a1.toNatClampNeg) 5) 6 ∧ po (some (.inr (some (71 + 4 * (mnI (A 25 a1.toNatClampNeg) 5).toNatClampNeg)))) I A))) : Ct l yX6_changesOf cX6_changesOf 2 (some (.object "RibbonSetter$Changes")) 1 21 D ads shp [.inr (some 29), .inl a1] I A po := by
  refine Ct_of (by decide) (Nat.le_of_ble_eq_true rfl) ?_
  intro p e s m args below meth c hC hr
  replace hC : CX p s m args meth c cX6_changesOf 2 RX6 (AdS ads s.heap.size) := hC
  show Gm p l e s m args below meth c D ads 1 21 2 po I A 0 [some (.inr (some 29)), some (.inl a1)] []
  refine g_blk hC _ bX6_changesOf_0_9 (pc' := 9) (ls' := [some (.inr (some 29)), some (.inl a1)]) (st' := [.inl a1, .inr (some 13), .inr (some 30)]) (I' := I) rfl rfl ?_
  obtain ⟨hp1, hv⟩ := hv
  refine g_callV hC (c_X7_countIn l D ads I A a1 hp1) dX6_changesOf_9 nm_X7_countIn rfl rfl wl_X6_90 wi_X7_countIn ws_X7_countIn wn_X7 wc_X7_countIn ⟨by decide, by decide⟩ (as := [.inl a1]) (rest := [.inr (some 30)]) rfl (Nat.le_of_ble_eq_true rfl) ⟨Nat.le_refl _, Nat.le_refl _⟩ (k_qI ?_)
  refine g_blk hC _ bX6_changesOf_12_13 (pc' := 13) (ls' := [some (.inr (some 29)), some (.inl a1)]) (st' := [.inl 5, .inl (A 25 a1.toNatClampNeg), .inr (some 30)]) (I' := I) rfl rfl ?_
  refine g_min hC dX6_changesOf_13 wl_X6_110 (by decide) (Nat.le_of_ble_eq_true rfl) ⟨Nat.le_refl _, Nat.le_refl _⟩ ?_
  obtain ⟨hr2, hv⟩ := hv
  refine g_aald hC dX6_changesOf_16 (f := _) rfl hr2 (ra_30 (vin_lt hr2)) ?_
  exact g_reta hC hr (Or.inl ⟨_, rfl⟩) dX6_changesOf_17 hv
set_option maxHeartbeats 4000000 in
set_option maxRecDepth 100000 in
theorem c_X6_changesOf (l : Launch) (D : va_G) (ads : AD) (I A : HI) (a1 : Int32) (hp : vp_in a1 11 ∧ 0 ≤ A 25 a1.toNatClampNeg) : Ct l yX6_changesOf cX6_changesOf 2 (some (.object "RibbonSetter$Changes")) 1 21 D ads shp [.inr (some 29), .inl a1] I A (qR (71 + 4 * (mnI (A 25 a1.toNatClampNeg) 5).toNatClampNeg) I A) := by
  refine k_X6_changesOf l D ads I A a1 _ ⟨hp.1, ?_, ⟨rfl, rfl, rfl⟩⟩
  exact chO_in hp.2
theorem bX9_isPlace_0_1 : okB cX9_isPlace RX9 0 [(3, 1, 0, 0, 0)] := And.intro ⟨_, dX9_isPlace_0, rfl⟩ trivial
theorem bX9_isPlace_14_15 : okB cX9_isPlace RX9 14 [(0, 0, 0, 0, 0)] := And.intro ⟨_, dX9_isPlace_14, by decide⟩ trivial
theorem bX9_isPlace_4_7 : okB cX9_isPlace RX9 4 [(3, 1, 0, 0, 0), (1, 0, 0, 0, 10)] := And.intro ⟨_, dX9_isPlace_4, rfl⟩ (And.intro ⟨_, dX9_isPlace_5, by decide⟩ trivial)
theorem bX9_isPlace_10_11 : okB cX9_isPlace RX9 10 [(0, 0, 0, 0, 1)] := And.intro ⟨_, dX9_isPlace_10, by decide⟩ trivial
set_option maxHeartbeats 4000000 in
set_option maxRecDepth 100000 in
theorem k_X9_isPlace (l : Launch) (D : va_G) (ads : AD) (I A : HI) (a1 : Int32) (po : Option AV → HI → HI → Prop)
    (hv : ((a1 < 0 → po (some (.inl 0)) I A) ∧ (¬ a1 < 0 → ((10 ≤ a1 → po (some (.inl 0)) I A) ∧ (¬ 10 ≤ a1 → po (some (.inl 1)) I A))))) : Ct l yX9_isPlace cX9_isPlace 2 (some .boolean) 0 0 D ads shp [.inr (some 96), .inl a1] I A po := by
  refine Ct_of (by decide) (Nat.le_of_ble_eq_true rfl) ?_
  intro p e s m args below meth c hC hr
  replace hC : CX p s m args meth c cX9_isPlace 2 RX9 (AdS ads s.heap.size) := hC
  show Gm p l e s m args below meth c D ads 0 0 2 po I A 0 [some (.inr (some 96)), some (.inl a1)] []
  refine g_blk hC _ bX9_isPlace_0_1 (pc' := 1) (ls' := [some (.inr (some 96)), some (.inl a1)]) (st' := [.inl a1]) (I' := I) rfl rfl ?_
  obtain ⟨hv1, hv2⟩ := hv
  refine g_iflt hC dX9_isPlace_1 (tgt := 14) (by decide) (fun hc => ?_) (fun hc => ?_)
  · have hv := hv1 hc
    clear hv1 hv2 hc
    refine g_blk hC _ bX9_isPlace_14_15 (pc' := 15) (ls' := [some (.inr (some 96)), some (.inl a1)]) (st' := [.inl 0]) (I' := I) rfl rfl ?_
    exact g_reti hC hr (by decide) dX9_isPlace_15 hv
  · have hv := hv2 hc
    clear hv1 hv2 hc
    refine g_blk hC _ bX9_isPlace_4_7 (pc' := 7) (ls' := [some (.inr (some 96)), some (.inl a1)]) (st' := [.inl 10, .inl a1]) (I' := I) rfl rfl ?_
    obtain ⟨hv1, hv2⟩ := hv
    refine g_cge hC dX9_isPlace_7 (tgt := 14) (by decide) (fun hc => ?_) (fun hc => ?_)
    · have hv := hv1 hc
      clear hv1 hv2 hc
      refine g_blk hC _ bX9_isPlace_14_15 (pc' := 15) (ls' := [some (.inr (some 96)), some (.inl a1)]) (st' := [.inl 0]) (I' := I) rfl rfl ?_
      exact g_reti hC hr (by decide) dX9_isPlace_15 hv
    · have hv := hv2 hc
      clear hv1 hv2 hc
      refine g_blk hC _ bX9_isPlace_10_11 (pc' := 11) (ls' := [some (.inr (some 96)), some (.inl a1)]) (st' := [.inl 1]) (I' := I) rfl rfl ?_
      refine g_goto hC dX9_isPlace_11 (tgt := 15) (by decide) ?_
      exact g_reti hC hr (by decide) dX9_isPlace_15 hv
set_option maxHeartbeats 4000000 in
set_option maxRecDepth 100000 in
theorem c_X9_isPlace (l : Launch) (D : va_G) (ads : AD) (I A : HI) (a1 : Int32) : Ct l yX9_isPlace cX9_isPlace 2 (some .boolean) 0 0 D ads shp [.inr (some 96), .inl a1] I A (qI (zP a1) I A) := by
  refine k_X9_isPlace l D ads I A a1 _ ⟨fun h => qI_i ?_, fun h => ⟨fun h2 => qI_i ?_, fun h2 => qI_i ?_⟩⟩ <;> simp [zP, *]
theorem bX9_flows_0_4 : okB cX9_flows RX9 0 [(0, 0, 0, 0, 0), (7, 1, 0, 0, 0), (0, 0, 0, 0, 0), (7, 2, 0, 0, 0)] := And.intro ⟨_, dX9_flows_0, by decide⟩ (And.intro ⟨_, dX9_flows_1, rfl⟩ (And.intro ⟨_, dX9_flows_2, by decide⟩ (And.intro ⟨_, dX9_flows_3, rfl⟩ trivial)))
theorem bX9_flows_4_7 : okB cX9_flows RX9 4 [(3, 2, 0, 0, 0), (1, 0, 0, 0, 100)] := And.intro ⟨_, dX9_flows_4, rfl⟩ (And.intro ⟨_, dX9_flows_5, by decide⟩ trivial)
theorem bX9_flows_29_30 : okB cX9_flows RX9 29 [(3, 1, 0, 0, 0)] := And.intro ⟨_, dX9_flows_29, rfl⟩ trivial
theorem bX9_flows_10_15 : okB cX9_flows RX9 10 [(5, 0, 0, 0, 0), (23, 7, 9, 1, 0), (3, 2, 0, 0, 0)] := And.intro ⟨_, dX9_flows_10, rfl⟩ (And.intro ⟨dX9_flows_11, fl_X9_7⟩ (And.intro ⟨_, dX9_flows_14, rfl⟩ trivial))
theorem bX9_flows_23_26 : okB cX9_flows RX9 23 [(11, 2, 0, 0, 1)] := And.intro ⟨_, dX9_flows_23, by decide⟩ trivial
theorem bX9_flows_19_26 : okB cX9_flows RX9 19 [(3, 1, 0, 0, 0), (0, 0, 0, 0, 1), (12, 0, 0, 0, 0), (7, 1, 0, 0, 0), (11, 2, 0, 0, 1)] := And.intro ⟨_, dX9_flows_19, rfl⟩ (And.intro ⟨_, dX9_flows_20, by decide⟩ (And.intro dX9_flows_21 (And.intro ⟨_, dX9_flows_22, rfl⟩ (And.intro ⟨_, dX9_flows_23, by decide⟩ trivial))))
set_option maxHeartbeats 4000000 in
set_option maxRecDepth 100000 in
theorem k_X9_flows (l : Launch) (D : va_G) (ads : AD) (I A : HI) (po : Option AV → HI → HI → Prop) (Iv4 : Int32 → Int32 → Prop) (mu4 : Int32 → Int32 → Nat)
    (hv : (Iv4 0 0 ∧ ∀ (x1_4 : Int32) (x2_4 : Int32), Iv4 x1_4 x2_4 → ((100 ≤ x2_4 → po (some (.inl x1_4)) I A) ∧ (¬ 100 ≤ x2_4 → (vp_in x2_4 100 ∧ (((A 97 x2_4.toNatClampNeg) ≤ 0 → (Iv4 x1_4 (x2_4 + 1) ∧ mu4 x1_4 (x2_4 + 1) < mu4 x1_4 x2_4)) ∧ (¬ (A 97 x2_4.toNatClampNeg) ≤ 0 → (Iv4 (x1_4 + 1) (x2_4 + 1) ∧ mu4 (x1_4 + 1) (x2_4 + 1) < mu4 x1_4 x2_4)))))))) : Ct l yX9_flows cX9_flows 3 (some .int) 0 0 D ads shp [.inr (some 96)] I A po := by
  refine Ct_of (by decide) (Nat.le_of_ble_eq_true rfl) ?_
  intro p e s m args below meth c hC hr
  replace hC : CX p s m args meth c cX9_flows 3 RX9 (AdS ads s.heap.size) := hC
  show Gm p l e s m args below meth c D ads 0 0 3 po I A 0 [some (.inr (some 96)), none, none] []
  refine g_blk hC _ bX9_flows_0_4 (pc' := 4) (ls' := [some (.inr (some 96)), some (.inl 0), some (.inl 0)]) (st' := []) (I' := I) rfl rfl ?_
  obtain ⟨hi4, hb4⟩ := hv
  have L4 : ∀ (n : Nat) (x1_4 : Int32) (x2_4 : Int32), Iv4 x1_4 x2_4 → mu4 x1_4 x2_4 < n → Gm p l e s m args below meth c D ads 0 0 3 po I A 4 [some (.inr (some 96)), some (.inl x1_4), some (.inl x2_4)] [] := by
    intro n
    induction n with
    | zero => intro x1_4 x2_4 _ hn; exact absurd hn (Nat.not_lt_zero _)
    | succ n ih4 =>
      intro x1_4 x2_4 hv hn4
      replace hv := hb4 x1_4 x2_4 hv
      skip
      refine g_blk hC _ bX9_flows_4_7 (pc' := 7) (ls' := [some (.inr (some 96)), some (.inl x1_4), some (.inl x2_4)]) (st' := [.inl 100, .inl x2_4]) (I' := I) rfl rfl ?_
      obtain ⟨hv1, hv2⟩ := hv
      refine g_cge hC dX9_flows_7 (tgt := 29) (by decide) (fun hc => ?_) (fun hc => ?_)
      · have hv := hv1 hc
        clear hv1 hv2 hc
        refine g_blk hC _ bX9_flows_29_30 (pc' := 30) (ls' := [some (.inr (some 96)), some (.inl x1_4), some (.inl x2_4)]) (st' := [.inl x1_4]) (I' := I) rfl rfl ?_
        exact g_reti hC hr rfl dX9_flows_30 hv
      · have hv := hv2 hc
        clear hv1 hv2 hc
        refine g_blk hC _ bX9_flows_10_15 (pc' := 15) (ls' := [some (.inr (some 96)), some (.inl x1_4), some (.inl x2_4)]) (st' := [.inl x2_4, .inr (some 97)]) (I' := I) rfl rfl ?_
        obtain ⟨hi, hv⟩ := hv
        refine g_iald hC dX9_flows_15 (rfl) hi ?_
        clear hi
        obtain ⟨hv1, hv2⟩ := hv
        refine g_ifle hC dX9_flows_16 (tgt := 23) (by decide) (fun hc => ?_) (fun hc => ?_)
        · have hv := hv1 hc
          clear hv1 hv2 hc
          refine g_blk hC _ bX9_flows_23_26 (pc' := 26) (ls' := [some (.inr (some 96)), some (.inl x1_4), some (.inl (x2_4 + 1))]) (st' := []) (I' := I) rfl rfl ?_
          refine g_goto hC dX9_flows_26 (tgt := 4) (by decide) ?_
          exact g_weak (ls1 := [some (.inr (some 96)), some (.inl x1_4), some (.inl (x2_4 + 1))]) rfl (And.intro rfl (And.intro rfl (And.intro rfl trivial))) (ih4 x1_4 (x2_4 + 1) hv.1 (Nat.lt_of_lt_of_le hv.2 (Nat.le_of_lt_succ hn4)))
        · have hv := hv2 hc
          clear hv1 hv2 hc
          refine g_blk hC _ bX9_flows_19_26 (pc' := 26) (ls' := [some (.inr (some 96)), some (.inl (x1_4 + 1)), some (.inl (x2_4 + 1))]) (st' := []) (I' := I) rfl rfl ?_
          refine g_goto hC dX9_flows_26 (tgt := 4) (by decide) ?_
          exact g_weak (ls1 := [some (.inr (some 96)), some (.inl (x1_4 + 1)), some (.inl (x2_4 + 1))]) rfl (And.intro rfl (And.intro rfl (And.intro rfl trivial))) (ih4 (x1_4 + 1) (x2_4 + 1) hv.1 (Nat.lt_of_lt_of_le hv.2 (Nat.le_of_lt_succ hn4)))
  exact g_weak (ls1 := [some (.inr (some 96)), some (.inl 0), some (.inl 0)]) rfl (And.intro rfl (And.intro rfl (And.intro rfl trivial))) (L4 _ 0 0 hi4 (Nat.lt_succ_self _))
set_option maxHeartbeats 4000000 in
set_option maxRecDepth 100000 in
theorem c_X9_flows (l : Launch) (D : va_G) (ads : AD) (I A : HI) : Ct l yX9_flows cX9_flows 3 (some .int) 0 0 D ads shp [.inr (some 96)] I A (qI (cnI (A 97) 100) I A) := by
  refine k_X9_flows l D ads I A _ (fun x i => ∃ j, j ≤ 100 ∧ i = nI j ∧ x = cnI (A 97) j) (fun _ i => 100 - i.toNatClampNeg) ⟨⟨0, Nat.zero_le _, rfl, rfl⟩, ?_⟩
  rintro x i ⟨j, h1, rfl, rfl⟩
  refine ⟨fun h => ?_, fun h => ?_⟩
  · have e := cn_eq rfl h1 (by decide) h
    subst e
    exact qI_i rfl
  · have hj := cn_lt rfl h1 (by decide) h
    refine ⟨vp_in_nI hj (by decide), fun h2 => ⟨⟨j + 1, hj, nI_1 j, ?_⟩, cn_mu hj (by decide)⟩, fun h2 => ⟨⟨j + 1, hj, nI_1 j, ?_⟩, cn_mu hj (by decide)⟩⟩
    · rw [cl_n (by omega)] at h2
      simp only [cnI, if_neg (le_nlt h2)]
    · rw [cl_n (by omega)] at h2
      simp only [cnI, if_pos (nle h2)]
theorem bX9_isUsed_0_9 : okB cX9_isUsed RX9 0 [(5, 0, 0, 0, 0), (23, 79, 9, 7, 0), (3, 1, 0, 0, 0), (19, 0, 0, 0, 0), (0, 0, 0, 0, 1), (15, 0, 0, 0, 0), (0, 0, 0, 0, 1)] := And.intro ⟨_, dX9_isUsed_0, rfl⟩ (And.intro ⟨dX9_isUsed_1, fl_X9_79⟩ (And.intro ⟨_, dX9_isUsed_4, rfl⟩ (And.intro dX9_isUsed_5 (And.intro ⟨_, dX9_isUsed_6, by decide⟩ (And.intro dX9_isUsed_7 (And.intro ⟨_, dX9_isUsed_8, by decide⟩ trivial))))))
theorem bX9_isUsed_16_17 : okB cX9_isUsed RX9 16 [(0, 0, 0, 0, 0)] := And.intro ⟨_, dX9_isUsed_16, by decide⟩ trivial
theorem bX9_isUsed_12_13 : okB cX9_isUsed RX9 12 [(0, 0, 0, 0, 1)] := And.intro ⟨_, dX9_isUsed_12, by decide⟩ trivial
set_option maxHeartbeats 4000000 in
set_option maxRecDepth 100000 in
theorem k_X9_isUsed (l : Launch) (D : va_G) (ads : AD) (I A : HI) (a1 : Int32) (po : Option AV → HI → HI → Prop)
    (hv : ((¬ (((I 96 7) >>> (a1 &&& 31)) &&& 1) = 1 → po (some (.inl 0)) I A) ∧ ((((I 96 7) >>> (a1 &&& 31)) &&& 1) = 1 → po (some (.inl 1)) I A))) : Ct l yX9_isUsed cX9_isUsed 2 (some .boolean) 0 0 D ads shp [.inr (some 96), .inl a1] I A po := by
  refine Ct_of (by decide) (Nat.le_of_ble_eq_true rfl) ?_
  intro p e s m args below meth c hC hr
  replace hC : CX p s m args meth c cX9_isUsed 2 RX9 (AdS ads s.heap.size) := hC
  show Gm p l e s m args below meth c D ads 0 0 2 po I A 0 [some (.inr (some 96)), some (.inl a1)] []
  refine g_blk hC _ bX9_isUsed_0_9 (pc' := 9) (ls' := [some (.inr (some 96)), some (.inl a1)]) (st' := [.inl 1, .inl (((I 96 7) >>> (a1 &&& 31)) &&& 1)]) (I' := I) rfl rfl ?_
  obtain ⟨hv1, hv2⟩ := hv
  refine g_cne hC dX9_isUsed_9 (tgt := 16) (by decide) (fun hc => ?_) (fun hc => ?_)
  · have hv := hv1 hc
    clear hv1 hv2 hc
    refine g_blk hC _ bX9_isUsed_16_17 (pc' := 17) (ls' := [some (.inr (some 96)), some (.inl a1)]) (st' := [.inl 0]) (I' := I) rfl rfl ?_
    exact g_reti hC hr (by decide) dX9_isUsed_17 hv
  · have hv := hv2 hc
    clear hv1 hv2 hc
    refine g_blk hC _ bX9_isUsed_12_13 (pc' := 13) (ls' := [some (.inr (some 96)), some (.inl a1)]) (st' := [.inl 1]) (I' := I) rfl rfl ?_
    refine g_goto hC dX9_isUsed_13 (tgt := 17) (by decide) ?_
    exact g_reti hC hr (by decide) dX9_isUsed_17 hv
set_option maxHeartbeats 4000000 in
set_option maxRecDepth 100000 in
theorem c_X9_isUsed (l : Launch) (D : va_G) (ads : AD) (I A : HI) (a1 : Int32) : Ct l yX9_isUsed cX9_isUsed 2 (some .boolean) 0 0 D ads shp [.inr (some 96), .inl a1] I A (qI (uBt (I 96 7) a1) I A) := by
  refine k_X9_isUsed l D ads I A a1 _ ⟨fun h => qI_i ?_, fun h => qI_i ?_⟩ <;> simp [uBt, h]
theorem bX9_isTurned_0_5 : okB cX9_isTurned RX9 0 [(5, 0, 0, 0, 0), (23, 26, 9, 10, 0), (3, 1, 0, 0, 0)] := And.intro ⟨_, dX9_isTurned_0, rfl⟩ (And.intro ⟨dX9_isTurned_1, fl_X9_26⟩ (And.intro ⟨_, dX9_isTurned_4, rfl⟩ trivial))
theorem bX9_isTurned_6_11 : okB cX9_isTurned RX9 6 [(5, 0, 0, 0, 0), (23, 26, 9, 10, 0), (3, 2, 0, 0, 0)] := And.intro ⟨_, dX9_isTurned_6, rfl⟩ (And.intro ⟨dX9_isTurned_7, fl_X9_26⟩ (And.intro ⟨_, dX9_isTurned_10, rfl⟩ trivial))
theorem bX9_isTurned_19_20 : okB cX9_isTurned RX9 19 [(0, 0, 0, 0, 0)] := And.intro ⟨_, dX9_isTurned_19, by decide⟩ trivial
theorem bX9_isTurned_15_16 : okB cX9_isTurned RX9 15 [(0, 0, 0, 0, 1)] := And.intro ⟨_, dX9_isTurned_15, by decide⟩ trivial
set_option maxHeartbeats 4000000 in
set_option maxRecDepth 100000 in
theorem k_X9_isTurned (l : Launch) (D : va_G) (ads : AD) (I A : HI) (a1 : Int32) (a2 : Int32) (po : Option AV → HI → HI → Prop)
    (hv : (vp_in a1 10 ∧ (vp_in a2 10 ∧ (((A 101 a1.toNatClampNeg) ≤ (A 101 a2.toNatClampNeg) → po (some (.inl 0)) I A) ∧ (¬ (A 101 a1.toNatClampNeg) ≤ (A 101 a2.toNatClampNeg) → po (some (.inl 1)) I A))))) : Ct l yX9_isTurned cX9_isTurned 3 (some .boolean) 0 0 D ads shp [.inr (some 96), .inl a1, .inl a2] I A po := by
  refine Ct_of (by decide) (Nat.le_of_ble_eq_true rfl) ?_
  intro p e s m args below meth c hC hr
  replace hC : CX p s m args meth c cX9_isTurned 3 RX9 (AdS ads s.heap.size) := hC
  show Gm p l e s m args below meth c D ads 0 0 3 po I A 0 [some (.inr (some 96)), some (.inl a1), some (.inl a2)] []
  refine g_blk hC _ bX9_isTurned_0_5 (pc' := 5) (ls' := [some (.inr (some 96)), some (.inl a1), some (.inl a2)]) (st' := [.inl a1, .inr (some 101)]) (I' := I) rfl rfl ?_
  obtain ⟨hi, hv⟩ := hv
  refine g_iald hC dX9_isTurned_5 (rfl) hi ?_
  clear hi
  refine g_blk hC _ bX9_isTurned_6_11 (pc' := 11) (ls' := [some (.inr (some 96)), some (.inl a1), some (.inl a2)]) (st' := [.inl a2, .inr (some 101), .inl (A 101 a1.toNatClampNeg)]) (I' := I) rfl rfl ?_
  obtain ⟨hi, hv⟩ := hv
  refine g_iald hC dX9_isTurned_11 (rfl) hi ?_
  clear hi
  obtain ⟨hv1, hv2⟩ := hv
  refine g_cle hC dX9_isTurned_12 (tgt := 19) (by decide) (fun hc => ?_) (fun hc => ?_)
  · have hv := hv1 hc
    clear hv1 hv2 hc
    refine g_blk hC _ bX9_isTurned_19_20 (pc' := 20) (ls' := [some (.inr (some 96)), some (.inl a1), some (.inl a2)]) (st' := [.inl 0]) (I' := I) rfl rfl ?_
    exact g_reti hC hr (by decide) dX9_isTurned_20 hv
  · have hv := hv2 hc
    clear hv1 hv2 hc
    refine g_blk hC _ bX9_isTurned_15_16 (pc' := 16) (ls' := [some (.inr (some 96)), some (.inl a1), some (.inl a2)]) (st' := [.inl 1]) (I' := I) rfl rfl ?_
    refine g_goto hC dX9_isTurned_16 (tgt := 20) (by decide) ?_
    exact g_reti hC hr (by decide) dX9_isTurned_20 hv
set_option maxHeartbeats 4000000 in
set_option maxRecDepth 100000 in
theorem c_X9_isTurned (l : Launch) (D : va_G) (ads : AD) (I A : HI) (a1 : Int32) (a2 : Int32) (hp : vp_in a1 10 ∧ vp_in a2 10) : Ct l yX9_isTurned cX9_isTurned 3 (some .boolean) 0 0 D ads shp [.inr (some 96), .inl a1, .inl a2] I A (qI (trnI (A 101) a1 a2) I A) := by
  refine k_X9_isTurned l D ads I A a1 a2 _ ⟨hp.1, hp.2, fun h => qI_i ?_, fun h => qI_i ?_⟩
  · simp [trnI, le_nlt h]
  · simp [trnI, nle h]
theorem bX9_isFlow_0_2 : okB cX9_isFlow RX9 0 [(5, 0, 0, 0, 0), (3, 1, 0, 0, 0)] := And.intro ⟨_, dX9_isFlow_0, rfl⟩ (And.intro ⟨_, dX9_isFlow_1, rfl⟩ trivial)
theorem bX9_isFlow_34_35 : okB cX9_isFlow RX9 34 [(0, 0, 0, 0, 0)] := And.intro ⟨_, dX9_isFlow_34, by decide⟩ trivial
theorem bX9_isFlow_8_10 : okB cX9_isFlow RX9 8 [(5, 0, 0, 0, 0), (3, 2, 0, 0, 0)] := And.intro ⟨_, dX9_isFlow_8, rfl⟩ (And.intro ⟨_, dX9_isFlow_9, rfl⟩ trivial)
theorem bX9_isFlow_16_26 : okB cX9_isFlow RX9 16 [(5, 0, 0, 0, 0), (23, 7, 9, 1, 0), (1, 0, 0, 0, 10), (3, 1, 0, 0, 0), (14, 0, 0, 0, 0), (3, 2, 0, 0, 0), (12, 0, 0, 0, 0)] := And.intro ⟨_, dX9_isFlow_16, rfl⟩ (And.intro ⟨dX9_isFlow_17, fl_X9_7⟩ (And.intro ⟨_, dX9_isFlow_20, by decide⟩ (And.intro ⟨_, dX9_isFlow_22, rfl⟩ (And.intro dX9_isFlow_23 (And.intro ⟨_, dX9_isFlow_24, rfl⟩ (And.intro dX9_isFlow_25 trivial))))))
theorem bX9_isFlow_30_31 : okB cX9_isFlow RX9 30 [(0, 0, 0, 0, 1)] := And.intro ⟨_, dX9_isFlow_30, by decide⟩ trivial
set_option maxHeartbeats 4000000 in
set_option maxRecDepth 100000 in
theorem k_X9_isFlow (l : Launch) (D : va_G) (ads : AD) (I A : HI) (a1 : Int32) (a2 : Int32) (po : Option AV → HI → HI → Prop)
    (hv : (((zP a1) = 0 → po (some (.inl 0)) I A) ∧ (¬ (zP a1) = 0 → (((zP a2) = 0 → po (some (.inl 0)) I A) ∧ (¬ (zP a2) = 0 → (vp_in ((10 * a1) + a2) 100 ∧ (((A 97 ((10 * a1) + a2).toNatClampNeg) ≤ 0 → po (some (.inl 0)) I A) ∧ (¬ (A 97 ((10 * a1) + a2).toNatClampNeg) ≤ 0 → po (some (.inl 1)) I A)))))))) : Ct l yX9_isFlow cX9_isFlow 3 (some .boolean) 1 21 D ads shp [.inr (some 96), .inl a1, .inl a2] I A po := by
  refine Ct_of (by decide) (Nat.le_of_ble_eq_true rfl) ?_
  intro p e s m args below meth c hC hr
  replace hC : CX p s m args meth c cX9_isFlow 3 RX9 (AdS ads s.heap.size) := hC
  show Gm p l e s m args below meth c D ads 1 21 3 po I A 0 [some (.inr (some 96)), some (.inl a1), some (.inl a2)] []
  refine g_blk hC _ bX9_isFlow_0_2 (pc' := 2) (ls' := [some (.inr (some 96)), some (.inl a1), some (.inl a2)]) (st' := [.inl a1, .inr (some 96)]) (I' := I) rfl rfl ?_
  refine g_callV hC (c_X9_isPlace l D ads I A a1) dX9_isFlow_2 nm_X9_isPlace rfl rfl wl_X9_68 wi_X9_isPlace ws_X9_isPlace wn_X9 wc_X9_isPlace ⟨by decide, by decide⟩ (as := [.inl a1]) (rest := []) rfl (Nat.le_of_ble_eq_true rfl) ⟨Nat.le_refl _, Nat.le_refl _⟩ (k_qI ?_)
  obtain ⟨hv1, hv2⟩ := hv
  refine g_ifeq hC dX9_isFlow_5 (tgt := 34) (by decide) (fun hc => ?_) (fun hc => ?_)
  · have hv := hv1 hc
    clear hv1 hv2 hc
    refine g_blk hC _ bX9_isFlow_34_35 (pc' := 35) (ls' := [some (.inr (some 96)), some (.inl a1), some (.inl a2)]) (st' := [.inl 0]) (I' := I) rfl rfl ?_
    exact g_reti hC hr (by decide) dX9_isFlow_35 hv
  · have hv := hv2 hc
    clear hv1 hv2 hc
    refine g_blk hC _ bX9_isFlow_8_10 (pc' := 10) (ls' := [some (.inr (some 96)), some (.inl a1), some (.inl a2)]) (st' := [.inl a2, .inr (some 96)]) (I' := I) rfl rfl ?_
    refine g_callV hC (c_X9_isPlace l D ads I A a2) dX9_isFlow_10 nm_X9_isPlace rfl rfl wl_X9_68 wi_X9_isPlace ws_X9_isPlace wn_X9 wc_X9_isPlace ⟨by decide, by decide⟩ (as := [.inl a2]) (rest := []) rfl (Nat.le_of_ble_eq_true rfl) ⟨Nat.le_refl _, Nat.le_refl _⟩ (k_qI ?_)
    obtain ⟨hv1, hv2⟩ := hv
    refine g_ifeq hC dX9_isFlow_13 (tgt := 34) (by decide) (fun hc => ?_) (fun hc => ?_)
    · have hv := hv1 hc
      clear hv1 hv2 hc
      refine g_blk hC _ bX9_isFlow_34_35 (pc' := 35) (ls' := [some (.inr (some 96)), some (.inl a1), some (.inl a2)]) (st' := [.inl 0]) (I' := I) rfl rfl ?_
      exact g_reti hC hr (by decide) dX9_isFlow_35 hv
    · have hv := hv2 hc
      clear hv1 hv2 hc
      refine g_blk hC _ bX9_isFlow_16_26 (pc' := 26) (ls' := [some (.inr (some 96)), some (.inl a1), some (.inl a2)]) (st' := [.inl ((10 * a1) + a2), .inr (some 97)]) (I' := I) rfl rfl ?_
      obtain ⟨hi, hv⟩ := hv
      refine g_iald hC dX9_isFlow_26 (rfl) hi ?_
      clear hi
      obtain ⟨hv1, hv2⟩ := hv
      refine g_ifle hC dX9_isFlow_27 (tgt := 34) (by decide) (fun hc => ?_) (fun hc => ?_)
      · have hv := hv1 hc
        clear hv1 hv2 hc
        refine g_blk hC _ bX9_isFlow_34_35 (pc' := 35) (ls' := [some (.inr (some 96)), some (.inl a1), some (.inl a2)]) (st' := [.inl 0]) (I' := I) rfl rfl ?_
        exact g_reti hC hr (by decide) dX9_isFlow_35 hv
      · have hv := hv2 hc
        clear hv1 hv2 hc
        refine g_blk hC _ bX9_isFlow_30_31 (pc' := 31) (ls' := [some (.inr (some 96)), some (.inl a1), some (.inl a2)]) (st' := [.inl 1]) (I' := I) rfl rfl ?_
        refine g_goto hC dX9_isFlow_31 (tgt := 35) (by decide) ?_
        exact g_reti hC hr (by decide) dX9_isFlow_35 hv
set_option maxHeartbeats 4000000 in
set_option maxRecDepth 100000 in
theorem c_X9_isFlow (l : Launch) (D : va_G) (ads : AD) (I A : HI) (a1 : Int32) (a2 : Int32) : Ct l yX9_isFlow cX9_isFlow 3 (some .boolean) 1 21 D ads shp [.inr (some 96), .inl a1, .inl a2] I A (qI (isF (A 97) a1 a2) I A) := by
  refine k_X9_isFlow l D ads I A a1 a2 _ ⟨fun h => qI_i ?_, fun h => ⟨fun h2 => qI_i ?_, fun h2 => ?_⟩⟩
  · simp [isF, h]
  · simp [isF, h2]
  · obtain ⟨i, h3, rfl⟩ := zP_ne h
    obtain ⟨j, h4, rfl⟩ := zP_ne h2
    have hn : ¬ (zP (nI i) = 0 ∨ zP (nI j) = 0) := fun q => q.elim h h2
    refine ⟨by rw [ix_b]; exact vp_in_nI (by omega) (by decide), fun h5 => qI_i ?_, fun h5 => qI_i ?_⟩
    · simp only [isF, if_neg hn, if_neg (le_nlt h5)]
    · simp only [isF, if_neg hn, if_pos (nle h5)]
theorem bX9_isStraight_0_10 : okB cX9_isStraight RX9 0 [(5, 0, 0, 0, 0), (23, 7, 9, 1, 0), (1, 0, 0, 0, 10), (3, 1, 0, 0, 0), (14, 0, 0, 0, 0), (3, 2, 0, 0, 0), (12, 0, 0, 0, 0)] := And.intro ⟨_, dX9_isStraight_0, rfl⟩ (And.intro ⟨dX9_isStraight_1, fl_X9_7⟩ (And.intro ⟨_, dX9_isStraight_4, by decide⟩ (And.intro ⟨_, dX9_isStraight_6, rfl⟩ (And.intro dX9_isStraight_7 (And.intro ⟨_, dX9_isStraight_8, rfl⟩ (And.intro dX9_isStraight_9 trivial))))))
theorem bX9_isStraight_27_28 : okB cX9_isStraight RX9 27 [(0, 0, 0, 0, 0)] := And.intro ⟨_, dX9_isStraight_27, by decide⟩ trivial
theorem bX9_isStraight_14_17 : okB cX9_isStraight RX9 14 [(5, 0, 0, 0, 0), (3, 1, 0, 0, 0), (3, 2, 0, 0, 0)] := And.intro ⟨_, dX9_isStraight_14, rfl⟩ (And.intro ⟨_, dX9_isStraight_15, rfl⟩ (And.intro ⟨_, dX9_isStraight_16, rfl⟩ trivial))
theorem bX9_isStraight_23_24 : okB cX9_isStraight RX9 23 [(0, 0, 0, 0, 1)] := And.intro ⟨_, dX9_isStraight_23, by decide⟩ trivial
set_option maxHeartbeats 4000000 in
set_option maxRecDepth 100000 in
theorem k_X9_isStraight (l : Launch) (D : va_G) (ads : AD) (I A : HI) (a1 : Int32) (a2 : Int32) (po : Option AV → HI → HI → Prop)
    (hv : (vp_in ((10 * a1) + a2) 100 ∧ (((A 97 ((10 * a1) + a2).toNatClampNeg) ≤ 0 → po (some (.inl 0)) I A) ∧ (¬ (A 97 ((10 * a1) + a2).toNatClampNeg) ≤ 0 → ((vp_in a1 10 ∧ vp_in a2 10) ∧ ((¬ (trnI (A 101) a1 a2) = 0 → po (some (.inl 0)) I A) ∧ ((trnI (A 101) a1 a2) = 0 → po (some (.inl 1)) I A))))))) : Ct l yX9_isStraight cX9_isStraight 3 (some .boolean) 1 22 D ads shp [.inr (some 96), .inl a1, .inl a2] I A po := by
  refine Ct_of (by decide) (Nat.le_of_ble_eq_true rfl) ?_
  intro p e s m args below meth c hC hr
  replace hC : CX p s m args meth c cX9_isStraight 3 RX9 (AdS ads s.heap.size) := hC
  show Gm p l e s m args below meth c D ads 1 22 3 po I A 0 [some (.inr (some 96)), some (.inl a1), some (.inl a2)] []
  refine g_blk hC _ bX9_isStraight_0_10 (pc' := 10) (ls' := [some (.inr (some 96)), some (.inl a1), some (.inl a2)]) (st' := [.inl ((10 * a1) + a2), .inr (some 97)]) (I' := I) rfl rfl ?_
  obtain ⟨hi, hv⟩ := hv
  refine g_iald hC dX9_isStraight_10 (rfl) hi ?_
  clear hi
  obtain ⟨hv1, hv2⟩ := hv
  refine g_ifle hC dX9_isStraight_11 (tgt := 27) (by decide) (fun hc => ?_) (fun hc => ?_)
  · have hv := hv1 hc
    clear hv1 hv2 hc
    refine g_blk hC _ bX9_isStraight_27_28 (pc' := 28) (ls' := [some (.inr (some 96)), some (.inl a1), some (.inl a2)]) (st' := [.inl 0]) (I' := I) rfl rfl ?_
    exact g_reti hC hr (by decide) dX9_isStraight_28 hv
  · have hv := hv2 hc
    clear hv1 hv2 hc
    refine g_blk hC _ bX9_isStraight_14_17 (pc' := 17) (ls' := [some (.inr (some 96)), some (.inl a1), some (.inl a2)]) (st' := [.inl a2, .inl a1, .inr (some 96)]) (I' := I) rfl rfl ?_
    obtain ⟨hp1, hv⟩ := hv
    refine g_callV hC (c_X9_isTurned l D ads I A a1 a2 hp1) dX9_isStraight_17 nm_X9_isTurned rfl rfl wl_X9_93 wi_X9_isTurned ws_X9_isTurned wn_X9 wc_X9_isTurned ⟨by decide, by decide⟩ (as := [.inl a1, .inl a2]) (rest := []) rfl (Nat.le_of_ble_eq_true rfl) ⟨Nat.le_refl _, Nat.le_refl _⟩ (k_qI ?_)
    obtain ⟨hv1, hv2⟩ := hv
    refine g_ifne hC dX9_isStraight_20 (tgt := 27) (by decide) (fun hc => ?_) (fun hc => ?_)
    · have hv := hv1 hc
      clear hv1 hv2 hc
      refine g_blk hC _ bX9_isStraight_27_28 (pc' := 28) (ls' := [some (.inr (some 96)), some (.inl a1), some (.inl a2)]) (st' := [.inl 0]) (I' := I) rfl rfl ?_
      exact g_reti hC hr (by decide) dX9_isStraight_28 hv
    · have hv := hv2 hc
      clear hv1 hv2 hc
      refine g_blk hC _ bX9_isStraight_23_24 (pc' := 24) (ls' := [some (.inr (some 96)), some (.inl a1), some (.inl a2)]) (st' := [.inl 1]) (I' := I) rfl rfl ?_
      refine g_goto hC dX9_isStraight_24 (tgt := 28) (by decide) ?_
      exact g_reti hC hr (by decide) dX9_isStraight_28 hv
set_option maxHeartbeats 4000000 in
set_option maxRecDepth 100000 in
theorem c_X9_isStraight (l : Launch) (D : va_G) (ads : AD) (I A : HI) (a1 : Int32) (a2 : Int32) (hp : vp_in a1 10 ∧ vp_in a2 10) : Ct l yX9_isStraight cX9_isStraight 3 (some .boolean) 1 22 D ads shp [.inr (some 96), .inl a1, .inl a2] I A (qI (isS (A 97) (A 101) a1 a2) I A) := by
  refine k_X9_isStraight l D ads I A a1 a2 _ ⟨(vi_ab hp.1 hp.2).2, fun h => qI_i ?_, fun h => ⟨hp, fun h2 => qI_i ?_, fun h2 => qI_i ?_⟩⟩
  · simp [isS, le_nlt h]
  · simp [isS, h2]
  · simp only [isS, if_pos (And.intro (nle h) h2)]
theorem bX9_idOf_0_6 : okB cX9_idOf RX9 0 [(3, 3, 0, 0, 0), (5, 0, 0, 0, 0), (23, 29, 9, 11, 0), (3, 1, 0, 0, 0)] := And.intro ⟨_, dX9_idOf_0, rfl⟩ (And.intro ⟨_, dX9_idOf_1, rfl⟩ (And.intro ⟨dX9_idOf_2, fl_X9_29⟩ (And.intro ⟨_, dX9_idOf_5, rfl⟩ trivial)))
theorem bX9_idOf_14_20 : okB cX9_idOf RX9 14 [(3, 3, 0, 0, 0), (5, 0, 0, 0, 0), (23, 29, 9, 11, 0), (3, 2, 0, 0, 0)] := And.intro ⟨_, dX9_idOf_14, rfl⟩ (And.intro ⟨_, dX9_idOf_15, rfl⟩ (And.intro ⟨dX9_idOf_16, fl_X9_29⟩ (And.intro ⟨_, dX9_idOf_19, rfl⟩ trivial)))
theorem bX9_idOf_28_37 : okB cX9_idOf RX9 28 [(1, 0, 0, 0, 100), (1, 0, 0, 0, 10), (3, 1, 0, 0, 0), (14, 0, 0, 0, 0), (12, 0, 0, 0, 0), (3, 2, 0, 0, 0), (12, 0, 0, 0, 0)] := And.intro ⟨_, dX9_idOf_28, by decide⟩ (And.intro ⟨_, dX9_idOf_30, by decide⟩ (And.intro ⟨_, dX9_idOf_32, rfl⟩ (And.intro dX9_idOf_33 (And.intro dX9_idOf_34 (And.intro ⟨_, dX9_idOf_35, rfl⟩ (And.intro dX9_idOf_36 trivial))))))
theorem bX9_idOf_24_25 : okB cX9_idOf RX9 24 [(3, 2, 0, 0, 0)] := And.intro ⟨_, dX9_idOf_24, rfl⟩ trivial
theorem bX9_idOf_10_11 : okB cX9_idOf RX9 10 [(3, 1, 0, 0, 0)] := And.intro ⟨_, dX9_idOf_10, rfl⟩ trivial
set_option maxHeartbeats 4000000 in
set_option maxRecDepth 100000 in
theorem k_X9_idOf (l : Launch) (D : va_G) (ads : AD) (I A : HI) (a1 : Int32) (a2 : Int32) (a3 : Int32) (po : Option AV → HI → HI → Prop)
    (hv : (vp_in a1 10 ∧ ((¬ a3 = (A 102 a1.toNatClampNeg) → (vp_in a2 10 ∧ ((¬ a3 = (A 102 a2.toNatClampNeg) → po (some (.inl ((100 + (10 * a1)) + a2))) I A) ∧ (a3 = (A 102 a2.toNatClampNeg) → po (some (.inl a2)) I A)))) ∧ (a3 = (A 102 a1.toNatClampNeg) → po (some (.inl a1)) I A)))) : Ct l yX9_idOf cX9_idOf 4 (some .int) 0 0 D ads shp [.inr (some 96), .inl a1, .inl a2, .inl a3] I A po := by
  refine Ct_of (by decide) (Nat.le_of_ble_eq_true rfl) ?_
  intro p e s m args below meth c hC hr
  replace hC : CX p s m args meth c cX9_idOf 4 RX9 (AdS ads s.heap.size) := hC
  show Gm p l e s m args below meth c D ads 0 0 4 po I A 0 [some (.inr (some 96)), some (.inl a1), some (.inl a2), some (.inl a3)] []
  refine g_blk hC _ bX9_idOf_0_6 (pc' := 6) (ls' := [some (.inr (some 96)), some (.inl a1), some (.inl a2), some (.inl a3)]) (st' := [.inl a1, .inr (some 102), .inl a3]) (I' := I) rfl rfl ?_
  obtain ⟨hi, hv⟩ := hv
  refine g_iald hC dX9_idOf_6 (rfl) hi ?_
  clear hi
  obtain ⟨hv1, hv2⟩ := hv
  refine g_cne hC dX9_idOf_7 (tgt := 14) (by decide) (fun hc => ?_) (fun hc => ?_)
  · have hv := hv1 hc
    clear hv1 hv2 hc
    refine g_blk hC _ bX9_idOf_14_20 (pc' := 20) (ls' := [some (.inr (some 96)), some (.inl a1), some (.inl a2), some (.inl a3)]) (st' := [.inl a2, .inr (some 102), .inl a3]) (I' := I) rfl rfl ?_
    obtain ⟨hi, hv⟩ := hv
    refine g_iald hC dX9_idOf_20 (rfl) hi ?_
    clear hi
    obtain ⟨hv1, hv2⟩ := hv
    refine g_cne hC dX9_idOf_21 (tgt := 28) (by decide) (fun hc => ?_) (fun hc => ?_)
    · have hv := hv1 hc
      clear hv1 hv2 hc
      refine g_blk hC _ bX9_idOf_28_37 (pc' := 37) (ls' := [some (.inr (some 96)), some (.inl a1), some (.inl a2), some (.inl a3)]) (st' := [.inl ((100 + (10 * a1)) + a2)]) (I' := I) rfl rfl ?_
      exact g_reti hC hr rfl dX9_idOf_37 hv
    · have hv := hv2 hc
      clear hv1 hv2 hc
      refine g_blk hC _ bX9_idOf_24_25 (pc' := 25) (ls' := [some (.inr (some 96)), some (.inl a1), some (.inl a2), some (.inl a3)]) (st' := [.inl a2]) (I' := I) rfl rfl ?_
      refine g_goto hC dX9_idOf_25 (tgt := 37) (by decide) ?_
      exact g_reti hC hr rfl dX9_idOf_37 hv
  · have hv := hv2 hc
    clear hv1 hv2 hc
    refine g_blk hC _ bX9_idOf_10_11 (pc' := 11) (ls' := [some (.inr (some 96)), some (.inl a1), some (.inl a2), some (.inl a3)]) (st' := [.inl a1]) (I' := I) rfl rfl ?_
    refine g_goto hC dX9_idOf_11 (tgt := 37) (by decide) ?_
    exact g_reti hC hr rfl dX9_idOf_37 hv
set_option maxHeartbeats 4000000 in
set_option maxRecDepth 100000 in
theorem c_X9_idOf (l : Launch) (D : va_G) (ads : AD) (I A : HI) (a1 : Int32) (a2 : Int32) (a3 : Int32) (hp : vp_in a1 10 ∧ vp_in a2 10) : Ct l yX9_idOf cX9_idOf 4 (some .int) 0 0 D ads shp [.inr (some 96), .inl a1, .inl a2, .inl a3] I A (qI (itmI (A 102) a1 a2 a3) I A) := by
  refine k_X9_idOf l D ads I A a1 a2 a3 _ ⟨hp.1, fun h => ⟨hp.2, fun h2 => qI_i ?_, fun h2 => qI_i ?_⟩, fun h => qI_i ?_⟩
  · simp only [itmI, if_neg h, if_neg h2]
  · simp only [itmI, if_neg h, if_pos h2]
  · simp only [itmI, if_pos h]
theorem bX9_standOf_0_12 : okB cX9_standOf RX9 0 [(5, 0, 0, 0, 0), (23, 53, 9, 21, 0), (2, 0, 0, 0, 600), (5, 0, 0, 0, 0), (23, 35, 9, 15, 0), (3, 1, 0, 0, 0)] := And.intro ⟨_, dX9_standOf_0, rfl⟩ (And.intro ⟨dX9_standOf_1, fl_X9_53⟩ (And.intro ⟨_, dX9_standOf_4, by decide⟩ (And.intro ⟨_, dX9_standOf_7, rfl⟩ (And.intro ⟨dX9_standOf_8, fl_X9_35⟩ (And.intro ⟨_, dX9_standOf_11, rfl⟩ trivial)))))
theorem bX9_standOf_13_20 : okB cX9_standOf RX9 13 [(14, 0, 0, 0, 0), (0, 0, 0, 0, 5), (3, 2, 0, 0, 0), (14, 0, 0, 0, 0), (12, 0, 0, 0, 0), (3, 3, 0, 0, 0), (12, 0, 0, 0, 0)] := And.intro dX9_standOf_13 (And.intro ⟨_, dX9_standOf_14, by decide⟩ (And.intro ⟨_, dX9_standOf_15, rfl⟩ (And.intro dX9_standOf_16 (And.intro dX9_standOf_17 (And.intro ⟨_, dX9_standOf_18, rfl⟩ (And.intro dX9_standOf_19 trivial))))))
set_option maxHeartbeats 4000000 in
set_option maxRecDepth 100000 in
theorem k_X9_standOf (l : Launch) (D : va_G) (ads : AD) (I A : HI) (a1 : Int32) (a2 : Int32) (a3 : Int32) (po : Option AV → HI → HI → Prop)
    (hv : (vp_in a1 10 ∧ (vp_in (((600 * (A 104 a1.toNatClampNeg)) + (5 * a2)) + a3) 3600 ∧ po (some (.inl (A 110 (((600 * (A 104 a1.toNatClampNeg)) + (5 * a2)) + a3).toNatClampNeg))) I A))) : Ct l yX9_standOf cX9_standOf 4 (some .int) 0 0 D ads shp [.inr (some 96), .inl a1, .inl a2, .inl a3] I A po := by
  refine Ct_of (by decide) (Nat.le_of_ble_eq_true rfl) ?_
  intro p e s m args below meth c hC hr
  replace hC : CX p s m args meth c cX9_standOf 4 RX9 (AdS ads s.heap.size) := hC
  show Gm p l e s m args below meth c D ads 0 0 4 po I A 0 [some (.inr (some 96)), some (.inl a1), some (.inl a2), some (.inl a3)] []
  refine g_blk hC _ bX9_standOf_0_12 (pc' := 12) (ls' := [some (.inr (some 96)), some (.inl a1), some (.inl a2), some (.inl a3)]) (st' := [.inl a1, .inr (some 104), .inl 600, .inr (some 110)]) (I' := I) rfl rfl ?_
  obtain ⟨hi, hv⟩ := hv
  refine g_iald hC dX9_standOf_12 (rfl) hi ?_
  clear hi
  refine g_blk hC _ bX9_standOf_13_20 (pc' := 20) (ls' := [some (.inr (some 96)), some (.inl a1), some (.inl a2), some (.inl a3)]) (st' := [.inl (((600 * (A 104 a1.toNatClampNeg)) + (5 * a2)) + a3), .inr (some 110)]) (I' := I) rfl rfl ?_
  obtain ⟨hi, hv⟩ := hv
  refine g_iald hC dX9_standOf_20 (rfl) hi ?_
  clear hi
  exact g_reti hC hr rfl dX9_standOf_21 hv
set_option maxHeartbeats 4000000 in
set_option maxRecDepth 100000 in
theorem c_X9_standOf (l : Launch) (D : va_G) (ads : AD) (I A : HI) (a1 : Int32) (a2 : Int32) (a3 : Int32) (hp : stO0 (A 104) a1 a2 a3) : Ct l yX9_standOf cX9_standOf 4 (some .int) 0 0 D ads shp [.inr (some 96), .inl a1, .inl a2, .inl a3] I A (qI (stO (A 104) (A 110) a1 a2 a3) I A) := by
  exact k_X9_standOf l D ads I A a1 a2 a3 _ ⟨hp.1, hp.2, qI_i rfl⟩
