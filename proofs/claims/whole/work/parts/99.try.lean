theorem v_J0_checkIndex_df160 (l : Launch) (G : Gt) (sz : Nat) (x : Int32) (y : Int32) (hp : ¬ x < 0 ∧ x < y) : (¬ x < 0 ∧ x < y) ∧ (True) := by
  exact ⟨hp, trivial⟩

theorem v_J1_charAt_3b067 (l : Launch) (G : Gt) (sz : Nat) (i_ : Nat) (x : Int32) (hi9 : i_ < 9) (hp : vp_in x (stL.getD i_ 0)) : (¬ x < 0 ∧ x < (nI (stL.getD i_ 0))) ∧ ((True) → ((vp_in x (stL.getD i_ 0)) ∧ ((narrow .char (.int (((((stB.getD i_ []).getD x.toNatClampNeg 0) &&& 255).toUInt32 % 65536).toInt32)) = .int (((((stB.getD i_ []).getD x.toNatClampNeg 0) &&& 255).toUInt32 % 65536).toInt32)) ∧ (((((stB.getD i_ []).getD x.toNatClampNeg 0) &&& 255).toUInt32 % 65536).toInt32 : Int32) = ((stB.getD i_ []).getD x.toNatClampNeg 0 &&& 255)))) := by
  have h2 : ∀ i, i < 9 → ∀ k, k < stL.getD i 0 → (narrow .char (.int (((((stB.getD i []).getD k 0) &&& 255).toUInt32 % 65536).toInt32)) = .int (((((stB.getD i []).getD k 0) &&& 255).toUInt32 % 65536).toInt32)) ∧ (((((stB.getD i []).getD k 0) &&& 255).toUInt32 % 65536).toInt32 : Int32) = ((stB.getD i []).getD k 0 &&& 255) := by decide +kernel
  have hn := vp_nat hp
  have hl := st_l i_ hi9
  refine ⟨⟨?_, ?_⟩, fun _ => ⟨hp, h2 i_ hi9 _ hn.2.2.2⟩⟩
  · rw [i_lt rfl i32_0]; omega
  · rw [i_lt rfl (nI_toInt (by omega))]; exact hn.2.1

theorem v_J0_length_8abf5 (l : Launch) (G : Gt) (sz : Nat) (i_ : Nat) (hi9 : i_ < 9) : (((nI (stL.getD i_ 0)) >>> (0 &&& 31)) : Int32) = nI (stL.getD i_ 0) := by
  have h : ∀ i, i < 9 → (((nI (stL.getD i 0)) >>> ((0 : Int32) &&& 31)) : Int32) = nI (stL.getD i 0) := by decide +kernel
  exact h i_ hi9

theorem v_J0_charAt_5068e (l : Launch) (G : Gt) (sz : Nat) (i_ : Nat) (x : Int32) (hi9 : i_ < 9) (hp : vp_in x (stL.getD i_ 0)) : (vp_in x (stL.getD i_ 0)) ∧ ((narrow .char (.int ((stB.getD i_ []).getD x.toNatClampNeg 0 &&& 255)) = .int ((stB.getD i_ []).getD x.toNatClampNeg 0 &&& 255)) ∧ (((stB.getD i_ []).getD x.toNatClampNeg 0 &&& 255) : Int32) = ((stB.getD i_ []).getD x.toNatClampNeg 0 &&& 255)) := by
  have h2 : ∀ i, i < 9 → ∀ k, k < stL.getD i 0 → (narrow .char (.int ((stB.getD i []).getD k 0 &&& 255)) = .int ((stB.getD i []).getD k 0 &&& 255)) := by decide +kernel
  exact ⟨hp, h2 i_ hi9 _ (vp_nat hp).2.2.2, rfl⟩

theorem v_X5_hasRoomFor (l : Launch) (G : Gt) (e0 e01 : Nat) (sz : Nat) (xb : Nat → Int32) (xl : Int32) (xf : Int32) (xg : Int32) (xa : Int32) (xt : Int32) (xr : Int32) (xn : Int32) (x : Int32) : (400 < (xl + x) → (0 : Int32) = (if 400 < xl + x then 0 else 1)) ∧ (¬ (400 < (xl + x)) → (1 : Int32) = (if 400 < xl + x then 0 else 1)) := by
  exact ⟨fun h => by rw [if_pos h], fun h => by rw [if_neg h]⟩

theorem v_X5_append (l : Launch) (G : Gt) (e0 e01 : Nat) (sz : Nat) (xb : Nat → Int32) (xl : Int32) (xf : Int32) (xg : Int32) (xa : Int32) (xt : Int32) (xr : Int32) (xn : Int32) (x : Int32) (y : Int64) (B : Nat → Int) (L : Nat) (nq : Nat) (hp : CX B L xb xl ∧ x = nI nq ∧ 1 ≤ nq ∧ nq ≤ 8 ∧ L + nq ≤ 400) : ∃ (I5_4 : (Nat → Int32) → Int32 → Int32 → Prop) (μ5_5 : (Nat → Int32) → Int32 → Int32 → Nat), I5_4 xb xl (x - 1) ∧ (∀ (fe01_1 : (Nat → Int32)) (ge01_2 : Int32) (x4_3 : Int32), I5_4 fe01_1 ge01_2 x4_3 → (x4_3 < 0 → CX (fdB B L nq y) (L + nq) fe01_1 ge01_2) ∧ (¬ (x4_3 < 0) → (400 ≤ ge01_2 → CX (fdB B L nq y) (L + nq) fe01_1 ge01_2) ∧ (¬ (400 ≤ ge01_2) → (vp_in ge01_2 400) ∧ (I5_4 (upd fe01_1 ge01_2.toNatClampNeg (vp_nar .byte (((((y).toUInt64 >>> (((8 * x4_3) : Int32).toInt64.toUInt64 &&& Int64.toUInt64 63)).toInt64).toInt32).toInt8.toInt32))) (ge01_2 + 1) (x4_3 + (-1)) ∧ μ5_5 (upd fe01_1 ge01_2.toNatClampNeg (vp_nar .byte (((((y).toUInt64 >>> (((8 * x4_3) : Int32).toInt64.toUInt64 &&& Int64.toUInt64 63)).toInt64).toInt32).toInt8.toInt32))) (ge01_2 + 1) (x4_3 + (-1)) < μ5_5 fe01_1 ge01_2 x4_3)))) := by
  obtain ⟨hX, rfl, hn1, hn8, h400⟩ := hp
  have hL := hX.1
  have hxl := hX.2.1
  have e0 : nI nq - 1 = nI nq - 1 := rfl
  refine ⟨fun f g z => ∃ j, j ≤ nq ∧ z = nI (nq - j) - 1 ∧ g = nI (L + j) ∧ ∀ i, i < L + j → 0 ≤ fdB B L nq y i ∧ fdB B L nq y i ≤ 255 ∧ (f i).toInt = sg (fdB B L nq y i), fun _ g _ => 401 - g.toNatClampNeg, ⟨0, by omega, rfl, hxl, fun i hi => ?_⟩, ?_⟩
  · rw [Nat.add_zero] at hi
    unfold fdB
    rw [if_pos hi]
    exact hX.at hi
  rintro f g z ⟨j, hj, rfl, rfl, hf⟩
  have hz := nm_i (d := nq - j) (by omega)
  have eg : (nI (L + j)).toNatClampNeg = L + j := nI_clamp (by omega)
  have eg1 : nI (L + j) + 1 = nI (L + j + 1) := nI_1 (L + j)
  have eg2 : (nI (L + j + 1)).toNatClampNeg = L + j + 1 := nI_clamp (by omega)
  have hz0 : nI (nq - j) - 1 < 0 ↔ j = nq := by
    rw [i_lt hz i32_0]; omega
  have h4 : 400 ≤ nI (L + j) ↔ 400 ≤ L + j := nI_leI (a := 400) (by omega) (by omega)
  simp only [eg, eg1, eg2, hz0, h4]
  have fin : j = nq → CX (fdB B L nq y) (L + nq) f (nI (L + j)) := fun e => by
    subst e
    exact ⟨h400, rfl, hf⟩
  refine ⟨fin, fun q => ⟨fun q2 => fin (by omega), fun q2 => ⟨vp_in_nI (by omega) (by omega), ⟨j + 1, by omega, ?_, rfl, fun i hi => ?_⟩, by omega⟩⟩⟩
  · rw [← Int32.toInt_inj, i_add hz (show (-1 : Int32).toInt = -1 from rfl) (by omega) (by omega), nm_i (by omega)]
    omega
  · by_cases e : i = L + j
    · subst e
      have ek : fdB B L nq y (L + j) = byZ y (nq - 1 - j) := by
        unfold fdB
        rw [if_neg (by omega), show L + j - L = j by omega]
      have bb := byZ_bd y (nq - 1 - j)
      rw [ek, upd_at]
      refine ⟨bb.1, bb.2, ?_⟩
      rw [nm_s (by omega) (by omega), show nq - j - 1 = nq - 1 - j by omega]
      exact by_cls y (by omega)
    · rw [upd_ne e]
      exact hf i (by omega)

theorem v_X5_skipBlanks (l : Launch) (G : Gt) (e0 e01 : Nat) (sz : Nat) (xb : Nat → Int32) (xl : Int32) (xf : Int32) (xg : Int32) (xa : Int32) (xt : Int32) (xr : Int32) (xn : Int32) (B : Nat → Int) (L : Nat) (aq : Nat) (hp : CX B L xb xl ∧ xa = nI aq ∧ aq ≤ L) : ∃ (I0_2 : Int32 → Prop) (μ0_3 : Int32 → Nat), I0_2 xa ∧ (∀ (ge04_1 : Int32), I0_2 ge04_1 → (xl ≤ ge04_1 → ge04_1 = nI (sk B L aq)) ∧ (¬ (xl ≤ ge04_1) → (vp_in ge04_1 400) ∧ ((¬ (xb ge04_1.toNatClampNeg) = 32 → ge04_1 = nI (sk B L aq)) ∧ ((xb ge04_1.toNatClampNeg) = 32 → I0_2 (ge04_1 + 1) ∧ μ0_3 (ge04_1 + 1) < μ0_3 ge04_1)))) := by
  obtain ⟨hX, rfl, ha⟩ := hp
  have hL := hX.1
  have hxl := hX.2.1
  refine ⟨fun z => ∃ a, z = nI a ∧ a ≤ L ∧ sk B L a = sk B L aq, fun z => 401 - z.toNatClampNeg, ⟨aq, rfl, ha, rfl⟩, ?_⟩
  rintro z ⟨a, rfl, haL, hs⟩
  have ea : (nI a).toNatClampNeg = a := nI_clamp (by omega)
  have ea1 : nI a + 1 = nI (a + 1) := nI_1 a
  have ea2 : (nI (a + 1)).toNatClampNeg = a + 1 := nI_clamp (by omega)
  have hle : nI L ≤ nI a ↔ L ≤ a := nI_leI (by omega) (by omega)
  simp only [ea, ea1, ea2, hxl, hle]
  have stop : ¬ (a < L ∧ isBl B a = true) → nI a = nI (sk B L aq) := fun h => by rw [← hs]; unfold sk; rw [run_end h]
  refine ⟨fun q => stop (fun z => absurd z.1 (by omega)), fun q => ?_⟩
  have hb := hX.is (i := a) (by omega) 32 (by decide) (by decide)
  refine ⟨vp_in_nI (by omega) (by omega), fun h => stop (fun z => h (hb.mpr (of_decide_eq_true z.2))), fun h => ⟨⟨a + 1, rfl, by omega, ?_⟩, by omega⟩⟩
  rw [← hs]
  exact run_go (by omega) (decide_eq_true (hb.mp h))

theorem v_X5_hasMore (l : Launch) (G : Gt) (e0 e01 : Nat) (sz : Nat) (xb : Nat → Int32) (xl : Int32) (xf : Int32) (xg : Int32) (xa : Int32) (xt : Int32) (xr : Int32) (xn : Int32) (B : Nat → Int) (L : Nat) (aq : Nat) (hp : CX B L xb xl ∧ xa = nI aq ∧ aq ≤ L) : ∃ (gB_1 : Nat → Int) (gL_2 : Nat) (gaq_3 : Nat), ((CX gB_1 gL_2 xb xl ∧ xa = nI gaq_3 ∧ gaq_3 ≤ gL_2) ∧ (∀ (xa2_5 : Int32), (xa2_5 = nI (sk gB_1 gL_2 gaq_3)) → ((¬ xg = 0 → (0 : Int32) = (if xg = 0 ∧ sk B L aq < L then 1 else 0) ∧ xa2_5 = nI (sk B L aq)) ∧ (xg = 0 → (xl ≤ xa2_5 → (0 : Int32) = (if xg = 0 ∧ sk B L aq < L then 1 else 0) ∧ xa2_5 = nI (sk B L aq)) ∧ (¬ (xl ≤ xa2_5) → (1 : Int32) = (if xg = 0 ∧ sk B L aq < L then 1 else 0) ∧ xa2_5 = nI (sk B L aq)))))) := by
  obtain ⟨hX, rfl, ha⟩ := hp
  have hL := hX.1
  have hxl := hX.2.1
  have hs := sk_L (B := B) ha
  refine ⟨B, L, aq, ⟨hX, rfl, ha⟩, fun z hz => ?_⟩
  subst hz
  have hle : nI L ≤ nI (sk B L aq) ↔ L ≤ sk B L aq := nI_leI (by omega) (by omega)
  rw [hxl, hle]
  exact ⟨fun h => ⟨by rw [if_neg (fun z => h z.1)], rfl⟩, fun h => ⟨fun h2 => ⟨by rw [if_neg (fun z => by omega)], rfl⟩, fun h2 => ⟨by rw [if_pos ⟨h, by omega⟩], rfl⟩⟩⟩

theorem v_X5_fail (l : Launch) (G : Gt) (e0 e01 : Nat) (sz : Nat) (xb : Nat → Int32) (xl : Int32) (xf : Int32) (xg : Int32) (xa : Int32) (xt : Int32) (xr : Int32) (xn : Int32) (x : Int32) : (¬ xg = 0 → (xg : Int32) = (if xg = 0 then x else xg) ∧ (xf : Int32) = (if xg = 0 then xt else xf)) ∧ (xg = 0 → (x : Int32) = (if xg = 0 then x else xg) ∧ (xt : Int32) = (if xg = 0 then xt else xf)) := by
  exact ⟨fun h => ⟨by rw [if_neg h], by rw [if_neg h]⟩, fun h => ⟨by rw [if_pos h], by rw [if_pos h]⟩⟩

theorem v_X5_readWord (l : Launch) (G : Gt) (e0 e01 : Nat) (sz : Nat) (xb : Nat → Int32) (xl : Int32) (xf : Int32) (xg : Int32) (xa : Int32) (xt : Int32) (xr : Int32) (xn : Int32) (B : Nat → Int) (L : Nat) (aq : Nat) (hp : CX B L xb xl ∧ xa = nI aq ∧ aq ≤ L) : ∃ (gB_1 : Nat → Int) (gL_2 : Nat) (gaq_3 : Nat), ((CX gB_1 gL_2 xb xl ∧ xa = nI gaq_3 ∧ gaq_3 ≤ gL_2) ∧ (∀ (xa2_5 : Int32), (xa2_5 = nI (sk gB_1 gL_2 gaq_3)) → (∃ (I12_7 : Int32 → Prop) (μ12_8 : Int32 → Nat), I12_7 xa2_5 ∧ (∀ (ge04_6 : Int32), I12_7 ge04_6 → (xl ≤ ge04_6 → xa2_5 = nI (sk B L aq) ∧ ge04_6 = nI (wE B L (sk B L aq))) ∧ (¬ (xl ≤ ge04_6) → (vp_in ge04_6 400) ∧ (((xb ge04_6.toNatClampNeg) < 97 → xa2_5 = nI (sk B L aq) ∧ ge04_6 = nI (wE B L (sk B L aq))) ∧ (¬ ((xb ge04_6.toNatClampNeg) < 97) → (vp_in ge04_6 400) ∧ ((122 < (xb ge04_6.toNatClampNeg) → xa2_5 = nI (sk B L aq) ∧ ge04_6 = nI (wE B L (sk B L aq))) ∧ (¬ (122 < (xb ge04_6.toNatClampNeg)) → I12_7 (ge04_6 + 1) ∧ μ12_8 (ge04_6 + 1) < μ12_8 ge04_6))))))))) := by
  obtain ⟨hX, rfl, ha⟩ := hp
  have hL := hX.1
  have hxl := hX.2.1
  have hs := sk_L (B := B) ha
  refine ⟨B, L, aq, ⟨hX, rfl, ha⟩, fun z hz => ?_⟩
  subst hz
  refine ⟨fun z => ∃ a, z = nI a ∧ a ≤ L ∧ wE B L a = wE B L (sk B L aq), fun z => 401 - z.toNatClampNeg, ⟨sk B L aq, rfl, hs, rfl⟩, ?_⟩
  rintro z ⟨a, rfl, haL, hw⟩
  have ea : (nI a).toNatClampNeg = a := nI_clamp (by omega)
  have ea1 : nI a + 1 = nI (a + 1) := nI_1 a
  have ea2 : (nI (a + 1)).toNatClampNeg = a + 1 := nI_clamp (by omega)
  have hle : nI L ≤ nI a ↔ L ≤ a := nI_leI (by omega) (by omega)
  simp only [ea, ea1, ea2, hxl, hle]
  have stop : ¬ (a < L ∧ isLe B a = true) → True ∧ nI a = nI (wE B L (sk B L aq)) := fun h => ⟨trivial, by rw [← hw]; unfold wE; rw [run_end h]⟩
  refine ⟨fun q => stop (fun z => absurd z.1 (by omega)), fun q => ?_⟩
  have hb := hX.rg (i := a) (by omega) 97 122 (by decide) (by decide)
  have v4 : vp_in (nI a) 400 := vp_in_nI (by omega) (by omega)
  refine ⟨v4, fun h => stop (fun z => (hb.mpr (of_decide_eq_true z.2)).1 h), fun h => ⟨v4, fun h2 => stop (fun z => (hb.mpr (of_decide_eq_true z.2)).2 h2), fun h2 => ⟨⟨a + 1, rfl, by omega, ?_⟩, by omega⟩⟩⟩
  rw [← hw]
  exact run_go (by omega) (decide_eq_true (hb.mp ⟨h, h2⟩))

theorem v_X5_wordIs (l : Launch) (G : Gt) (e0 e01 : Nat) (sz : Nat) (xb : Nat → Int32) (xl : Int32) (xf : Int32) (xg : Int32) (xa : Int32) (xt : Int32) (xr : Int32) (xn : Int32) (i_ : Nat) (B : Nat → Int) (L : Nat) (wq : Nat) (eq_ : Nat) (hi9 : i_ < 9) (hp : CX B L xb xl ∧ xt = nI wq ∧ xa = nI eq_ ∧ wq ≤ eq_ ∧ eq_ ≤ L) : ((xa - xt) = (nI (stL.getD i_ 0)) → ∃ (I20_4 : Int32 → Prop) (μ20_5 : Int32 → Nat), I20_4 0 ∧ (∀ (x2_3 : Int32), I20_4 x2_3 → ((nI (stL.getD i_ 0)) ≤ x2_3 → (1 : Int32) = (if wIs B wq eq_ i_ = true then 1 else 0)) ∧ (¬ ((nI (stL.getD i_ 0)) ≤ x2_3) → (vp_in (xt + x2_3) 400) ∧ ((vp_in x2_3 (stL.getD i_ 0)) ∧ (((xb (xt + x2_3).toNatClampNeg) = ((stB.getD i_ []).getD x2_3.toNatClampNeg 0 &&& 255) → I20_4 (x2_3 + 1) ∧ μ20_5 (x2_3 + 1) < μ20_5 x2_3) ∧ (¬ ((xb (xt + x2_3).toNatClampNeg) = ((stB.getD i_ []).getD x2_3.toNatClampNeg 0 &&& 255)) → (0 : Int32) = (if wIs B wq eq_ i_ = true then 1 else 0))))))) ∧ (¬ ((xa - xt) = (nI (stL.getD i_ 0))) → (0 : Int32) = (if wIs B wq eq_ i_ = true then 1 else 0)) := by
  obtain ⟨hX, rfl, rfl, hwe, heL⟩ := hp
  have hL := hX.1
  have hxl := hX.2.1
  have hl := st_l i_ hi9
  have ed : nI eq_ - nI wq = nI (eq_ - wq) := nI_sub hwe (by omega)
  have he : nI (eq_ - wq) = nI (stL.getD i_ 0) ↔ eq_ - wq = stL.getD i_ 0 := nI_eqI (by omega) (by omega)
  rw [ed, he]
  refine ⟨fun h => ?_, fun h => ?_⟩
  · refine ⟨fun z => ∃ k, z = nI k ∧ k ≤ stL.getD i_ 0 ∧ weqF B wq i_ k = true, fun z => 9 - z.toNatClampNeg, ⟨0, rfl, by omega, rfl⟩, ?_⟩
    rintro z ⟨k, rfl, hk, hw⟩
    have ek : (nI k).toNatClampNeg = k := nI_clamp (by omega)
    have ek1 : nI k + 1 = nI (k + 1) := nI_1 k
    have ek2 : (nI (k + 1)).toNatClampNeg = k + 1 := nI_clamp (by omega)
    have ew : nI wq + nI k = nI (wq + k) := nI_add wq k
    have cw : (nI (wq + k)).toNatClampNeg = wq + k := nI_clamp (by omega)
    have hle : nI (stL.getD i_ 0) ≤ nI k ↔ stL.getD i_ 0 ≤ k := nI_leI (by omega) (by omega)
    simp only [ek, ek1, ek2, ew, cw, hle]
    refine ⟨fun q => ?_, fun q => ?_⟩
    · have e : k = stL.getD i_ 0 := by omega
      rw [if_pos]
      unfold wIs
      rw [decide_eq_true h, ← e, hw]
      rfl
    · have hc := st_c i_ hi9 k (by omega)
      have hb := hX.is (i := wq + k) (by omega) ((stB.getD i_ []).getD k 0) hc.2.1 hc.2.2
      rw [hc.1, hb]
      refine ⟨vp_in_nI (by omega) (by omega), vp_in_nI (by omega) (by omega), fun g => ⟨⟨k + 1, rfl, by omega, ?_⟩, by omega⟩, fun g => ?_⟩
      · rw [weqF, hw, decide_eq_true g]; rfl
      · rw [if_neg]
        unfold wIs
        rw [weqF_no g _ (by omega), Bool.and_false]
        decide
  · rw [if_neg]
    unfold wIs
    rw [decide_eq_false h, Bool.false_and]
    decide

theorem v_X5_readNumber (l : Launch) (G : Gt) (e0 e01 : Nat) (sz : Nat) (xb : Nat → Int32) (xl : Int32) (xf : Int32) (xg : Int32) (xa : Int32) (xt : Int32) (xr : Int32) (xn : Int32) (x : Int32) (y : Int32) (B : Nat → Int) (L : Nat) (st : Flt ⊕ Nat) (hp : CX B L xb xl ∧ CSs L st xg xf xa) : (xg = 0 → ∃ (gB_2 : Nat → Int) (gL_3 : Nat) (gaq_4 : Nat), ((CX gB_2 gL_3 xb xl ∧ xa = nI gaq_4 ∧ gaq_4 ≤ gL_3) ∧ (∀ (xa2_6 : Int32), (xa2_6 = nI (sk gB_2 gL_3 gaq_4)) → (∃ (I23_9 : Int32 → Int32 → Prop) (μ23_10 : Int32 → Int32 → Nat), I23_9 xa2_6 0 ∧ (∀ (ge04_7 : Int32) (x3_8 : Int32), I23_9 ge04_7 x3_8 → (xl ≤ ge04_7 → (¬ ge04_7 = xa2_6 → (4 < (ge04_7 - xa2_6) → CSn L (bnd st (nuR B L x.toInt y.toInt)) x3_8 (if xg = 0 then 2 else xg) (if xg = 0 then xa2_6 else xf) ge04_7 xa2_6) ∧ (¬ (4 < (ge04_7 - xa2_6)) → (¬ x3_8 < x ∧ ¬ y < x3_8 → CSn L (bnd st (nuR B L x.toInt y.toInt)) x3_8 xg xf ge04_7 xa2_6) ∧ (¬ (¬ x3_8 < x ∧ ¬ y < x3_8) → CSn L (bnd st (nuR B L x.toInt y.toInt)) x3_8 (if xg = 0 then 2 else xg) (if xg = 0 then xa2_6 else xf) ge04_7 xa2_6))) ∧ (ge04_7 = xa2_6 → CSn L (bnd st (nuR B L x.toInt y.toInt)) x3_8 (if xg = 0 then 1 else xg) (if xg = 0 then xa2_6 else xf) ge04_7 xa2_6)) ∧ (¬ (xl ≤ ge04_7) → (vp_in ge04_7 400) ∧ (((xb ge04_7.toNatClampNeg) < 48 → (¬ ge04_7 = xa2_6 → (4 < (ge04_7 - xa2_6) → CSn L (bnd st (nuR B L x.toInt y.toInt)) x3_8 (if xg = 0 then 2 else xg) (if xg = 0 then xa2_6 else xf) ge04_7 xa2_6) ∧ (¬ (4 < (ge04_7 - xa2_6)) → (¬ x3_8 < x ∧ ¬ y < x3_8 → CSn L (bnd st (nuR B L x.toInt y.toInt)) x3_8 xg xf ge04_7 xa2_6) ∧ (¬ (¬ x3_8 < x ∧ ¬ y < x3_8) → CSn L (bnd st (nuR B L x.toInt y.toInt)) x3_8 (if xg = 0 then 2 else xg) (if xg = 0 then xa2_6 else xf) ge04_7 xa2_6))) ∧ (ge04_7 = xa2_6 → CSn L (bnd st (nuR B L x.toInt y.toInt)) x3_8 (if xg = 0 then 1 else xg) (if xg = 0 then xa2_6 else xf) ge04_7 xa2_6)) ∧ (¬ ((xb ge04_7.toNatClampNeg) < 48) → (vp_in ge04_7 400) ∧ ((57 < (xb ge04_7.toNatClampNeg) → (¬ ge04_7 = xa2_6 → (4 < (ge04_7 - xa2_6) → CSn L (bnd st (nuR B L x.toInt y.toInt)) x3_8 (if xg = 0 then 2 else xg) (if xg = 0 then xa2_6 else xf) ge04_7 xa2_6) ∧ (¬ (4 < (ge04_7 - xa2_6)) → (¬ x3_8 < x ∧ ¬ y < x3_8 → CSn L (bnd st (nuR B L x.toInt y.toInt)) x3_8 xg xf ge04_7 xa2_6) ∧ (¬ (¬ x3_8 < x ∧ ¬ y < x3_8) → CSn L (bnd st (nuR B L x.toInt y.toInt)) x3_8 (if xg = 0 then 2 else xg) (if xg = 0 then xa2_6 else xf) ge04_7 xa2_6))) ∧ (ge04_7 = xa2_6 → CSn L (bnd st (nuR B L x.toInt y.toInt)) x3_8 (if xg = 0 then 1 else xg) (if xg = 0 then xa2_6 else xf) ge04_7 xa2_6)) ∧ (¬ (57 < (xb ge04_7.toNatClampNeg)) → (vp_in ge04_7 400) ∧ (I23_9 (ge04_7 + 1) (((10 * x3_8) + (xb ge04_7.toNatClampNeg)) - 48) ∧ μ23_10 (ge04_7 + 1) (((10 * x3_8) + (xb ge04_7.toNatClampNeg)) - 48) < μ23_10 ge04_7 x3_8))))))))))) ∧ (¬ (xg = 0) → CSn L (bnd st (nuR B L x.toInt y.toInt)) x xg xf xa xt) := by
  obtain ⟨hX, hS⟩ := hp
  have hL := hX.1
  have hxl := hX.2.1
  cases st with
  | inl f =>
    have h : CSf L f xg xf xa := hS
    exact ⟨fun q => absurd q h.ne, fun _ => h⟩
  | inr aq =>
    obtain ⟨ha, rfl, rfl, rfl⟩ := hS
    have hs := sk_L (B := B) ha
    refine ⟨fun _ => ⟨B, L, aq, ⟨hX, rfl, ha⟩, fun z hz => ?_⟩, fun q => absurd rfl q⟩
    subst hz
    simp only [if_true]
    refine ⟨fun z v => ∃ e, z = nI e ∧ e ≤ L ∧ sk B L aq ≤ e ∧ dE B L e = dE B L (sk B L aq) ∧ (e - sk B L aq ≤ 4 → v.toInt = vaZ B (sk B L aq) (e - sk B L aq)) ∧ ∀ i, sk B L aq ≤ i → i < e → isDi B i = true, fun z _ => 401 - z.toNatClampNeg, ⟨sk B L aq, rfl, hs, Nat.le_refl _, rfl, fun _ => by rw [Nat.sub_self]; rfl, fun i h1 h2 => absurd h2 (by omega)⟩, ?_⟩
    rintro z v ⟨e, rfl, heL, hte, hd, hv, hall⟩
    have ea : (nI e).toNatClampNeg = e := nI_clamp (by omega)
    have ea1 : nI e + 1 = nI (e + 1) := nI_1 e
    have ea2 : (nI (e + 1)).toNatClampNeg = e + 1 := nI_clamp (by omega)
    have hle : nI L ≤ nI e ↔ L ≤ e := nI_leI (by omega) (by omega)
    simp only [ea, ea1, ea2, hxl, hle]
    have v4 : e < 400 → vp_in (nI e) 400 := fun h => vp_in_nI (by omega) (by omega)
    refine ⟨fun q => ?_, fun q => ⟨v4 (by omega), fun h1 => ?_, fun h1 => ⟨v4 (by omega), fun h2 => ?_, fun h2 => ⟨v4 (by omega), ?_, by omega⟩⟩⟩⟩
    · have hst : ¬ (e < L ∧ isDi B e = true) := fun z => absurd z.1 (by omega)
      have hE : dE B L (sk B L aq) = e := by rw [← hd]; unfold dE; rw [run_end hst]
      have e1 : nI e = nI (sk B L aq) ↔ e = sk B L aq := nI_eqI (by omega) (by omega)
      have e2 : (4 : Int32) < nI e - nI (sk B L aq) ↔ 4 < e - sk B L aq := by rw [nI_sub hte (by omega)]; exact nI_ltI (a := 4) (by omega) (by omega)
      rw [e1, e2]
      refine ⟨fun n1 => ⟨fun n2 => ?_, fun n2 => ?_⟩, fun n1 => ?_⟩
      · show CSn L (nuR B L x.toInt y.toInt aq) _ _ _ _ _
        rw [nuR, hE, if_neg n1, if_pos (Or.inl n2)]
        exact CSf.mk (f := 2) (by decide) (by decide) heL
      · have ev := hv (by omega)
        have hw_ : (¬ v < x ∧ ¬ y < v) ↔ (x.toInt ≤ vaZ B (sk B L aq) (e - sk B L aq) ∧ vaZ B (sk B L aq) (e - sk B L aq) ≤ y.toInt) := by
          rw [wi_iff (x := v) (y := x) (z := y) rfl rfl, ev]
        rw [hw_]
        refine ⟨fun n3 => ?_, fun n3 => ?_⟩
        · show CSn L (nuR B L x.toInt y.toInt aq) _ _ _ _ _
          rw [nuR, hE, if_neg n1, if_neg (fun z => z.elim n2 (fun z => z n3))]
          exact ⟨⟨heL, rfl, rfl, rfl⟩, rfl, ev⟩
        · show CSn L (nuR B L x.toInt y.toInt aq) _ _ _ _ _
          rw [nuR, hE, if_neg n1, if_pos (Or.inr n3)]
          exact CSf.mk (f := 2) (by decide) (by decide) heL
      · show CSn L (nuR B L x.toInt y.toInt aq) _ _ _ _ _
        rw [nuR, hE, if_pos n1]
        exact CSf.mk (f := 1) (by decide) (by decide) heL
    · have hb := hX.rg (i := e) (by omega) 48 57 (by decide) (by decide)
      have hst : ¬ (e < L ∧ isDi B e = true) := fun z => (hb.mpr (of_decide_eq_true z.2)).1 h1
      have hE : dE B L (sk B L aq) = e := by rw [← hd]; unfold dE; rw [run_end hst]
      have e1 : nI e = nI (sk B L aq) ↔ e = sk B L aq := nI_eqI (by omega) (by omega)
      have e2 : (4 : Int32) < nI e - nI (sk B L aq) ↔ 4 < e - sk B L aq := by rw [nI_sub hte (by omega)]; exact nI_ltI (a := 4) (by omega) (by omega)
      rw [e1, e2]
      refine ⟨fun n1 => ⟨fun n2 => ?_, fun n2 => ?_⟩, fun n1 => ?_⟩
      · show CSn L (nuR B L x.toInt y.toInt aq) _ _ _ _ _
        rw [nuR, hE, if_neg n1, if_pos (Or.inl n2)]
        exact CSf.mk (f := 2) (by decide) (by decide) heL
      · have ev := hv (by omega)
        have hw_ : (¬ v < x ∧ ¬ y < v) ↔ (x.toInt ≤ vaZ B (sk B L aq) (e - sk B L aq) ∧ vaZ B (sk B L aq) (e - sk B L aq) ≤ y.toInt) := by
          rw [wi_iff (x := v) (y := x) (z := y) rfl rfl, ev]
        rw [hw_]
        refine ⟨fun n3 => ?_, fun n3 => ?_⟩
        · show CSn L (nuR B L x.toInt y.toInt aq) _ _ _ _ _
          rw [nuR, hE, if_neg n1, if_neg (fun z => z.elim n2 (fun z => z n3))]
          exact ⟨⟨heL, rfl, rfl, rfl⟩, rfl, ev⟩
        · show CSn L (nuR B L x.toInt y.toInt aq) _ _ _ _ _
          rw [nuR, hE, if_neg n1, if_pos (Or.inr n3)]
          exact CSf.mk (f := 2) (by decide) (by decide) heL
      · show CSn L (nuR B L x.toInt y.toInt aq) _ _ _ _ _
        rw [nuR, hE, if_pos n1]
        exact CSf.mk (f := 1) (by decide) (by decide) heL
    · have hb := hX.rg (i := e) (by omega) 48 57 (by decide) (by decide)
      have hst : ¬ (e < L ∧ isDi B e = true) := fun z => (hb.mpr (of_decide_eq_true z.2)).2 h2
      have hE : dE B L (sk B L aq) = e := by rw [← hd]; unfold dE; rw [run_end hst]
      have e1 : nI e = nI (sk B L aq) ↔ e = sk B L aq := nI_eqI (by omega) (by omega)
      have e2 : (4 : Int32) < nI e - nI (sk B L aq) ↔ 4 < e - sk B L aq := by rw [nI_sub hte (by omega)]; exact nI_ltI (a := 4) (by omega) (by omega)
      rw [e1, e2]
      refine ⟨fun n1 => ⟨fun n2 => ?_, fun n2 => ?_⟩, fun n1 => ?_⟩
      · show CSn L (nuR B L x.toInt y.toInt aq) _ _ _ _ _
        rw [nuR, hE, if_neg n1, if_pos (Or.inl n2)]
        exact CSf.mk (f := 2) (by decide) (by decide) heL
      · have ev := hv (by omega)
        have hw_ : (¬ v < x ∧ ¬ y < v) ↔ (x.toInt ≤ vaZ B (sk B L aq) (e - sk B L aq) ∧ vaZ B (sk B L aq) (e - sk B L aq) ≤ y.toInt) := by
          rw [wi_iff (x := v) (y := x) (z := y) rfl rfl, ev]
        rw [hw_]
        refine ⟨fun n3 => ?_, fun n3 => ?_⟩
        · show CSn L (nuR B L x.toInt y.toInt aq) _ _ _ _ _
          rw [nuR, hE, if_neg n1, if_neg (fun z => z.elim n2 (fun z => z n3))]
          exact ⟨⟨heL, rfl, rfl, rfl⟩, rfl, ev⟩
        · show CSn L (nuR B L x.toInt y.toInt aq) _ _ _ _ _
          rw [nuR, hE, if_neg n1, if_pos (Or.inr n3)]
          exact CSf.mk (f := 2) (by decide) (by decide) heL
      · show CSn L (nuR B L x.toInt y.toInt aq) _ _ _ _ _
        rw [nuR, hE, if_pos n1]
        exact CSf.mk (f := 1) (by decide) (by decide) heL
    · have hb := (hX.rg (i := e) (by omega) 48 57 (by decide) (by decide)).mp ⟨h1, h2⟩
      have hdi : isDi B e = true := decide_eq_true hb
      have hall2 : ∀ i, sk B L aq ≤ i → i < e + 1 → isDi B i = true := fun i g1 g2 => by
        by_cases u : i = e
        · rw [u]; exact hdi
        · exact hall i g1 (by omega)
      refine ⟨e + 1, rfl, by omega, by omega, ?_, fun h4 => ?_, hall2⟩
      · rw [← hd]
        exact run_go (by omega) hdi
      · have ev := hv (by omega)
        have bx := hX.at (i := e) (by omega)
        have bv := vaZ_4 (B := B) (t := sk B L aq) (k := e - sk B L aq) (by omega) (fun i hi => hall _ (by omega) (by omega))
        have es : sg (B e) = B e := by unfold sg; rw [if_pos]; have := hb.2; exact Int.lt_of_le_of_lt this (by decide)
        have hb1 : (48 : Int32).toInt ≤ B e := hb.1
        have hb2 : B e ≤ (57 : Int32).toInt := hb.2
        have c48 : (48 : Int32).toInt = 48 := rfl
        have c57 : (57 : Int32).toInt = 57 := rfl
        rw [show e + 1 - sk B L aq = e - sk B L aq + 1 by omega, vaZ, show sk B L aq + (e - sk B L aq) = e by omega]
        rw [i_sub (i_add (i_mul (show (10 : Int32).toInt = 10 from rfl) ev (by omega) (by omega)) (bx.2.2.trans es) (by omega) (by omega)) c48 (by omega) (by omega)]
        omega

theorem v_X5_readEnd (l : Launch) (G : Gt) (e0 e01 : Nat) (sz : Nat) (xb : Nat → Int32) (xl : Int32) (xf : Int32) (xg : Int32) (xa : Int32) (xt : Int32) (xr : Int32) (xn : Int32) (B : Nat → Int) (L : Nat) (st : Flt ⊕ Nat) (hp : CX B L xb xl ∧ CSs L st xg xf xa) : (xg = 0 → ∃ (gB_2 : Nat → Int) (gL_3 : Nat) (gaq_4 : Nat), ((CX gB_2 gL_3 xb xl ∧ xa = nI gaq_4 ∧ gaq_4 ≤ gL_3) ∧ (∀ (xa2_6 : Int32), (xa2_6 = nI (sk gB_2 gL_3 gaq_4)) → ((xl ≤ xa2_6 → CSs L (bnd st (smR B L)) (if xg = 0 then 1 else xg) (if xg = 0 then xa2_6 else xf) xa2_6) ∧ (¬ (xl ≤ xa2_6) → (vp_in xa2_6 400) ∧ ((¬ (xb xa2_6.toNatClampNeg) = 59 → CSs L (bnd st (smR B L)) (if xg = 0 then 1 else xg) (if xg = 0 then xa2_6 else xf) xa2_6) ∧ ((xb xa2_6.toNatClampNeg) = 59 → CSs L (bnd st (smR B L)) xg xf (xa2_6 + 1)))))))) ∧ (¬ (xg = 0) → CSs L (bnd st (smR B L)) xg xf xa) := by
  obtain ⟨hX, hS⟩ := hp
  have hL := hX.1
  have hxl := hX.2.1
  cases st with
  | inl f =>
    have h : CSf L f xg xf xa := hS
    exact ⟨fun q => absurd q h.ne, fun _ => h⟩
  | inr aq =>
    obtain ⟨ha, rfl, rfl, rfl⟩ := hS
    have hs := sk_L (B := B) ha
    refine ⟨fun _ => ⟨B, L, aq, ⟨hX, rfl, ha⟩, fun z hz => ?_⟩, fun q => absurd rfl q⟩
    subst hz
    simp only [if_true]
    have ea : (nI (sk B L aq)).toNatClampNeg = sk B L aq := nI_clamp (by omega)
    have hle : nI L ≤ nI (sk B L aq) ↔ L ≤ sk B L aq := nI_leI (by omega) (by omega)
    rw [ea, hxl, hle]
    have bad : ¬ (sk B L aq < L ∧ B (sk B L aq) = 59) → CSs L (bnd (.inr aq) (smR B L)) 1 (nI (sk B L aq)) (nI (sk B L aq)) := fun h => by
      show CSs L (smR B L aq) _ _ _
      rw [smR, if_neg h]
      exact CSf.mk (f := 1) (by decide) (by decide) hs
    refine ⟨fun q => bad (fun z => absurd z.1 (by omega)), fun q => ?_⟩
    have hb := hX.is (i := sk B L aq) (by omega) 59 (by decide) (by decide)
    refine ⟨vp_in_nI (by omega) (by omega), fun h => bad (fun z => h (hb.mpr z.2)), fun h => ?_⟩
    show CSs L (smR B L aq) _ _ _
    rw [smR, if_pos ⟨by omega, hb.mp h⟩]
    exact ⟨by omega, rfl, rfl, nI_1 _⟩

theorem v_X5_readKind (l : Launch) (G : Gt) (e0 e01 : Nat) (sz : Nat) (xb : Nat → Int32) (xl : Int32) (xf : Int32) (xg : Int32) (xa : Int32) (xt : Int32) (xr : Int32) (xn : Int32) (B : Nat → Int) (L : Nat) (aq : Nat) (hp : CX B L xb xl ∧ CSo L aq xg xf xa) : ∃ (gB_1 : Nat → Int) (gL_2 : Nat) (gaq_3 : Nat), ((CX gB_1 gL_2 xb xl ∧ xa = nI gaq_3 ∧ gaq_3 ≤ gL_2) ∧ (∀ (xa2_5 : Int32) (xt2_6 : Int32), (xt2_6 = nI (sk gB_1 gL_2 gaq_3) ∧ xa2_5 = nI (wE gB_1 gL_2 (sk gB_1 gL_2 gaq_3))) → (∃ (gB_7 : Nat → Int) (gL_8 : Nat) (gwq_9 : Nat) (geq__10 : Nat), ((CX gB_7 gL_8 xb xl ∧ xt2_6 = nI gwq_9 ∧ xa2_5 = nI geq__10 ∧ gwq_9 ≤ geq__10 ∧ geq__10 ≤ gL_8) ∧ (∀ (r_11 : Int32), (r_11 = (if wIs gB_7 gwq_9 geq__10 4 = true then 1 else 0)) → ((r_11 = 0 → ∃ (gB_13 : Nat → Int) (gL_14 : Nat) (gwq_15 : Nat) (geq__16 : Nat), ((CX gB_13 gL_14 xb xl ∧ xt2_6 = nI gwq_15 ∧ xa2_5 = nI geq__16 ∧ gwq_15 ≤ geq__16 ∧ geq__16 ≤ gL_14) ∧ (∀ (r_17 : Int32), (r_17 = (if wIs gB_13 gwq_15 geq__16 5 = true then 1 else 0)) → ((r_17 = 0 → ∃ (gB_19 : Nat → Int) (gL_20 : Nat) (gwq_21 : Nat) (geq__22 : Nat), ((CX gB_19 gL_20 xb xl ∧ xt2_6 = nI gwq_21 ∧ xa2_5 = nI geq__22 ∧ gwq_21 ≤ geq__22 ∧ geq__22 ≤ gL_20) ∧ (∀ (r_23 : Int32), (r_23 = (if wIs gB_19 gwq_21 geq__22 6 = true then 1 else 0)) → ((r_23 = 0 → ∃ (gB_25 : Nat → Int) (gL_26 : Nat) (gwq_27 : Nat) (geq__28 : Nat), ((CX gB_25 gL_26 xb xl ∧ xt2_6 = nI gwq_27 ∧ xa2_5 = nI geq__28 ∧ gwq_27 ≤ geq__28 ∧ geq__28 ≤ gL_26) ∧ (∀ (r_29 : Int32), (r_29 = (if wIs gB_25 gwq_27 geq__28 7 = true then 1 else 0)) → ((r_29 = 0 → ∃ (gB_31 : Nat → Int) (gL_32 : Nat) (gwq_33 : Nat) (geq__34 : Nat), ((CX gB_31 gL_32 xb xl ∧ xt2_6 = nI gwq_33 ∧ xa2_5 = nI geq__34 ∧ gwq_33 ≤ geq__34 ∧ geq__34 ≤ gL_32) ∧ (∀ (r_35 : Int32), (r_35 = (if wIs gB_31 gwq_33 geq__34 8 = true then 1 else 0)) → ((r_35 = 0 → CSk L (kiR B L aq) (0 : Int32) (if xg = 0 then 1 else xg) (if xg = 0 then xt2_6 else xf) xa2_5) ∧ (¬ (r_35 = 0) → CSk L (kiR B L aq) (4 : Int32) xg xf xa2_5))))) ∧ (¬ (r_29 = 0) → CSk L (kiR B L aq) (3 : Int32) xg xf xa2_5))))) ∧ (¬ (r_23 = 0) → CSk L (kiR B L aq) (2 : Int32) xg xf xa2_5))))) ∧ (¬ (r_17 = 0) → CSk L (kiR B L aq) (1 : Int32) xg xf xa2_5))))) ∧ (¬ (r_11 = 0) → CSk L (kiR B L aq) (0 : Int32) xg xf xa2_5))))))) := by
  obtain ⟨hX, ha, rfl, rfl, rfl⟩ := hp
  have hL := hX.1
  have hxl := hX.2.1
  have hs := sk_L (B := B) ha
  have hw := wE_L (B := B) hs
  refine ⟨B, L, aq, ⟨hX, rfl, ha⟩, fun e w h => ?_⟩
  obtain ⟨rfl, rfl⟩ := h
  have ok : ∀ v : Int32, 0 ≤ v.toInt → kdW B (sk B L aq) (wE B L (sk B L aq)) = v.toInt → CSk L (kiR B L aq) v 0 (-1) (nI (wE B L (sk B L aq))) := fun v h0 hk => by
    rw [kiR, hk, if_neg (by omega)]
    exact ⟨⟨hw, rfl, rfl, rfl⟩, rfl⟩
  refine ⟨B, L, sk B L aq, wE B L (sk B L aq), ⟨hX, rfl, rfl, wE_le, hw⟩, fun r hr => ?_⟩
  subst hr
  rw [tv_eq, Classical.not_not]
  refine ⟨fun h4 => ?_, fun h4 => ok 0 (by decide) (by unfold kdW; rw [if_pos h4]; rfl)⟩
  refine ⟨B, L, sk B L aq, wE B L (sk B L aq), ⟨hX, rfl, rfl, wE_le, hw⟩, fun r hr => ?_⟩
  subst hr
  rw [tv_eq, Classical.not_not]
  refine ⟨fun h5 => ?_, fun h5 => ok 1 (by decide) (by unfold kdW; rw [if_neg h4, if_pos h5]; rfl)⟩
  refine ⟨B, L, sk B L aq, wE B L (sk B L aq), ⟨hX, rfl, rfl, wE_le, hw⟩, fun r hr => ?_⟩
  subst hr
  rw [tv_eq, Classical.not_not]
  refine ⟨fun h6 => ?_, fun h6 => ok 2 (by decide) (by unfold kdW; rw [if_neg h4, if_neg h5, if_pos h6]; rfl)⟩
  refine ⟨B, L, sk B L aq, wE B L (sk B L aq), ⟨hX, rfl, rfl, wE_le, hw⟩, fun r hr => ?_⟩
  subst hr
  rw [tv_eq, Classical.not_not]
  refine ⟨fun h7 => ?_, fun h7 => ok 3 (by decide) (by unfold kdW; rw [if_neg h4, if_neg h5, if_neg h6, if_pos h7]; rfl)⟩
  refine ⟨B, L, sk B L aq, wE B L (sk B L aq), ⟨hX, rfl, rfl, wE_le, hw⟩, fun r hr => ?_⟩
  subst hr
  rw [tv_eq, Classical.not_not]
  refine ⟨fun h8 => ?_, fun h8 => ok 4 (by decide) (by unfold kdW; rw [if_neg h4, if_neg h5, if_neg h6, if_neg h7, if_pos h8]; rfl)⟩
  simp only [if_true]
  rw [kiR, if_pos (by unfold kdW; rw [if_neg h4, if_neg h5, if_neg h6, if_neg h7, if_neg h8]; decide)]
  exact CSf.mk (f := 1) (by decide) (by decide) hw
