theorem v_X5_readStone (l : Launch) (G : Gt) (e0 e01 t t1 t2 t3 t4 t5 t6 : Nat) (sz : Nat) (xb : Nat → Int32) (xl : Int32) (xf : Int32) (xg : Int32) (xa : Int32) (xt : Int32) (xr : Int32) (xn : Int32) (ns : Int32) (np : Int32) (fu : Int32) (fd : Int32) (fi : Int32) (sz_ : Nat → Int32) (pt : Nat → Int32) (fh : Nat → Int32) (kd : Nat → Int32) (nd : Nat → Int32) (fw : Nat → Int32) (B : Nat → Int) (L : Nat) (aq : Nat) (wq : Nat) (tq : PTn) (hp : CX B L xb xl ∧ CSo L aq xg xf xa ∧ xt = nI wq ∧ CW tq ns np fu fd fi sz_ pt fh kd nd fw ∧ xr = flg tq.2.2.2.1 ∧ xn = flg tq.2.2.2.2 ∧ tq.1 ≤ 9 ∧ tq.2.1 ≤ 8) : (ns < 9 → ∃ (gB_2 : Nat → Int) (gL_3 : Nat) (gst_4 : Flt ⊕ Nat), ((CX gB_2 gL_3 xb xl ∧ CSs gL_3 gst_4 xg xf xa) ∧ (∀ (r_5 : Int32) (xa2_6 : Int32) (xt2_7 : Int32) (xg2_8 : Int32) (xf2_9 : Int32), (CSn gL_3 (bnd gst_4 (nuR gB_2 gL_3 (1 : Int32).toInt (9999 : Int32).toInt)) r_5 xg2_8 xf2_9 xa2_6 xt2_7) → (∃ (gB_10 : Nat → Int) (gL_11 : Nat) (gst_12 : Flt ⊕ Nat), ((CX gB_10 gL_11 xb xl ∧ CSs gL_11 gst_12 xg2_8 xf2_9 xa2_6) ∧ (∀ (r_13 : Int32) (xa2_14 : Int32) (xt2_15 : Int32) (xg2_16 : Int32) (xf2_17 : Int32), (CSn gL_11 (bnd gst_12 (nuR gB_10 gL_11 (2 : Int32).toInt (999 : Int32).toInt)) r_13 xg2_16 xf2_17 xa2_14 xt2_15) → (∃ (gB_18 : Nat → Int) (gL_19 : Nat) (gst_20 : Flt ⊕ Nat), ((CX gB_18 gL_19 xb xl ∧ CSs gL_19 gst_20 xg2_16 xf2_17 xa2_14) ∧ (∀ (r_21 : Int32) (xa2_22 : Int32) (xt2_23 : Int32) (xg2_24 : Int32) (xf2_25 : Int32), (CSn gL_19 (bnd gst_20 (nuR gB_18 gL_19 (0 : Int32).toInt (9999 : Int32).toInt)) r_21 xg2_24 xf2_25 xa2_22 xt2_23) → ((r_21 ≤ r_5 → ∃ (gB_27 : Nat → Int) (gL_28 : Nat) (gst_29 : Flt ⊕ Nat), ((CX gB_27 gL_28 xb xl ∧ CSs gL_28 gst_29 xg2_24 xf2_25 xa2_22) ∧ (∀ (xa2_31 : Int32) (xt2_32 : Int32) (xg2_33 : Int32) (xf2_34 : Int32), (CSs gL_28 (bnd gst_29 (smR gB_27 gL_28)) xg2_33 xf2_34 xa2_31) → ((¬ xg2_33 = 0 → CP L (smc B L (stC B L wq aq tq)) xg2_33 xf2_34 xa2_31 xr xn ns np fu fd fi sz_ pt fh kd nd fw) ∧ (xg2_33 = 0 → (vp_in ns 9 ∧ ns < 9) ∧ (CP L (smc B L (stC B L wq aq tq)) xg2_33 xf2_34 xa2_31 xr xn (ns + 1) np fu fd fi (upd sz_ ns.toNatClampNeg r_5) (upd pt ns.toNatClampNeg r_13) (upd fh ns.toNatClampNeg r_21) kd nd fw)))))) ∧ (¬ (r_21 ≤ r_5) → ∃ (gB_44 : Nat → Int) (gL_45 : Nat) (gst_46 : Flt ⊕ Nat), ((CX gB_44 gL_45 xb xl ∧ CSs gL_45 gst_46 (if xg2_24 = 0 then 4 else xg2_24) (if xg2_24 = 0 then xt2_23 else xf2_25) xa2_22) ∧ (∀ (xa2_48 : Int32) (xt2_49 : Int32) (xg2_50 : Int32) (xf2_51 : Int32), (CSs gL_45 (bnd gst_46 (smR gB_44 gL_45)) xg2_50 xf2_51 xa2_48) → ((¬ xg2_50 = 0 → CP L (smc B L (stC B L wq aq tq)) xg2_50 xf2_51 xa2_48 xr xn ns np fu fd fi sz_ pt fh kd nd fw) ∧ (xg2_50 = 0 → (vp_in ns 9 ∧ ns < 9) ∧ (CP L (smc B L (stC B L wq aq tq)) xg2_50 xf2_51 xa2_48 xr xn (ns + 1) np fu fd fi (upd sz_ ns.toNatClampNeg r_5) (upd pt ns.toNatClampNeg r_13) (upd fh ns.toNatClampNeg r_21) kd nd fw)))))))))))))))) ∧ (¬ (ns < 9) → CP L (smc B L (stC B L wq aq tq)) (if xg = 0 then 3 else xg) (if xg = 0 then xt else xf) xa xr xn ns np fu fd fi sz_ pt fh kd nd fw) := by
  obtain ⟨hX, ⟨ha, rfl, rfl, rfl⟩, rfl, hW, rfl, rfl, h9, h8⟩ := hp
  obtain ⟨n0, p0, T, ff, fn⟩ := tq
  have hL := hX.1
  dsimp only at h9 h8 ⊢
  have hns : ns = nI n0 := hW.1.1
  have hnp : np = nI p0 := hW.1.2.1
  have hlt9 : ns < 9 ↔ n0 < 9 := by rw [hns]; exact nI_ltI (b := 9) (by omega) (by omega)
  have cn : ns.toNatClampNeg = n0 := by rw [hns]; exact nI_clamp (by omega)
  rw [hlt9, cn]
  simp only [if_true]
  refine ⟨fun hlt => ?_, fun hlt => ?_⟩
  · have vn : vp_in ns 9 := by rw [hns]; exact vp_in_nI (by omega) (by omega)
    refine ⟨B, L, .inr aq, ⟨hX, ha, rfl, rfl, rfl⟩, fun r1 a1 t1 g1 f1 h1 => ?_⟩
    have h1 : CSn L (nuR B L 1 9999 aq) r1 g1 f1 a1 t1 := h1
    cases q1 : nuR B L 1 9999 aq with
    | inl x =>
      rw [q1] at h1
      have e : smc B L (stC B L wq aq (n0, p0, T, ff, fn)) = .inl x := by unfold stC; rw [stN_1 hlt q1]; rfl
      refine ⟨B, L, .inl x, ⟨hX, h1⟩, fun r2 a2 t2 g2 f2 h2 => ⟨B, L, .inl x, ⟨hX, h2⟩, fun r3 a3 t3 g3 f3 h3 => ?_⟩⟩
      have h3 : CSf L x g3 f3 a3 := h3
      exact ⟨fun _ => ⟨B, L, .inl x, ⟨hX, h3⟩, fun a4 t4 g4 f4 h4 => ⟨fun _ => by rw [e]; exact h4, fun z => absurd z (CSf.ne h4)⟩⟩, fun _ => ⟨B, L, .inl x, ⟨hX, by rw [if_neg h3.ne, if_neg h3.ne]; exact h3⟩, fun a4 t4 g4 f4 h4 => ⟨fun _ => by rw [e]; exact h4, fun z => absurd z (CSf.ne h4)⟩⟩⟩
    | inr o1 =>
      obtain ⟨b1, u1, v1⟩ := o1
      rw [q1] at h1
      obtain ⟨k1, rfl, w1⟩ := h1
      refine ⟨B, L, .inr b1, ⟨hX, k1⟩, fun r2 a2 t2 g2 f2 h2 => ?_⟩
      have h2 : CSn L (nuR B L 2 999 b1) r2 g2 f2 a2 t2 := h2
      cases q2 : nuR B L 2 999 b1 with
      | inl x =>
        rw [q2] at h2
        have e : smc B L (stC B L wq aq (n0, p0, T, ff, fn)) = .inl x := by unfold stC; rw [stN_2 hlt q1 q2]; rfl
        refine ⟨B, L, .inl x, ⟨hX, h2⟩, fun r3 a3 t3 g3 f3 h3 => ?_⟩
        have h3 : CSf L x g3 f3 a3 := h3
        exact ⟨fun _ => ⟨B, L, .inl x, ⟨hX, h3⟩, fun a4 t4 g4 f4 h4 => ⟨fun _ => by rw [e]; exact h4, fun z => absurd z (CSf.ne h4)⟩⟩, fun _ => ⟨B, L, .inl x, ⟨hX, by rw [if_neg h3.ne, if_neg h3.ne]; exact h3⟩, fun a4 t4 g4 f4 h4 => ⟨fun _ => by rw [e]; exact h4, fun z => absurd z (CSf.ne h4)⟩⟩⟩
      | inr o2 =>
        obtain ⟨b2, u2, v2⟩ := o2
        rw [q2] at h2
        obtain ⟨k2, rfl, w2⟩ := h2
        refine ⟨B, L, .inr b2, ⟨hX, k2⟩, fun r3 a3 t3 g3 f3 h3 => ?_⟩
        have h3 : CSn L (nuR B L 0 9999 b2) r3 g3 f3 a3 t3 := h3
        cases q3 : nuR B L 0 9999 b2 with
        | inl x =>
          rw [q3] at h3
          have e : smc B L (stC B L wq aq (n0, p0, T, ff, fn)) = .inl x := by unfold stC; rw [stN_3 hlt q1 q2 q3]; rfl
          have h3 : CSf L x g3 f3 a3 := h3
          exact ⟨fun _ => ⟨B, L, .inl x, ⟨hX, h3⟩, fun a4 t4 g4 f4 h4 => ⟨fun _ => by rw [e]; exact h4, fun z => absurd z (CSf.ne h4)⟩⟩, fun _ => ⟨B, L, .inl x, ⟨hX, by rw [if_neg h3.ne, if_neg h3.ne]; exact h3⟩, fun a4 t4 g4 f4 h4 => ⟨fun _ => by rw [e]; exact h4, fun z => absurd z (CSf.ne h4)⟩⟩⟩
        | inr o3 =>
          obtain ⟨b3, u3, v3⟩ := o3
          rw [q3] at h3
          obtain ⟨⟨k3, rfl, rfl, rfl⟩, rfl, w3⟩ := h3
          have hcmp : r3 ≤ r1 ↔ v3 ≤ v1 := i_le w3 w1
          rw [hcmp]
          simp only [if_true]
          refine ⟨fun hle => ?_, fun hle => ?_⟩
          · have e5 : stN B L n0 wq aq = .inr (b3, v1, v2, v3) := stN_5 hlt q1 q2 q3 (by omega)
            refine ⟨B, L, .inr b3, ⟨hX, k3, rfl, rfl, rfl⟩, fun a4 t4 g4 f4 h4 => ?_⟩
            have h4 : CSs L (smR B L b3) g4 f4 a4 := h4
            cases q4 : smR B L b3 with
            | inl x =>
              rw [q4] at h4
              have e : smc B L (stC B L wq aq (n0, p0, T, ff, fn)) = .inl x := by unfold stC; rw [e5]; exact smc_f q4
              exact ⟨fun _ => by rw [e]; exact h4, fun z => absurd z (CSf.ne h4)⟩
            | inr b4 =>
              rw [q4] at h4
              have e : smc B L (stC B L wq aq (n0, p0, T, ff, fn)) = .inr (b4, n0 + 1, p0, uT (uT (uT T 0 n0 v1) 1 n0 v2) 5 n0 v3, ff, fn) := by unfold stC; rw [e5]; exact smc_o q4
              rw [e]
              exact ⟨fun z => absurd h4.2.1 z, fun _ => ⟨⟨vn, hlt⟩, h4, CW_stone hW w1 w2 w3, rfl, rfl⟩⟩
          · have e : smc B L (stC B L wq aq (n0, p0, T, ff, fn)) = .inl (4, u3) := by unfold stC; rw [stN_4 hlt q1 q2 q3 (by omega)]; rfl
            exact ⟨B, L, .inl (4, u3), ⟨hX, CSf.mk (f := 4) (by decide) (by decide) k3⟩, fun a4 t4 g4 f4 h4 => ⟨fun _ => by rw [e]; exact h4, fun z => absurd z (CSf.ne h4)⟩⟩
  · have e : smc B L (stC B L wq aq (n0, p0, T, ff, fn)) = .inl (3, wq) := by unfold stC; rw [stN_9 (show 9 ≤ n0 by omega)]; rfl
    rw [e]
    exact CSf.mk (f := 3) (by decide) (by decide) ha

theorem v_X5_readPerson (l : Launch) (G : Gt) (e0 e01 t t1 t2 t3 t4 t5 t6 : Nat) (sz : Nat) (xb : Nat → Int32) (xl : Int32) (xf : Int32) (xg : Int32) (xa : Int32) (xt : Int32) (xr : Int32) (xn : Int32) (ns : Int32) (np : Int32) (fu : Int32) (fd : Int32) (fi : Int32) (sz_ : Nat → Int32) (pt : Nat → Int32) (fh : Nat → Int32) (kd : Nat → Int32) (nd : Nat → Int32) (fw : Nat → Int32) (B : Nat → Int) (L : Nat) (aq : Nat) (wq : Nat) (tq : PTn) (hp : CX B L xb xl ∧ CSo L aq xg xf xa ∧ xt = nI wq ∧ CW tq ns np fu fd fi sz_ pt fh kd nd fw ∧ xr = flg tq.2.2.2.1 ∧ xn = flg tq.2.2.2.2 ∧ tq.1 ≤ 9 ∧ tq.2.1 ≤ 8) : (np < 8 → ∃ (gB_2 : Nat → Int) (gL_3 : Nat) (gaq_4 : Nat), ((CX gB_2 gL_3 xb xl ∧ CSo gL_3 gaq_4 xg xf xa) ∧ (∀ (r_5 : Int32) (xa2_6 : Int32) (xt2_7 : Int32) (xg2_8 : Int32) (xf2_9 : Int32), (CSk gL_3 (kiR gB_2 gL_3 gaq_4) r_5 xg2_8 xf2_9 xa2_6) → (∃ (gB_10 : Nat → Int) (gL_11 : Nat) (gst_12 : Flt ⊕ Nat), ((CX gB_10 gL_11 xb xl ∧ CSs gL_11 gst_12 xg2_8 xf2_9 xa2_6) ∧ (∀ (r_13 : Int32) (xa2_14 : Int32) (xt2_15 : Int32) (xg2_16 : Int32) (xf2_17 : Int32), (CSn gL_11 (bnd gst_12 (nuR gB_10 gL_11 (0 : Int32).toInt (9999 : Int32).toInt)) r_13 xg2_16 xf2_17 xa2_14 xt2_15) → (∃ (gB_18 : Nat → Int) (gL_19 : Nat) (gst_20 : Flt ⊕ Nat), ((CX gB_18 gL_19 xb xl ∧ CSs gL_19 gst_20 xg2_16 xf2_17 xa2_14) ∧ (∀ (r_21 : Int32) (xa2_22 : Int32) (xt2_23 : Int32) (xg2_24 : Int32) (xf2_25 : Int32), (CSn gL_19 (bnd gst_20 (nuR gB_18 gL_19 (0 : Int32).toInt (9999 : Int32).toInt)) r_21 xg2_24 xf2_25 xa2_22 xt2_23) → (∃ (gB_26 : Nat → Int) (gL_27 : Nat) (gst_28 : Flt ⊕ Nat), ((CX gB_26 gL_27 xb xl ∧ CSs gL_27 gst_28 xg2_24 xf2_25 xa2_22) ∧ (∀ (xa2_30 : Int32) (xt2_31 : Int32) (xg2_32 : Int32) (xf2_33 : Int32), (CSs gL_27 (bnd gst_28 (smR gB_26 gL_27)) xg2_32 xf2_33 xa2_30) → ((¬ xg2_32 = 0 → CP L (smc B L (peC B L wq aq tq)) xg2_32 xf2_33 xa2_30 xr xn ns np fu fd fi sz_ pt fh kd nd fw) ∧ (xg2_32 = 0 → (vp_in np 8 ∧ np < 8) ∧ (CP L (smc B L (peC B L wq aq tq)) xg2_32 xf2_33 xa2_30 xr xn ns (np + 1) fu fd fi sz_ pt fh (upd kd np.toNatClampNeg r_5) (upd nd np.toNatClampNeg r_21) (upd fw np.toNatClampNeg r_13)))))))))))))))) ∧ (¬ (np < 8) → CP L (smc B L (peC B L wq aq tq)) (if xg = 0 then 3 else xg) (if xg = 0 then xt else xf) xa xr xn ns np fu fd fi sz_ pt fh kd nd fw) := by
  obtain ⟨hX, ⟨ha, rfl, rfl, rfl⟩, rfl, hW, rfl, rfl, h9, h8⟩ := hp
  obtain ⟨n0, p0, T, ff, fn⟩ := tq
  have hL := hX.1
  dsimp only at h9 h8 ⊢
  have hns : ns = nI n0 := hW.1.1
  have hnp : np = nI p0 := hW.1.2.1
  have hlt9 : np < 8 ↔ p0 < 8 := by rw [hnp]; exact nI_ltI (b := 8) (by omega) (by omega)
  have cn : np.toNatClampNeg = p0 := by rw [hnp]; exact nI_clamp (by omega)
  rw [hlt9, cn]
  simp only [if_true]
  refine ⟨fun hlt => ?_, fun hlt => ?_⟩
  · have vn : vp_in np 8 := by rw [hnp]; exact vp_in_nI (by omega) (by omega)
    refine ⟨B, L, aq, ⟨hX, ha, rfl, rfl, rfl⟩, fun r1 a1 t1 g1 f1 h1 => ?_⟩
    cases q1 : kiR B L aq with
    | inl x =>
      rw [q1] at h1
      have e : smc B L (peC B L wq aq (n0, p0, T, ff, fn)) = .inl x := by unfold peC; rw [peN_1 hlt q1]; rfl
      exact ⟨B, L, .inl x, ⟨hX, h1⟩, fun r2 a2 t2 g2 f2 h2 => ⟨B, L, .inl x, ⟨hX, h2⟩, fun r3 a3 t3 g3 f3 h3 => ⟨B, L, .inl x, ⟨hX, h3⟩, fun a4 t4 g4 f4 h4 => ⟨fun _ => by rw [e]; exact h4, fun z => absurd z (CSf.ne h4)⟩⟩⟩⟩
    | inr o1 =>
      obtain ⟨b1, v1⟩ := o1
      rw [q1] at h1
      obtain ⟨k1, w1⟩ := h1
      refine ⟨B, L, .inr b1, ⟨hX, k1⟩, fun r2 a2 t2 g2 f2 h2 => ?_⟩
      have h2 : CSn L (nuR B L 0 9999 b1) r2 g2 f2 a2 t2 := h2
      cases q2 : nuR B L 0 9999 b1 with
      | inl x =>
        rw [q2] at h2
        have e : smc B L (peC B L wq aq (n0, p0, T, ff, fn)) = .inl x := by unfold peC; rw [peN_2 hlt q1 q2]; rfl
        exact ⟨B, L, .inl x, ⟨hX, h2⟩, fun r3 a3 t3 g3 f3 h3 => ⟨B, L, .inl x, ⟨hX, h3⟩, fun a4 t4 g4 f4 h4 => ⟨fun _ => by rw [e]; exact h4, fun z => absurd z (CSf.ne h4)⟩⟩⟩
      | inr o2 =>
        obtain ⟨b2, u2, v2⟩ := o2
        rw [q2] at h2
        obtain ⟨k2, rfl, w2⟩ := h2
        refine ⟨B, L, .inr b2, ⟨hX, k2⟩, fun r3 a3 t3 g3 f3 h3 => ?_⟩
        have h3 : CSn L (nuR B L 0 9999 b2) r3 g3 f3 a3 t3 := h3
        cases q3 : nuR B L 0 9999 b2 with
        | inl x =>
          rw [q3] at h3
          have e : smc B L (peC B L wq aq (n0, p0, T, ff, fn)) = .inl x := by unfold peC; rw [peN_3 hlt q1 q2 q3]; rfl
          exact ⟨B, L, .inl x, ⟨hX, h3⟩, fun a4 t4 g4 f4 h4 => ⟨fun _ => by rw [e]; exact h4, fun z => absurd z (CSf.ne h4)⟩⟩
        | inr o3 =>
          obtain ⟨b3, u3, v3⟩ := o3
          rw [q3] at h3
          obtain ⟨k3, rfl, w3⟩ := h3
          have e5 : peN B L p0 wq aq = .inr (b3, v1, v2, v3) := peN_5 hlt q1 q2 q3
          refine ⟨B, L, .inr b3, ⟨hX, k3⟩, fun a4 t4 g4 f4 h4 => ?_⟩
          have h4 : CSs L (smR B L b3) g4 f4 a4 := h4
          cases q4 : smR B L b3 with
          | inl x =>
            rw [q4] at h4
            have e : smc B L (peC B L wq aq (n0, p0, T, ff, fn)) = .inl x := by unfold peC; rw [e5]; exact smc_f q4
            exact ⟨fun _ => by rw [e]; exact h4, fun z => absurd z (CSf.ne h4)⟩
          | inr b4 =>
            rw [q4] at h4
            have e : smc B L (peC B L wq aq (n0, p0, T, ff, fn)) = .inr (b4, n0, p0 + 1, uT (uT (uT T 2 p0 v1) 6 p0 v2) 3 p0 v3, ff, fn) := by unfold peC; rw [e5]; exact smc_o q4
            rw [e]
            exact ⟨fun z => absurd h4.2.1 z, fun _ => ⟨⟨vn, hlt⟩, h4, CW_person hW w1 w2 w3, rfl, rfl⟩⟩
  · have e : smc B L (peC B L wq aq (n0, p0, T, ff, fn)) = .inl (3, wq) := by unfold peC; rw [peN_9 (show 8 ≤ p0 by omega)]; rfl
    rw [e]
    exact CSf.mk (f := 3) (by decide) (by decide) ha

theorem v_X5_readFrost (l : Launch) (G : Gt) (e0 e01 t t1 t2 t3 t4 t5 t6 : Nat) (sz : Nat) (xb : Nat → Int32) (xl : Int32) (xf : Int32) (xg : Int32) (xa : Int32) (xt : Int32) (xr : Int32) (xn : Int32) (ns : Int32) (np : Int32) (fu : Int32) (fd : Int32) (fi : Int32) (sz_ : Nat → Int32) (pt : Nat → Int32) (fh : Nat → Int32) (kd : Nat → Int32) (nd : Nat → Int32) (fw : Nat → Int32) (B : Nat → Int) (L : Nat) (aq : Nat) (wq : Nat) (tq : PTn) (hp : CX B L xb xl ∧ CSo L aq xg xf xa ∧ xt = nI wq ∧ CW tq ns np fu fd fi sz_ pt fh kd nd fw ∧ xr = flg tq.2.2.2.1 ∧ xn = flg tq.2.2.2.2 ∧ tq.1 ≤ 9 ∧ tq.2.1 ≤ 8) : (xr = 0 → ∃ (gB_2 : Nat → Int) (gL_3 : Nat) (gst_4 : Flt ⊕ Nat), ((CX gB_2 gL_3 xb xl ∧ CSs gL_3 gst_4 xg xf xa) ∧ (∀ (r_5 : Int32) (xa2_6 : Int32) (xt2_7 : Int32) (xg2_8 : Int32) (xf2_9 : Int32), (CSn gL_3 (bnd gst_4 (nuR gB_2 gL_3 (0 : Int32).toInt (99 : Int32).toInt)) r_5 xg2_8 xf2_9 xa2_6 xt2_7) → (∃ (gB_10 : Nat → Int) (gL_11 : Nat) (gst_12 : Flt ⊕ Nat), ((CX gB_10 gL_11 xb xl ∧ CSs gL_11 gst_12 xg2_8 xf2_9 xa2_6) ∧ (∀ (r_13 : Int32) (xa2_14 : Int32) (xt2_15 : Int32) (xg2_16 : Int32) (xf2_17 : Int32), (CSn gL_11 (bnd gst_12 (nuR gB_10 gL_11 (0 : Int32).toInt (99 : Int32).toInt)) r_13 xg2_16 xf2_17 xa2_14 xt2_15) → (∃ (gB_18 : Nat → Int) (gL_19 : Nat) (gst_20 : Flt ⊕ Nat), ((CX gB_18 gL_19 xb xl ∧ CSs gL_19 gst_20 xg2_16 xf2_17 xa2_14) ∧ (∀ (xa2_22 : Int32) (xt2_23 : Int32) (xg2_24 : Int32) (xf2_25 : Int32), (CSs gL_19 (bnd gst_20 (smR gB_18 gL_19)) xg2_24 xf2_25 xa2_22) → (CP L (smc B L (frC B L wq aq tq)) xg2_24 xf2_25 xa2_22 (1 : Int32) xn ns np r_5 r_13 fi sz_ pt fh kd nd fw)))))))))) ∧ (¬ (xr = 0) → CP L (smc B L (frC B L wq aq tq)) (if xg = 0 then 3 else xg) (if xg = 0 then xt else xf) xa xr xn ns np fu fd fi sz_ pt fh kd nd fw) := by
  obtain ⟨hX, ⟨ha, rfl, rfl, rfl⟩, rfl, hW, rfl, rfl, h9, h8⟩ := hp
  obtain ⟨n0, p0, T, ff, fn⟩ := tq
  have hL := hX.1
  dsimp only at h9 h8 ⊢
  have hns : ns = nI n0 := hW.1.1
  have hnp : np = nI p0 := hW.1.2.1
  rw [flg_0]
  simp only [if_true]
  refine ⟨fun hlt => ?_, fun hlt => ?_⟩
  · subst hlt
    refine ⟨B, L, .inr aq, ⟨hX, ha, rfl, rfl, rfl⟩, fun r1 a1 t1 g1 f1 h1 => ?_⟩
    have h1 : CSn L (nuR B L 0 99 aq) r1 g1 f1 a1 t1 := h1
    cases q1 : nuR B L 0 99 aq with
    | inl x =>
      rw [q1] at h1
      have e : smc B L (frC B L wq aq (n0, p0, T, false, fn)) = .inl x := by unfold frC; rw [frN_1 q1]; rfl
      rw [e]
      exact ⟨B, L, .inl x, ⟨hX, h1⟩, fun r2 a2 t2 g2 f2 h2 => ⟨B, L, .inl x, ⟨hX, h2⟩, fun a4 t4 g4 f4 h4 => h4⟩⟩
    | inr o1 =>
      obtain ⟨b1, u1, v1⟩ := o1
      rw [q1] at h1
      obtain ⟨k1, rfl, w1⟩ := h1
      refine ⟨B, L, .inr b1, ⟨hX, k1⟩, fun r2 a2 t2 g2 f2 h2 => ?_⟩
      have h2 : CSn L (nuR B L 0 99 b1) r2 g2 f2 a2 t2 := h2
      cases q2 : nuR B L 0 99 b1 with
      | inl x =>
        rw [q2] at h2
        have e : smc B L (frC B L wq aq (n0, p0, T, false, fn)) = .inl x := by unfold frC; rw [frN_2 q1 q2]; rfl
        rw [e]
        exact ⟨B, L, .inl x, ⟨hX, h2⟩, fun a4 t4 g4 f4 h4 => h4⟩
      | inr o2 =>
        obtain ⟨b2, u2, v2⟩ := o2
        rw [q2] at h2
        obtain ⟨k2, rfl, w2⟩ := h2
        have e5 : frN B L false wq aq = .inr (b2, v1, v2) := frN_5 q1 q2
        refine ⟨B, L, .inr b2, ⟨hX, k2⟩, fun a4 t4 g4 f4 h4 => ?_⟩
        have h4 : CSs L (smR B L b2) g4 f4 a4 := h4
        cases q4 : smR B L b2 with
        | inl x =>
          rw [q4] at h4
          have e : smc B L (frC B L wq aq (n0, p0, T, false, fn)) = .inl x := by unfold frC; rw [e5]; exact smc_f q4
          rw [e]
          exact h4
        | inr b4 =>
          rw [q4] at h4
          have e : smc B L (frC B L wq aq (n0, p0, T, false, fn)) = .inr (b4, n0, p0, uT (uT T 4 0 v1) 4 1 v2, true, fn) := by unfold frC; rw [e5]; exact smc_o q4
          rw [e]
          exact ⟨h4, CW_frost hW w1 w2, rfl, rfl⟩
  · have hff : ff = true := by cases ff with
      | true => rfl
      | false => exact absurd rfl hlt
    subst hff
    exact CSf.mk (f := 3) (by decide) (by decide) ha

theorem v_X5_readFine (l : Launch) (G : Gt) (e0 e01 t t1 t2 t3 t4 t5 t6 : Nat) (sz : Nat) (xb : Nat → Int32) (xl : Int32) (xf : Int32) (xg : Int32) (xa : Int32) (xt : Int32) (xr : Int32) (xn : Int32) (ns : Int32) (np : Int32) (fu : Int32) (fd : Int32) (fi : Int32) (sz_ : Nat → Int32) (pt : Nat → Int32) (fh : Nat → Int32) (kd : Nat → Int32) (nd : Nat → Int32) (fw : Nat → Int32) (B : Nat → Int) (L : Nat) (aq : Nat) (wq : Nat) (tq : PTn) (hp : CX B L xb xl ∧ CSo L aq xg xf xa ∧ xt = nI wq ∧ CW tq ns np fu fd fi sz_ pt fh kd nd fw ∧ xr = flg tq.2.2.2.1 ∧ xn = flg tq.2.2.2.2 ∧ tq.1 ≤ 9 ∧ tq.2.1 ≤ 8) : (xn = 0 → ∃ (gB_2 : Nat → Int) (gL_3 : Nat) (gst_4 : Flt ⊕ Nat), ((CX gB_2 gL_3 xb xl ∧ CSs gL_3 gst_4 xg xf xa) ∧ (∀ (r_5 : Int32) (xa2_6 : Int32) (xt2_7 : Int32) (xg2_8 : Int32) (xf2_9 : Int32), (CSn gL_3 (bnd gst_4 (nuR gB_2 gL_3 (0 : Int32).toInt (99 : Int32).toInt)) r_5 xg2_8 xf2_9 xa2_6 xt2_7) → (∃ (gB_10 : Nat → Int) (gL_11 : Nat) (gst_12 : Flt ⊕ Nat), ((CX gB_10 gL_11 xb xl ∧ CSs gL_11 gst_12 xg2_8 xf2_9 xa2_6) ∧ (∀ (xa2_14 : Int32) (xt2_15 : Int32) (xg2_16 : Int32) (xf2_17 : Int32), (CSs gL_11 (bnd gst_12 (smR gB_10 gL_11)) xg2_16 xf2_17 xa2_14) → (CP L (smc B L (fiC B L wq aq tq)) xg2_16 xf2_17 xa2_14 xr (1 : Int32) ns np fu fd r_5 sz_ pt fh kd nd fw))))))) ∧ (¬ (xn = 0) → CP L (smc B L (fiC B L wq aq tq)) (if xg = 0 then 3 else xg) (if xg = 0 then xt else xf) xa xr xn ns np fu fd fi sz_ pt fh kd nd fw) := by
  obtain ⟨hX, ⟨ha, rfl, rfl, rfl⟩, rfl, hW, rfl, rfl, h9, h8⟩ := hp
  obtain ⟨n0, p0, T, ff, fn⟩ := tq
  have hL := hX.1
  dsimp only at h9 h8 ⊢
  have hns : ns = nI n0 := hW.1.1
  have hnp : np = nI p0 := hW.1.2.1
  rw [flg_0]
  simp only [if_true]
  refine ⟨fun hlt => ?_, fun hlt => ?_⟩
  · subst hlt
    refine ⟨B, L, .inr aq, ⟨hX, ha, rfl, rfl, rfl⟩, fun r1 a1 t1 g1 f1 h1 => ?_⟩
    have h1 : CSn L (nuR B L 0 99 aq) r1 g1 f1 a1 t1 := h1
    cases q1 : nuR B L 0 99 aq with
    | inl x =>
      rw [q1] at h1
      have e : smc B L (fiC B L wq aq (n0, p0, T, ff, false)) = .inl x := by unfold fiC; rw [fiN_1 q1]; rfl
      rw [e]
      exact ⟨B, L, .inl x, ⟨hX, h1⟩, fun a4 t4 g4 f4 h4 => h4⟩
    | inr o1 =>
      obtain ⟨b1, u1, v1⟩ := o1
      rw [q1] at h1
      obtain ⟨k1, rfl, w1⟩ := h1
      have e5 : fiN B L false wq aq = .inr (b1, v1) := fiN_5 q1
      refine ⟨B, L, .inr b1, ⟨hX, k1⟩, fun a4 t4 g4 f4 h4 => ?_⟩
      have h4 : CSs L (smR B L b1) g4 f4 a4 := h4
      cases q4 : smR B L b1 with
      | inl x =>
        rw [q4] at h4
        have e : smc B L (fiC B L wq aq (n0, p0, T, ff, false)) = .inl x := by unfold fiC; rw [e5]; exact smc_f q4
        rw [e]
        exact h4
      | inr b4 =>
        rw [q4] at h4
        have e : smc B L (fiC B L wq aq (n0, p0, T, ff, false)) = .inr (b4, n0, p0, uT T 4 2 v1, ff, true) := by unfold fiC; rw [e5]; exact smc_o q4
        rw [e]
        exact ⟨h4, CW_fine hW w1, rfl, rfl⟩
  · have hff : fn = true := by cases fn with
      | true => rfl
      | false => exact absurd rfl hlt
    subst hff
    exact CSf.mk (f := 3) (by decide) (by decide) ha

theorem v_X5_readClause (l : Launch) (G : Gt) (e0 e01 t t1 t2 t3 t4 t5 t6 : Nat) (sz : Nat) (xb : Nat → Int32) (xl : Int32) (xf : Int32) (xg : Int32) (xa : Int32) (xt : Int32) (xr : Int32) (xn : Int32) (ns : Int32) (np : Int32) (fu : Int32) (fd : Int32) (fi : Int32) (sz_ : Nat → Int32) (pt : Nat → Int32) (fh : Nat → Int32) (kd : Nat → Int32) (nd : Nat → Int32) (fw : Nat → Int32) (B : Nat → Int) (L : Nat) (aq : Nat) (tq : PTn) (hp : CX B L xb xl ∧ CP L (.inr (aq, tq)) xg xf xa xr xn ns np fu fd fi sz_ pt fh kd nd fw ∧ tq.1 ≤ 9 ∧ tq.2.1 ≤ 8) : ∃ (gB_1 : Nat → Int) (gL_2 : Nat) (gaq_3 : Nat), ((CX gB_1 gL_2 xb xl ∧ xa = nI gaq_3 ∧ gaq_3 ≤ gL_2) ∧ (∀ (xa2_5 : Int32) (xt2_6 : Int32), (xt2_6 = nI (sk gB_1 gL_2 gaq_3) ∧ xa2_5 = nI (wE gB_1 gL_2 (sk gB_1 gL_2 gaq_3))) → (∃ (gB_7 : Nat → Int) (gL_8 : Nat) (gwq_9 : Nat) (geq__10 : Nat), ((CX gB_7 gL_8 xb xl ∧ xt2_6 = nI gwq_9 ∧ xa2_5 = nI geq__10 ∧ gwq_9 ≤ geq__10 ∧ geq__10 ≤ gL_8) ∧ (∀ (r_11 : Int32), (r_11 = (if wIs gB_7 gwq_9 geq__10 0 = true then 1 else 0)) → ((r_11 = 0 → ∃ (gB_13 : Nat → Int) (gL_14 : Nat) (gwq_15 : Nat) (geq__16 : Nat), ((CX gB_13 gL_14 xb xl ∧ xt2_6 = nI gwq_15 ∧ xa2_5 = nI geq__16 ∧ gwq_15 ≤ geq__16 ∧ geq__16 ≤ gL_14) ∧ (∀ (r_17 : Int32), (r_17 = (if wIs gB_13 gwq_15 geq__16 1 = true then 1 else 0)) → ((r_17 = 0 → ∃ (gB_19 : Nat → Int) (gL_20 : Nat) (gwq_21 : Nat) (geq__22 : Nat), ((CX gB_19 gL_20 xb xl ∧ xt2_6 = nI gwq_21 ∧ xa2_5 = nI geq__22 ∧ gwq_21 ≤ geq__22 ∧ geq__22 ≤ gL_20) ∧ (∀ (r_23 : Int32), (r_23 = (if wIs gB_19 gwq_21 geq__22 2 = true then 1 else 0)) → ((r_23 = 0 → ∃ (gB_25 : Nat → Int) (gL_26 : Nat) (gwq_27 : Nat) (geq__28 : Nat), ((CX gB_25 gL_26 xb xl ∧ xt2_6 = nI gwq_27 ∧ xa2_5 = nI geq__28 ∧ gwq_27 ≤ geq__28 ∧ geq__28 ≤ gL_26) ∧ (∀ (r_29 : Int32), (r_29 = (if wIs gB_25 gwq_27 geq__28 3 = true then 1 else 0)) → ((r_29 = 0 → CP L (clR B L aq tq) (if xg = 0 then 1 else xg) (if xg = 0 then xt2_6 else xf) xa2_5 xr xn ns np fu fd fi sz_ pt fh kd nd fw) ∧ (¬ (r_29 = 0) → ∃ (gB_34 : Nat → Int) (gL_35 : Nat) (gaq_36 : Nat) (gwq_37 : Nat) (gtq_38 : PTn), ((CX gB_34 gL_35 xb xl ∧ CSo gL_35 gaq_36 xg xf xa2_5 ∧ xt2_6 = nI gwq_37 ∧ CW gtq_38 ns np fu fd fi sz_ pt fh kd nd fw ∧ xr = flg gtq_38.2.2.2.1 ∧ xn = flg gtq_38.2.2.2.2 ∧ gtq_38.1 ≤ 9 ∧ gtq_38.2.1 ≤ 8) ∧ (∀ (xa2_40 : Int32) (xt2_41 : Int32) (xg2_42 : Int32) (xf2_43 : Int32) (xn2_44 : Int32) (fi2_45 : Int32), (CP gL_35 (smc gB_34 gL_35 (fiC gB_34 gL_35 gwq_37 gaq_36 gtq_38)) xg2_42 xf2_43 xa2_40 xr xn2_44 ns np fu fd fi2_45 sz_ pt fh kd nd fw) → (CP L (clR B L aq tq) xg2_42 xf2_43 xa2_40 xr xn2_44 ns np fu fd fi2_45 sz_ pt fh kd nd fw)))))))) ∧ (¬ (r_23 = 0) → ∃ (gB_46 : Nat → Int) (gL_47 : Nat) (gaq_48 : Nat) (gwq_49 : Nat) (gtq_50 : PTn), ((CX gB_46 gL_47 xb xl ∧ CSo gL_47 gaq_48 xg xf xa2_5 ∧ xt2_6 = nI gwq_49 ∧ CW gtq_50 ns np fu fd fi sz_ pt fh kd nd fw ∧ xr = flg gtq_50.2.2.2.1 ∧ xn = flg gtq_50.2.2.2.2 ∧ gtq_50.1 ≤ 9 ∧ gtq_50.2.1 ≤ 8) ∧ (∀ (xa2_52 : Int32) (xt2_53 : Int32) (xg2_54 : Int32) (xf2_55 : Int32) (xr2_56 : Int32) (fu2_57 : Int32) (fd2_58 : Int32), (CP gL_47 (smc gB_46 gL_47 (frC gB_46 gL_47 gwq_49 gaq_48 gtq_50)) xg2_54 xf2_55 xa2_52 xr2_56 xn ns np fu2_57 fd2_58 fi sz_ pt fh kd nd fw) → (CP L (clR B L aq tq) xg2_54 xf2_55 xa2_52 xr2_56 xn ns np fu2_57 fd2_58 fi sz_ pt fh kd nd fw)))))))) ∧ (¬ (r_17 = 0) → ∃ (gB_59 : Nat → Int) (gL_60 : Nat) (gaq_61 : Nat) (gwq_62 : Nat) (gtq_63 : PTn), ((CX gB_59 gL_60 xb xl ∧ CSo gL_60 gaq_61 xg xf xa2_5 ∧ xt2_6 = nI gwq_62 ∧ CW gtq_63 ns np fu fd fi sz_ pt fh kd nd fw ∧ xr = flg gtq_63.2.2.2.1 ∧ xn = flg gtq_63.2.2.2.2 ∧ gtq_63.1 ≤ 9 ∧ gtq_63.2.1 ≤ 8) ∧ (∀ (xa2_65 : Int32) (xt2_66 : Int32) (xg2_67 : Int32) (xf2_68 : Int32) (np2_69 : Int32) (kd2_70 : Nat → Int32) (nd2_71 : Nat → Int32) (fw2_72 : Nat → Int32), (CP gL_60 (smc gB_59 gL_60 (peC gB_59 gL_60 gwq_62 gaq_61 gtq_63)) xg2_67 xf2_68 xa2_65 xr xn ns np2_69 fu fd fi sz_ pt fh kd2_70 nd2_71 fw2_72) → (CP L (clR B L aq tq) xg2_67 xf2_68 xa2_65 xr xn ns np2_69 fu fd fi sz_ pt fh kd2_70 nd2_71 fw2_72)))))))) ∧ (¬ (r_11 = 0) → ∃ (gB_73 : Nat → Int) (gL_74 : Nat) (gaq_75 : Nat) (gwq_76 : Nat) (gtq_77 : PTn), ((CX gB_73 gL_74 xb xl ∧ CSo gL_74 gaq_75 xg xf xa2_5 ∧ xt2_6 = nI gwq_76 ∧ CW gtq_77 ns np fu fd fi sz_ pt fh kd nd fw ∧ xr = flg gtq_77.2.2.2.1 ∧ xn = flg gtq_77.2.2.2.2 ∧ gtq_77.1 ≤ 9 ∧ gtq_77.2.1 ≤ 8) ∧ (∀ (xa2_79 : Int32) (xt2_80 : Int32) (xg2_81 : Int32) (xf2_82 : Int32) (ns2_83 : Int32) (sz2_84 : Nat → Int32) (pt2_85 : Nat → Int32) (fh2_86 : Nat → Int32), (CP gL_74 (smc gB_73 gL_74 (stC gB_73 gL_74 gwq_76 gaq_75 gtq_77)) xg2_81 xf2_82 xa2_79 xr xn ns2_83 np fu fd fi sz2_84 pt2_85 fh2_86 kd nd fw) → (CP L (clR B L aq tq) xg2_81 xf2_82 xa2_79 xr xn ns2_83 np fu fd fi sz2_84 pt2_85 fh2_86 kd nd fw)))))))))) := by
  obtain ⟨hX, ⟨⟨ha, rfl, rfl, rfl⟩, hW, rfl, rfl⟩, h9, h8⟩ := hp
  have hL := hX.1
  have hxl := hX.2.1
  have hs := sk_L (B := B) ha
  have hw := wE_L (B := B) hs
  refine ⟨B, L, aq, ⟨hX, rfl, ha⟩, fun e w h => ?_⟩
  obtain ⟨rfl, rfl⟩ := h
  refine ⟨B, L, sk B L aq, wE B L (sk B L aq), ⟨hX, rfl, rfl, wE_le, hw⟩, fun r hr => ?_⟩
  subst hr
  rw [tv_eq, Classical.not_not]
  refine ⟨fun h0 => ?_, fun h0 => ⟨B, L, wE B L (sk B L aq), sk B L aq, tq, ⟨hX, ⟨hw, rfl, rfl, rfl⟩, rfl, hW, rfl, rfl, h9, h8⟩, fun _ _ _ _ _ _ _ _ h => ?_⟩⟩
  rotate_left
  · unfold clR clN
    rw [if_pos h0]
    exact h
  refine ⟨B, L, sk B L aq, wE B L (sk B L aq), ⟨hX, rfl, rfl, wE_le, hw⟩, fun r hr => ?_⟩
  subst hr
  rw [tv_eq, Classical.not_not]
  refine ⟨fun h1 => ?_, fun h1 => ⟨B, L, wE B L (sk B L aq), sk B L aq, tq, ⟨hX, ⟨hw, rfl, rfl, rfl⟩, rfl, hW, rfl, rfl, h9, h8⟩, fun _ _ _ _ _ _ _ _ h => ?_⟩⟩
  rotate_left
  · unfold clR clN
    rw [if_neg h0, if_pos h1]
    exact h
  refine ⟨B, L, sk B L aq, wE B L (sk B L aq), ⟨hX, rfl, rfl, wE_le, hw⟩, fun r hr => ?_⟩
  subst hr
  rw [tv_eq, Classical.not_not]
  refine ⟨fun h2 => ?_, fun h2 => ⟨B, L, wE B L (sk B L aq), sk B L aq, tq, ⟨hX, ⟨hw, rfl, rfl, rfl⟩, rfl, hW, rfl, rfl, h9, h8⟩, fun _ _ _ _ _ _ _ h => ?_⟩⟩
  rotate_left
  · unfold clR clN
    rw [if_neg h0, if_neg h1, if_pos h2]
    exact h
  refine ⟨B, L, sk B L aq, wE B L (sk B L aq), ⟨hX, rfl, rfl, wE_le, hw⟩, fun r hr => ?_⟩
  subst hr
  rw [tv_eq, Classical.not_not]
  refine ⟨fun h3 => ?_, fun h3 => ⟨B, L, wE B L (sk B L aq), sk B L aq, tq, ⟨hX, ⟨hw, rfl, rfl, rfl⟩, rfl, hW, rfl, rfl, h9, h8⟩, fun _ _ _ _ _ _ h => ?_⟩⟩
  rotate_left
  · unfold clR clN
    rw [if_neg h0, if_neg h1, if_neg h2, if_pos h3]
    exact h
  simp only [if_true]
  unfold clR clN
  rw [if_neg h0, if_neg h1, if_neg h2, if_neg h3]
  exact CSf.mk (f := 1) (by decide) (by decide) hw

theorem v_X5_readInto (l : Launch) (G : Gt) (e0 e01 t t1 t2 t3 t4 t5 t6 : Nat) (sz : Nat) (xb : Nat → Int32) (xl : Int32) (xf : Int32) (xg : Int32) (xa : Int32) (xt : Int32) (xr : Int32) (xn : Int32) (ns : Int32) (np : Int32) (fu : Int32) (fd : Int32) (fi : Int32) (sz_ : Nat → Int32) (pt : Nat → Int32) (fh : Nat → Int32) (kd : Nat → Int32) (nd : Nat → Int32) (fw : Nat → Int32) (B : Nat → Int) (L : Nat) (hp : CX B L xb xl) : ∃ (I31_25 : (Nat → Int32) → (Nat → Int32) → (Nat → Int32) → (Nat → Int32) → (Nat → Int32) → (Nat → Int32) → Int32 → Int32 → Int32 → Int32 → Int32 → Int32 → Int32 → Int32 → Int32 → Int32 → Int32 → Int32 → Prop) (μ31_26 : (Nat → Int32) → (Nat → Int32) → (Nat → Int32) → (Nat → Int32) → (Nat → Int32) → (Nat → Int32) → Int32 → Int32 → Int32 → Int32 → Int32 → Int32 → Int32 → Int32 → Int32 → Int32 → Int32 → Int32 → Nat), I31_25 sz_ pt fh kd nd fw (-1) 0 0 xt 0 0 0 0 3 1 0 0 ∧ (∀ (ft1_7 : (Nat → Int32)) (ft2_8 : (Nat → Int32)) (ft3_9 : (Nat → Int32)) (ft4_10 : (Nat → Int32)) (ft5_11 : (Nat → Int32)) (ft6_12 : (Nat → Int32)) (ge02_13 : Int32) (ge03_14 : Int32) (ge04_15 : Int32) (ge05_16 : Int32) (ge06_17 : Int32) (ge07_18 : Int32) (gt0_19 : Int32) (gt1_20 : Int32) (gt2_21 : Int32) (gt3_22 : Int32) (gt4_23 : Int32) (x2_24 : Int32), I31_25 ft1_7 ft2_8 ft3_9 ft4_10 ft5_11 ft6_12 ge02_13 ge03_14 ge04_15 ge05_16 ge06_17 ge07_18 gt0_19 gt1_20 gt2_21 gt3_22 gt4_23 x2_24 → (400 ≤ x2_24 → (0 : Int32) = 0 ∧ CI (paT B L) ge03_14 ge02_13 gt0_19 gt1_20 gt2_21 gt3_22 gt4_23 ft1_7 ft2_8 ft3_9 ft4_10 ft5_11 ft6_12) ∧ (¬ (400 ≤ x2_24) → ∃ (gB_30 : Nat → Int) (gL_31 : Nat) (gaq_32 : Nat), ((CX gB_30 gL_31 xb xl ∧ ge04_15 = nI gaq_32 ∧ gaq_32 ≤ gL_31) ∧ (∀ (r_33 : Int32) (xa2_34 : Int32), (r_33 = (if ge03_14 = 0 ∧ sk gB_30 gL_31 gaq_32 < gL_31 then 1 else 0) ∧ xa2_34 = nI (sk gB_30 gL_31 gaq_32)) → ((r_33 = 0 → (0 : Int32) = 0 ∧ CI (paT B L) ge03_14 ge02_13 gt0_19 gt1_20 gt2_21 gt3_22 gt4_23 ft1_7 ft2_8 ft3_9 ft4_10 ft5_11 ft6_12) ∧ (¬ (r_33 = 0) → ∃ (gB_36 : Nat → Int) (gL_37 : Nat) (gaq_38 : Nat) (gtq_39 : PTn), ((CX gB_36 gL_37 xb xl ∧ CP gL_37 (.inr (gaq_38, gtq_39)) ge03_14 ge02_13 xa2_34 ge06_17 ge07_18 gt0_19 gt1_20 gt2_21 gt3_22 gt4_23 ft1_7 ft2_8 ft3_9 ft4_10 ft5_11 ft6_12 ∧ gtq_39.1 ≤ 9 ∧ gtq_39.2.1 ≤ 8) ∧ (∀ (xa2_41 : Int32) (xt2_42 : Int32) (xg2_43 : Int32) (xf2_44 : Int32) (xr2_45 : Int32) (xn2_46 : Int32) (ns2_47 : Int32) (sz2_48 : Nat → Int32) (pt2_49 : Nat → Int32) (fh2_50 : Nat → Int32) (np2_51 : Int32) (kd2_52 : Nat → Int32) (nd2_53 : Nat → Int32) (fw2_54 : Nat → Int32) (fu2_55 : Int32) (fd2_56 : Int32) (fi2_57 : Int32), (CP gL_37 (clR gB_36 gL_37 gaq_38 gtq_39) xg2_43 xf2_44 xa2_41 xr2_45 xn2_46 ns2_47 np2_51 fu2_55 fd2_56 fi2_57 sz2_48 pt2_49 fh2_50 kd2_52 nd2_53 fw2_54) → (I31_25 sz2_48 pt2_49 fh2_50 kd2_52 nd2_53 fw2_54 xf2_44 xg2_43 xa2_41 xt2_42 xr2_45 xn2_46 ns2_47 np2_51 fu2_55 fd2_56 fi2_57 (x2_24 + 1) ∧ μ31_26 sz2_48 pt2_49 fh2_50 kd2_52 nd2_53 fw2_54 xf2_44 xg2_43 xa2_41 xt2_42 xr2_45 xn2_46 ns2_47 np2_51 fu2_55 fd2_56 fi2_57 (x2_24 + 1) < μ31_26 ft1_7 ft2_8 ft3_9 ft4_10 ft5_11 ft6_12 ge02_13 ge03_14 ge04_15 ge05_16 ge06_17 ge07_18 gt0_19 gt1_20 gt2_21 gt3_22 gt4_23 x2_24))))))))) := by
  have hX : CX B L xb xl := hp
  have hL := hX.1
  have hxl := hX.2.1
  refine ⟨fun sz_ pt fh kd nd fw xf xg xa _ xr xn ns np fu fd fi z => ∃ (c : Nat) (st : Flt ⊕ (Nat × PTn)), z = nI c ∧ c ≤ 400 ∧ CP L st xg xf xa xr xn ns np fu fd fi sz_ pt fh kd nd fw ∧ (∀ x, st = .inl x → paT B L = .inl x) ∧ (∀ a t, st = .inr (a, t) → c ≤ a ∧ POK t ∧ paR B L a t = paT B L), fun _ _ _ _ _ _ _ _ _ _ _ _ _ _ _ _ _ z => 401 - z.toNatClampNeg, ⟨0, .inr (0, 0, 0, T0n, false, false), rfl, by omega, ⟨⟨by omega, rfl, rfl, rfl⟩, CW_0, rfl, rfl⟩, fun x h => absurd h (by intro z; cases z), fun a t h => by cases h; exact ⟨Nat.le_refl _, POK_0, rfl⟩⟩, ?_⟩
  rintro sz_ pt fh kd nd fw xf xg xa xt xr xn ns np fu fd fi z ⟨c, st, rfl, hc, hP, hf, ho⟩
  have ec : (nI c).toNatClampNeg = c := nI_clamp (by omega)
  have ec1 : nI c + 1 = nI (c + 1) := nI_1 c
  have ec2 : (nI (c + 1)).toNatClampNeg = c + 1 := nI_clamp (by omega)
  have h4 : 400 ≤ nI c ↔ 400 ≤ c := nI_leI (a := 400) (by omega) (by omega)
  simp only [ec, ec1, ec2, h4]
  cases st with
  | inl x =>
    have h : CSf L x xg xf xa := hP
    have e := hf x rfl
    have fin : CI (paT B L) xg xf ns np fu fd fi sz_ pt fh kd nd fw := by
      rw [e]
      exact ⟨h.1, h.2.1, h.2.2.1, h.2.2.2.1⟩
    obtain ⟨a, ha, hxa⟩ := h.2.2.2.2
    refine ⟨fun _ => ⟨trivial, fin⟩, fun _ => ⟨B, L, a, ⟨hX, hxa, ha⟩, fun r xa2 hr => ⟨fun _ => ⟨trivial, fin⟩, fun z => ?_⟩⟩⟩
    exact absurd (by rw [hr.1, if_neg (fun y => h.ne y.1)]) z
  | inr s =>
    obtain ⟨a, t⟩ := s
    obtain ⟨⟨ha, rfl, rfl, rfl⟩, hW, rfl, rfl⟩ := hP
    obtain ⟨o1, o2, o3⟩ := ho a t rfl
    have fin : ¬ sk B L a < L → CI (paT B L) 0 (-1) ns np fu fd fi sz_ pt fh kd nd fw := fun h => by
      rw [← o3, pa_end h]
      exact ⟨rfl, rfl, hW⟩
    have hsa := sk_le (B := B) (L := L) (a := a)
    refine ⟨fun q => ⟨trivial, fin (by omega)⟩, fun q => ⟨B, L, a, ⟨hX, rfl, ha⟩, fun r xa2 hr => ?_⟩⟩
    obtain ⟨rfl, rfl⟩ := hr
    rw [tv_eq]
    refine ⟨fun z => ⟨trivial, fin (fun y => z ⟨rfl, y⟩)⟩, fun z => ?_⟩
    have hlt : sk B L a < L := (Classical.not_not.mp z).2
    refine ⟨B, L, sk B L a, t, ⟨hX, ⟨⟨by omega, rfl, rfl, rfl⟩, hW, rfl, rfl⟩, o2.1.1, o2.1.2.1⟩, fun xa2 xt2 xg2 xf2 xr2 xn2 ns2 sz2 pt2 fh2 np2 kd2 nd2 fw2 fu2 fd2 fi2 h2 => ?_⟩
    rw [clR_sk] at h2
    refine ⟨⟨c + 1, clR B L a t, rfl, by omega, h2, fun x hx => ?_, fun a2 t2 hx => ?_⟩, by omega⟩
    · rw [← o3]; exact pa_flt ha hlt hx
    · have ck := clR_ok hx ha o2
      exact ⟨by omega, ck.2.2, by rw [← o3]; exact pa_go o2 ha hlt hx⟩
