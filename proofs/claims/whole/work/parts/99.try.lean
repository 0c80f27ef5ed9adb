theorem v_J6_bitCount_0f7a4 (l : Launch) (G : Gt) (sz : Nat) (x : Int32) (lq : Nat) (hp : x = nI lq ∧ lq < 256) : ((((((((x - (((x).toUInt32 >>> ((1 : Int32).toUInt32 &&& Int32.toUInt32 31)).toInt32 &&& 1431655765)) &&& 858993459) + ((((x - (((x).toUInt32 >>> ((1 : Int32).toUInt32 &&& Int32.toUInt32 31)).toInt32 &&& 1431655765))).toUInt32 >>> ((2 : Int32).toUInt32 &&& Int32.toUInt32 31)).toInt32 &&& 858993459)) + (((((x - (((x).toUInt32 >>> ((1 : Int32).toUInt32 &&& Int32.toUInt32 31)).toInt32 &&& 1431655765)) &&& 858993459) + ((((x - (((x).toUInt32 >>> ((1 : Int32).toUInt32 &&& Int32.toUInt32 31)).toInt32 &&& 1431655765))).toUInt32 >>> ((2 : Int32).toUInt32 &&& Int32.toUInt32 31)).toInt32 &&& 858993459))).toUInt32 >>> ((4 : Int32).toUInt32 &&& Int32.toUInt32 31)).toInt32) &&& 252645135) + (((((((x - (((x).toUInt32 >>> ((1 : Int32).toUInt32 &&& Int32.toUInt32 31)).toInt32 &&& 1431655765)) &&& 858993459) + ((((x - (((x).toUInt32 >>> ((1 : Int32).toUInt32 &&& Int32.toUInt32 31)).toInt32 &&& 1431655765))).toUInt32 >>> ((2 : Int32).toUInt32 &&& Int32.toUInt32 31)).toInt32 &&& 858993459)) + (((((x - (((x).toUInt32 >>> ((1 : Int32).toUInt32 &&& Int32.toUInt32 31)).toInt32 &&& 1431655765)) &&& 858993459) + ((((x - (((x).toUInt32 >>> ((1 : Int32).toUInt32 &&& Int32.toUInt32 31)).toInt32 &&& 1431655765))).toUInt32 >>> ((2 : Int32).toUInt32 &&& Int32.toUInt32 31)).toInt32 &&& 858993459))).toUInt32 >>> ((4 : Int32).toUInt32 &&& Int32.toUInt32 31)).toInt32) &&& 252645135)).toUInt32 >>> ((8 : Int32).toUInt32 &&& Int32.toUInt32 31)).toInt32) + ((((((((x - (((x).toUInt32 >>> ((1 : Int32).toUInt32 &&& Int32.toUInt32 31)).toInt32 &&& 1431655765)) &&& 858993459) + ((((x - (((x).toUInt32 >>> ((1 : Int32).toUInt32 &&& Int32.toUInt32 31)).toInt32 &&& 1431655765))).toUInt32 >>> ((2 : Int32).toUInt32 &&& Int32.toUInt32 31)).toInt32 &&& 858993459)) + (((((x - (((x).toUInt32 >>> ((1 : Int32).toUInt32 &&& Int32.toUInt32 31)).toInt32 &&& 1431655765)) &&& 858993459) + ((((x - (((x).toUInt32 >>> ((1 : Int32).toUInt32 &&& Int32.toUInt32 31)).toInt32 &&& 1431655765))).toUInt32 >>> ((2 : Int32).toUInt32 &&& Int32.toUInt32 31)).toInt32 &&& 858993459))).toUInt32 >>> ((4 : Int32).toUInt32 &&& Int32.toUInt32 31)).toInt32) &&& 252645135) + (((((((x - (((x).toUInt32 >>> ((1 : Int32).toUInt32 &&& Int32.toUInt32 31)).toInt32 &&& 1431655765)) &&& 858993459) + ((((x - (((x).toUInt32 >>> ((1 : Int32).toUInt32 &&& Int32.toUInt32 31)).toInt32 &&& 1431655765))).toUInt32 >>> ((2 : Int32).toUInt32 &&& Int32.toUInt32 31)).toInt32 &&& 858993459)) + (((((x - (((x).toUInt32 >>> ((1 : Int32).toUInt32 &&& Int32.toUInt32 31)).toInt32 &&& 1431655765)) &&& 858993459) + ((((x - (((x).toUInt32 >>> ((1 : Int32).toUInt32 &&& Int32.toUInt32 31)).toInt32 &&& 1431655765))).toUInt32 >>> ((2 : Int32).toUInt32 &&& Int32.toUInt32 31)).toInt32 &&& 858993459))).toUInt32 >>> ((4 : Int32).toUInt32 &&& Int32.toUInt32 31)).toInt32) &&& 252645135)).toUInt32 >>> ((8 : Int32).toUInt32 &&& Int32.toUInt32 31)).toInt32)).toUInt32 >>> ((16 : Int32).toUInt32 &&& Int32.toUInt32 31)).toInt32) &&& 63) = nI (cntA (mA lq) 8) := by
  obtain ⟨rfl, h⟩ := hp
  revert h
  revert lq
  decide +kernel

theorem v_X7_passed (l : Launch) (G : Gt) (h0 t t1 t2 t3 t4 t5 t6 n n1 n2 n3 n4 n5 n6 n7 g g1 g2 g3 s2 : Nat) (sz : Nat) (e0 : Nat) (k : Nat) (j : Nat) (i0 : Nat) (b0 : Nat) (s0 : Nat) (q : Nat) (kp : Int32) (ns : Int32) (np : Int32) (fu : Int32) (fd : Int32) (fi : Int32) (sz_ : Nat → Int32) (pt : Nat → Int32) (fh : Nat → Int32) (kd : Nat → Int32) (nd : Nat → Int32) (fw : Nat → Int32) (ht : Nat → Int32) (wm : Nat → Int32) (se : Nat → Int32) (cd : Nat → Int32) (sl : Nat → Int32) (od : Nat → Int32) (ow : Nat → Int32) (lo : Int32) (mi : Int32) (sd : Int32) (gs : Int32) (gm : Int32) (gb : Int32) (go : Nat → Int32) (gz : Nat → Int32) (gf : Nat → Int32) (sw2 : Int32) (sh2 : Int32) (x : Int32) (s_ : Int32) (w0 : Int32) (w1 : Int32) (T : Nat → Nat → Int) (Ns : Nat) (Np : Nat) (v : Nat → Int) (M : Int) (hp : TOK T Ns Np ∧ CT T Ns Np ns np fu fd fi sz_ pt kd nd ∧ CN Ns Np v ht wm se cd sl od ow lo mi sd ∧ NOK T Ns Np (fun _ => 2 * M) M v ∧ M ≤ 900000) : (¬ (¬ x < 0 ∧ ¬ ns ≤ x) → ((-1000000001) : Int32).toInt = aPassed T Ns Np v x.toInt s_.toInt w0.toInt w1.toInt) ∧ (¬ x < 0 ∧ ¬ ns ≤ x → (((s_).toUInt32 >>> ((np : Int32).toUInt32 &&& Int32.toUInt32 31)).toInt32 = 0 → ∃ (glq_4 : Nat), ((s_ = nI glq_4 ∧ glq_4 < 256) ∧ (∀ (r_5 : Int32), (r_5 = nI (cntA (mA glq_4) 8)) → ((¬ (¬ w0 < 1 ∧ ¬ 60 < w0) → ((-1000000002) : Int32).toInt = aPassed T Ns Np v x.toInt s_.toInt w0.toInt w1.toInt) ∧ (¬ w0 < 1 ∧ ¬ 60 < w0 → (¬ (¬ r_5 < 1 ∧ ¬ 6 < r_5) → ((-1000000002) : Int32).toInt = aPassed T Ns Np v x.toInt s_.toInt w0.toInt w1.toInt) ∧ (¬ r_5 < 1 ∧ ¬ 6 < r_5 → (¬ w1 < 0 ∧ ¬ r_5 < w1 → ∃ (gT_12 : Nat → Nat → Int) (gNs_13 : Nat) (gNp_14 : Nat) (gv_15 : Nat → Int) (gkk_16 : Nat → Int) (gM_17 : Int) (gib_18 : Nat) (gmq_19 : Nat) (gN0_20 : Nat) (glq_21 : Nat), ((TOK gT_12 gNs_13 gNp_14 ∧ CT gT_12 gNs_13 gNp_14 ns np fu fd fi sz_ pt kd nd ∧ CN gNs_13 gNp_14 gv_15 ht wm se cd sl od ow lo mi sd ∧ NOK gT_12 gNs_13 gNp_14 gkk_16 gM_17 gv_15 ∧ x = nI gib_18 ∧ gib_18 < gNs_13 ∧ w0 = nI gmq_19 ∧ gmq_19 ≤ 60 ∧ s_ = nI glq_21 ∧ glq_21 < 2 ^ gNp_14 ∧ cntA (mA glq_21) 8 = gN0_20 ∧ gN0_20 ≤ 6) ∧ (∀ (go2_23 : Nat → Int32) (gz2_24 : Nat → Int32) (gf2_25 : Nat → Int32) (gb2_26 : Int32) (sw2_27 : Int32) (sh2_28 : Int32) (gs2_29 : Int32) (gm2_30 : Int32), (PRel gN0_20 (dP gT_12 gv_15 gib_18 gmq_19 gN0_20 (mA glq_21) 0 (gv_15 gib_18) [] none) gf2_25 gb2_26 gz2_24) → (((if w1 = 0 then gb2_26 else if ¬ w1 - 1 < 0 ∧ ¬ 5 < w1 - 1 then gz2_24 (w1 - 1).toNatClampNeg else (-1000000002)) : Int32).toInt = aPassed T Ns Np v x.toInt s_.toInt w0.toInt w1.toInt)))) ∧ (¬ (¬ w1 < 0 ∧ ¬ r_5 < w1) → ((-1000000002) : Int32).toInt = aPassed T Ns Np v x.toInt s_.toInt w0.toInt w1.toInt))))))) ∧ (¬ (((s_).toUInt32 >>> ((np : Int32).toUInt32 &&& Int32.toUInt32 31)).toInt32 = 0) → ((-1000000001) : Int32).toInt = aPassed T Ns Np v x.toInt s_.toInt w0.toInt w1.toInt)) := by
  obtain ⟨hT, hC, hN, hO, hM⟩ := hp
  have t1 := hT.1
  have t2 := hT.2.1
  have hns : ns = nI Ns := hC.1
  have hnp : np = nI Np := hC.2.1
  have hs_ := hs_iff (x := x) hns (by omega)
  have hw_ : (¬ w0 < 1 ∧ ¬ 60 < w0) ↔ (1 ≤ w0.toInt ∧ w0.toInt ≤ 60) := wi_iff rfl rfl
  have hu_ := ush_iff s_ t2
  simp only [hs_, hw_, hnp, hu_]
  refine ⟨fun h => by rw [aPassed, if_pos (Or.inl h)]; rfl, fun hx => ⟨fun hset => ?_, fun h => by rw [aPassed, if_pos (Or.inr h)]; rfl⟩⟩
  have hp8 := pow8 t2
  obtain ⟨b, hb, rfl, hxi, hxt⟩ := in_nat hx (by omega)
  obtain ⟨s, hs, rfl, hsi, hst⟩ := in_nat (x := s_) (n := 256) (by omega) (by omega)
  have hs2 := hset.2
  rw [hst] at hs2
  refine ⟨s, ⟨rfl, hs⟩, fun r hr => ?_⟩
  subst hr
  have hn8 := cntA_le (A := mA s) 8
  have hset' : ¬ (¬ (0 ≤ (nI b).toInt ∧ (nI b).toInt < Ns) ∨ ¬ (0 ≤ (nI s).toInt ∧ (nI s).toInt.toNat < 2 ^ Np)) := fun z => z.elim (fun q => q hx) (fun q => q hset)
  have eA : aPassed T Ns Np v (nI b).toInt (nI s).toInt w0.toInt w1.toInt = if ¬ (1 ≤ w0.toInt ∧ w0.toInt ≤ 60) ∨ ¬ (1 ≤ cntA (mA s) 8 ∧ cntA (mA s) 8 ≤ 6) ∨ ¬ (0 ≤ w1.toInt ∧ w1.toInt ≤ cntA (mA s) 8) then -1000000002 else ansP (dP T v b w0.toInt.toNat (cntA (mA s) 8) (mA s) 0 (v b) [] none) w1.toInt := by
    rw [aPassed, if_neg hset', hst, hxt]
  rw [eA]
  generalize hn : cntA (mA s) 8 = n at hn8
  have hr_ : (¬ nI n < 1 ∧ ¬ 6 < nI n) ↔ (1 ≤ n ∧ n ≤ 6) := by
    rw [wi_iff (x := nI n) (y := 1) (z := 6) (a := 1) (b := 6) rfl rfl, nI_toInt (by omega)]; omega
  have hw1_ : (¬ w1 < 0 ∧ ¬ nI n < w1) ↔ (0 ≤ w1.toInt ∧ w1.toInt ≤ n) := wi_iff rfl (nI_toInt (by omega))
  simp only [hr_, hw1_]
  refine ⟨fun h => by rw [if_pos (Or.inl h)]; rfl, fun hm => ⟨fun h => by rw [if_pos (Or.inr (Or.inl h))]; rfl, fun hn6 => ⟨fun hw => ?_, fun h => by rw [if_pos (Or.inr (Or.inr h))]; rfl⟩⟩⟩
  rw [if_neg (fun z => z.elim (fun q => q hm) (fun z => z.elim (fun q => q hn6) (fun q => q hw)))]
  obtain ⟨m, hm6, rfl, hmi, hmt⟩ := in_nat (x := w0) (n := 61) (by omega) (by omega)
  rw [hmt]
  refine ⟨T, Ns, Np, v, _, M, b, m, n, s, ⟨hT, by rw [← hnp]; exact hC, hN, hO, rfl, hb, rfl, by omega, rfl, hs2, hn, hn6.2⟩, fun go2 gz2 gf2 gb2 _ _ _ _ hP => ?_⟩
  have hsome : dP T v b m n (mA s) 0 (v b) [] none ≠ none := pF_some (fac_pos n)
  cases hd : dP T v b m n (mA s) 0 (v b) [] none with
  | none => exact absurd hd hsome
  | some t =>
    obtain ⟨a, r⟩ := t
    rw [hd] at hP
    obtain ⟨p1, p2, p3, p4⟩ := hP
    have y0_ : w1 = 0 ↔ w1.toInt = 0 := i_eq rfl rfl
    unfold ansP
    dsimp only
    by_cases q0 : w1.toInt = 0
    · rw [if_pos q0, if_pos (y0_.mpr q0)]; exact p2
    · have e2 : (w1 - 1).toInt = w1.toInt - 1 := i_sub rfl i32_1 (by omega) (by omega)
      rw [if_neg q0, if_neg (fun z => q0 (y0_.mp z)), if_pos ((wi_iff (x := w1 - 1) (y := 0) (z := 5) (a := 0) (b := 5) rfl rfl).mpr (by omega)), cl_of (x := w1 - 1) (n := (w1.toInt - 1).toNat) (by omega), p4 _ (by omega)]
