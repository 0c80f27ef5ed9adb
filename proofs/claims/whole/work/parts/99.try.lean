theorem v_X7_seating (l : Launch) (G : Gt) (h0 t t1 t2 t3 t4 t5 t6 n n1 n2 n3 n4 n5 n6 n7 q q1 q2 q3 q4 s1 : Nat) (sz : Nat) (e0 : Nat) (k : Nat) (j : Nat) (i0 : Nat) (b0 : Nat) (s0 : Nat) (g : Nat) (kp : Int32) (ns : Int32) (np : Int32) (fu : Int32) (fd : Int32) (fi : Int32) (sz_ : Nat → Int32) (pt : Nat → Int32) (fh : Nat → Int32) (kd : Nat → Int32) (nd : Nat → Int32) (fw : Nat → Int32) (ht : Nat → Int32) (wm : Nat → Int32) (se : Nat → Int32) (cd : Nat → Int32) (sl : Nat → Int32) (od : Nat → Int32) (ow : Nat → Int32) (lo : Int32) (mi : Int32) (sd : Int32) (bc : Int32) (bl : Int32) (co : Nat → Int32) (wo : Nat → Int32) (ch : Nat → Int32) (be : Nat → Int32) (sw1 : Int32) (sh1 : Int32) (x : Int32) (y : Int32) (T : Nat → Nat → Int) (Ns : Nat) (Np : Nat) (v : Nat → Int) (M : Int) (hp : TOK T Ns Np ∧ CT T Ns Np ns np fu fd fi sz_ pt kd nd ∧ CN Ns Np v ht wm se cd sl od ow lo mi sd ∧ NOK T Ns Np (fun _ => 2 * M) M v ∧ M ≤ 900000) : (¬ (¬ x < 1 ∧ ¬ 60 < x) → ((-1000000002) : Int32).toInt = aSeating T Ns Np v x.toInt y.toInt) ∧ (¬ x < 1 ∧ ¬ 60 < x → (y < 0 → ((-1000000002) : Int32).toInt = aSeating T Ns Np v x.toInt y.toInt) ∧ (¬ (y < 0) → (y ≤ 1 → (¬ np < 1 ∧ ¬ 4 < np → ∃ (gT_7 : Nat → Nat → Int) (gNs_8 : Nat) (gNp_9 : Nat) (gv_10 : Nat → Int) (gkk_11 : Nat → Int) (gM_12 : Int) (gmq_13 : Nat), ((TOK gT_7 gNs_8 gNp_9 ∧ CT gT_7 gNs_8 gNp_9 ns np fu fd fi sz_ pt kd nd ∧ CN gNs_8 gNp_9 gv_10 ht wm se cd sl od ow lo mi sd ∧ NOK gT_7 gNs_8 gNp_9 gkk_11 gM_12 gv_10 ∧ x = nI gmq_13 ∧ gmq_13 ≤ 60 ∧ 1 ≤ gNp_9 ∧ gNp_9 ≤ 4) ∧ (∀ (co2_15 : Nat → Int32) (wo2_16 : Nat → Int32) (ch2_17 : Nat → Int32) (be2_18 : Nat → Int32) (bc2_19 : Int32) (bl2_20 : Int32) (sw2_21 : Int32) (sh2_22 : Int32), (SRel gNp_9 (sF gT_7 gv_10 gmq_13 gNs_8 gNp_9 none 0 (10 ^ gNp_9)) bc2_19 bl2_20 be2_18) → (((if y = 0 then bc2_19 else if y = 1 then bl2_20 else if ¬ y - 2 < 0 ∧ ¬ 3 < y - 2 then be2_18 (y - 2).toNatClampNeg else (-1000000002)) : Int32).toInt = aSeating T Ns Np v x.toInt y.toInt)))) ∧ (¬ (¬ np < 1 ∧ ¬ 4 < np) → ((-1000000003) : Int32).toInt = aSeating T Ns Np v x.toInt y.toInt)) ∧ (¬ (y ≤ 1) → (¬ (y - 2) < 0 ∧ ¬ np ≤ (y - 2) → (¬ np < 1 ∧ ¬ 4 < np → ∃ (gT_28 : Nat → Nat → Int) (gNs_29 : Nat) (gNp_30 : Nat) (gv_31 : Nat → Int) (gkk_32 : Nat → Int) (gM_33 : Int) (gmq_34 : Nat), ((TOK gT_28 gNs_29 gNp_30 ∧ CT gT_28 gNs_29 gNp_30 ns np fu fd fi sz_ pt kd nd ∧ CN gNs_29 gNp_30 gv_31 ht wm se cd sl od ow lo mi sd ∧ NOK gT_28 gNs_29 gNp_30 gkk_32 gM_33 gv_31 ∧ x = nI gmq_34 ∧ gmq_34 ≤ 60 ∧ 1 ≤ gNp_30 ∧ gNp_30 ≤ 4) ∧ (∀ (co2_36 : Nat → Int32) (wo2_37 : Nat → Int32) (ch2_38 : Nat → Int32) (be2_39 : Nat → Int32) (bc2_40 : Int32) (bl2_41 : Int32) (sw2_42 : Int32) (sh2_43 : Int32), (SRel gNp_30 (sF gT_28 gv_31 gmq_34 gNs_29 gNp_30 none 0 (10 ^ gNp_30)) bc2_40 bl2_41 be2_39) → (((if y = 0 then bc2_40 else if y = 1 then bl2_41 else if ¬ y - 2 < 0 ∧ ¬ 3 < y - 2 then be2_39 (y - 2).toNatClampNeg else (-1000000002)) : Int32).toInt = aSeating T Ns Np v x.toInt y.toInt)))) ∧ (¬ (¬ np < 1 ∧ ¬ 4 < np) → ((-1000000003) : Int32).toInt = aSeating T Ns Np v x.toInt y.toInt)) ∧ (¬ (¬ (y - 2) < 0 ∧ ¬ np ≤ (y - 2)) → ((-1000000002) : Int32).toInt = aSeating T Ns Np v x.toInt y.toInt)))) := by
  obtain ⟨hT, hC, hN, hO, hM⟩ := hp
  have t1 := hT.1
  have t2 := hT.2.1
  have hns : ns = nI Ns := hC.1
  have hnp : np = nI Np := hC.2.1
  have hx_ : (¬ x < 1 ∧ ¬ 60 < x) ↔ (1 ≤ x.toInt ∧ x.toInt ≤ 60) := wi_iff rfl rfl
  have hnpi : np.toInt = (Np : Int) := by rw [hnp]; exact nI_toInt (by omega)
  have hn_ : (¬ np < 1 ∧ ¬ 4 < np) ↔ (1 ≤ Np ∧ Np ≤ 4) := by
    rw [i_lt hnpi i32_1, i_lt (show (4 : Int32).toInt = 4 from rfl) hnpi]; omega
  have hy0 : y < 0 ↔ y.toInt < 0 := i_lt rfl rfl
  have hy1 : y ≤ 1 ↔ y.toInt ≤ 1 := i_le rfl rfl
  simp only [hx_, hn_, hy0, hy1]
  have out : ¬ (0 ≤ y.toInt ∧ y.toInt ≤ Np + 1) → ((-1000000002) : Int32).toInt = aSeating T Ns Np v x.toInt y.toInt := fun h => by rw [aSeating, if_pos (Or.inr h)]; rfl
  have nt : (1 ≤ x.toInt ∧ x.toInt ≤ 60) → (0 ≤ y.toInt ∧ y.toInt ≤ Np + 1) → ¬ (1 ≤ Np ∧ Np ≤ 4) → ((-1000000003) : Int32).toInt = aSeating T Ns Np v x.toInt y.toInt := fun hx hy h => by rw [aSeating, if_neg (fun z => z.elim (fun q => q hx) (fun q => q hy)), if_pos h]; rfl
  refine ⟨fun h => by rw [aSeating, if_pos (Or.inl h)]; rfl, fun hx => ?_⟩
  obtain ⟨m, hm, rfl, hxi, hxt⟩ := in_nat (x := x) (n := 61) (by omega) (by omega)
  have hy2 : ¬ y.toInt ≤ 1 → (y - 2).toInt = y.toInt - 2 := fun h => i_sub rfl (show (2 : Int32).toInt = 2 from rfl) (by omega) (by have := fb_rng y; omega)
  have fin : (0 ≤ y.toInt ∧ y.toInt ≤ Np + 1) → (1 ≤ Np ∧ Np ≤ 4) → ∀ (be2 : Nat → Int32) (bc2 bl2 : Int32), SRel Np (sF T v m Ns Np none 0 (10 ^ Np)) bc2 bl2 be2 → ((if y = 0 then bc2 else if y = 1 then bl2 else if ¬ y - 2 < 0 ∧ ¬ 3 < y - 2 then be2 (y - 2).toNatClampNeg else (-1000000002)) : Int32).toInt = aSeating T Ns Np v (nI m).toInt y.toInt := by
    intro hy hn be2 bc2 bl2 hS
    rw [aSeating, if_neg (show ¬ (¬ (1 ≤ (nI m).toInt ∧ (nI m).toInt ≤ 60) ∨ ¬ (0 ≤ y.toInt ∧ y.toInt ≤ Np + 1)) from fun z => z.elim (fun q => q hx) (fun q => q hy)), if_neg (show ¬ ¬ (1 ≤ Np ∧ Np ≤ 4) from fun z => z hn), hxt]
    have hsome := sF_all (T := T) (v := v) (m := m) (ns := Ns) (np := Np) (n := 10 ^ Np) (Nat.pow_pos (by omega))
    cases hsf : sF T v m Ns Np none 0 (10 ^ Np) with
    | none => exact absurd hsf hsome
    | some t =>
      obtain ⟨a1, a2, a3⟩ := t
      rw [hsf] at hS
      obtain ⟨s1, s2, s3, s4⟩ := hS
      have y0_ : y = 0 ↔ y.toInt = 0 := i_eq rfl rfl
      have y1_ : y = 1 ↔ y.toInt = 1 := i_eq rfl rfl
      dsimp only
      by_cases q0 : y.toInt = 0
      · rw [if_pos q0, if_pos (y0_.mpr q0)]; exact s1
      · rw [if_neg q0, if_neg (fun z => q0 (y0_.mp z))]
        by_cases q1 : y.toInt = 1
        · rw [if_pos q1, if_pos (y1_.mpr q1)]; exact s2
        · have e2 := hy2 (by omega)
          rw [if_neg q1, if_neg (fun z => q1 (y1_.mp z)), if_pos ((wi_iff (x := y - 2) (y := 0) (z := 3) (a := 0) (b := 3) rfl rfl).mpr (by omega)), cl_of (x := y - 2) (n := (y.toInt - 2).toNat) (by omega)]
          exact s4 _ (by omega)
  refine ⟨fun h => out (by omega), fun h => ⟨fun h1 => ⟨fun hn => ⟨T, Ns, Np, v, _, M, m, ⟨hT, hC, hN, hO, rfl, by omega, hn.1, hn.2⟩, fun _ _ _ be2 bc2 bl2 _ _ hS => fin (by omega) hn be2 bc2 bl2 hS⟩, fun hn => nt hx (by omega) hn⟩, fun h1 => ?_⟩⟩
  have e2 := hy2 h1
  have hh : (¬ (y - 2) < 0 ∧ ¬ np ≤ (y - 2)) ↔ (0 ≤ y.toInt ∧ y.toInt ≤ Np + 1) := by
    rw [i_lt e2 i32_0, i_le hnpi e2]; omega
  rw [hh]
  exact ⟨fun hy => ⟨fun hn => ⟨T, Ns, Np, v, _, M, m, ⟨hT, hC, hN, hO, rfl, by omega, hn.1, hn.2⟩, fun _ _ _ be2 bc2 bl2 _ _ hS => fin hy hn be2 bc2 bl2 hS⟩, fun hn => nt hx hy hn⟩, fun hy => out hy⟩

theorem v_X2_heatBehind (l : Launch) (G : Gt) (g g1 g2 g3 s0 t t1 t2 t3 t4 t5 t6 n n1 n2 n3 n4 n5 n6 n7 : Nat) (sz : Nat) (gs : Int32) (gm : Int32) (gb : Int32) (go : Nat → Int32) (gz : Nat → Int32) (gf : Nat → Int32) (sw : Int32) (sh : Int32) (ns : Int32) (np : Int32) (fu : Int32) (fd : Int32) (fi : Int32) (sz_ : Nat → Int32) (pt : Nat → Int32) (fh : Nat → Int32) (kd : Nat → Int32) (nd : Nat → Int32) (fw : Nat → Int32) (ht : Nat → Int32) (wm : Nat → Int32) (se : Nat → Int32) (cd : Nat → Int32) (sl : Nat → Int32) (od : Nat → Int32) (ow : Nat → Int32) (lo : Int32) (mi : Int32) (sd : Int32) (x : Int32) (pq : Int32) (y : Int32) (T : Nat → Nat → Int) (Ns : Nat) (Np : Nat) (v : Nat → Int) (kk : Nat → Int) (M : Int) (ib : Nat) (mq : Nat) (tn : Nat) (ip : Nat) (hp : TOK T Ns Np ∧ CT T Ns Np ns np fu fd fi sz_ pt kd nd ∧ CN Ns Np v ht wm se cd sl od ow lo mi sd ∧ NOK T Ns Np kk M v ∧ gs = nI ib ∧ ib < Ns ∧ gm = nI mq ∧ mq ≤ 60 ∧ x = nI tn ∧ tn ≤ 6 ∧ pq = nI ip ∧ ip < Np ∧ 0 ≤ y.toInt ∧ y.toInt ≤ T 0 ib) : (vp_in pq 8) ∧ ((vp_in pq 8) ∧ (∃ (I42_8 : Int32 → Int32 → Int32 → Prop) (μ42_9 : Int32 → Int32 → Int32 → Nat), I42_8 (if 0 < ((wm pq.toNatClampNeg) - ((x * gm) * (frostI (kd pq.toNatClampNeg) fu fd 0))) then ((wm pq.toNatClampNeg) - ((x * gm) * (frostI (kd pq.toNatClampNeg) fu fd 0))) else 0) y 0 ∧ (∀ (gs00_5 : Int32) (gs01_6 : Int32) (x7_7 : Int32), I42_8 gs00_5 gs01_6 x7_7 → (gm ≤ x7_7 → gs01_6.toInt = pSt T v ib mq tn ip y.toInt) ∧ (¬ (gm ≤ x7_7) → ∃ (gT_13 : Nat → Nat → Int) (gNs_14 : Nat) (gNp_15 : Nat) (gip_16 : Nat) (gxx_17 : Int × Int), ((TOK gT_13 gNs_14 gNp_15 ∧ CT gT_13 gNs_14 gNp_15 ns np fu fd fi sz_ pt kd nd ∧ pq = nI gip_16 ∧ gip_16 < gNp_15 ∧ SOK gT_13 gNs_14 gs.toInt gxx_17 ∧ gs00_5.toInt = gxx_17.1 ∧ gs01_6.toInt = gxx_17.2) ∧ (∀ (sw2_19 : Int32) (sh2_20 : Int32), (sw2_19.toInt = (zSt gT_13 gip_16 gs.toInt gxx_17).1 ∧ sh2_20.toInt = (zSt gT_13 gip_16 gs.toInt gxx_17).2) → (I42_8 sw2_19 sh2_20 (x7_7 + 1) ∧ μ42_9 sw2_19 sh2_20 (x7_7 + 1) < μ42_9 gs00_5 gs01_6 x7_7))))))) := by
  obtain ⟨hT, hC, hN, hO, rfl, hib, rfl, hmq, rfl, htn, rfl, hip, hy0, hy1⟩ := hp
  have t1 := hT.1
  have t2 := hT.2.1
  have t5 := hT.2.2.2.2
  have a := vp_in_nI (n := ip) (N := 8) (by omega) (by omega)
  have ea : (nI ip).toNatClampNeg = ip := nI_clamp (by omega)
  simp only [ea]
  have eF : (frostI (kd ip) fu fd 0).toInt = frU T ip := frostI_Z (b := false) (hC.2.2.2.1 ip hip).1 hC.2.2.2.2.1 hC.2.2.2.2.2.1 rfl t5.1
  have fb := frU_bd hT ip
  have hm1 : tn * mq ≤ 6 * 60 := Nat.mul_le_mul htn hmq
  have hm2 : 0 ≤ ((tn * mq : Nat) : Int) * frU T ip := Int.mul_nonneg (by omega) fb.1
  have hm3 : ((tn * mq : Nat) : Int) * frU T ip ≤ 360 * 99 := Int.mul_le_mul (by omega) fb.2 fb.1 (by omega)
  have em : ((nI tn * nI mq) * (frostI (kd ip) fu fd 0)).toInt = ((tn * mq : Nat) : Int) * frU T ip := i_mul (by rw [pk_mul]; exact nI_toInt (by omega)) eF (by omega) (by omega)
  have ew := hN.w t2 hip
  have bw := (hO.2.1 ip hip).1
  have ed := i_sub ew em (by omega) (by omega)
  have es := i_if (i_lt i32_0 ed) ed i32_0
  have hsok := pSt_sok (t := tn) (m := mq) hT hO hip hib hy0 hy1
  have ebi : (nI ib).toInt = (ib : Int) := nI_toInt (by omega)
  refine ⟨a, a, fun a b z => ∃ i, i ≤ mq ∧ z = nI i ∧ a.toInt = (zSts T ip (ib : Int) (maxZ 0 (v (10 + ip) - ((tn * mq : Nat) : Int) * frU T ip), y.toInt) i).1 ∧ b.toInt = (zSts T ip (ib : Int) (maxZ 0 (v (10 + ip) - ((tn * mq : Nat) : Int) * frU T ip), y.toInt) i).2, fun _ _ z => 61 - z.toNatClampNeg, ⟨0, by omega, rfl, es, rfl⟩, ?_⟩
  rintro a b z ⟨i, hi, rfl, h1, h2⟩
  have ei : (nI i).toNatClampNeg = i := nI_clamp (by omega)
  have ei1 : nI i + 1 = nI (i + 1) := nI_1 i
  have ej : (nI (i + 1)).toNatClampNeg = i + 1 := nI_clamp (by omega)
  have hle : nI mq ≤ nI i ↔ mq ≤ i := nI_leI (by omega) (by omega)
  simp only [ei, ei1, ej, hle]
  refine ⟨fun q => ?_, fun q => ⟨T, Ns, Np, ip, _, ⟨hT, hC, rfl, hip, by rw [ebi]; exact zSts_ok hT hip hsok i, h1, h2⟩, fun s1 s2 hs => ⟨⟨i + 1, by omega, rfl, ?_, ?_⟩, by omega⟩⟩⟩
  · have e : i = mq := by omega
    subst e
    exact h2
  · rw [hs.1, ebi]; rfl
  · rw [hs.2, ebi]; rfl

theorem v_X2_place (l : Launch) (G : Gt) (g g1 g2 g3 s0 t t1 t2 t3 t4 t5 t6 n n1 n2 n3 n4 n5 n6 n7 : Nat) (sz : Nat) (gs : Int32) (gm : Int32) (gb : Int32) (go : Nat → Int32) (gz : Nat → Int32) (gf : Nat → Int32) (sw : Int32) (sh : Int32) (ns : Int32) (np : Int32) (fu : Int32) (fd : Int32) (fi : Int32) (sz_ : Nat → Int32) (pt : Nat → Int32) (fh : Nat → Int32) (kd : Nat → Int32) (nd : Nat → Int32) (fw : Nat → Int32) (ht : Nat → Int32) (wm : Nat → Int32) (se : Nat → Int32) (cd : Nat → Int32) (sl : Nat → Int32) (od : Nat → Int32) (ow : Nat → Int32) (lo : Int32) (mi : Int32) (sd : Int32) (x : Int32) (lf : Int32) (y : Int32) (T : Nat → Nat → Int) (Ns : Nat) (Np : Nat) (v : Nat → Int) (kk : Nat → Int) (M : Int) (ib : Nat) (mq : Nat) (N0 : Nat) (nn : Nat) (lq : Nat) (tn : Nat) (pl : List Nat) (S : Option (Int × List Nat)) (d : Nat) (hp : TOK T Ns Np ∧ CT T Ns Np ns np fu fd fi sz_ pt kd nd ∧ CN Ns Np v ht wm se cd sl od ow lo mi sd ∧ NOK T Ns Np kk M v ∧ gs = nI ib ∧ ib < Ns ∧ gm = nI mq ∧ mq ≤ 60 ∧ lf = nI lq ∧ lq < 2 ^ Np ∧ cntA (mA lq) 8 = nn ∧ x = nI tn ∧ tn + nn = N0 ∧ N0 ≤ 6 ∧ 0 ≤ y.toInt ∧ y.toInt ≤ T 0 ib ∧ pl.length = tn ∧ (∀ k, k < tn → go k = nI (pl.getD k 0)) ∧ PRel N0 S gf gb gz ∧ (∀ L, L < 256 → subM L lq → PInv T v ib mq N0 gf S L) ∧ nn < (d + 1)) : (lf < 0 → (PRel N0 (dP T v ib mq nn (mA lq) tn y.toInt pl S) gf gb gz ∧ (∀ k, k < tn → go k = go k) ∧ (∀ L, L < 256 → ¬ subM L lq → gf L = gf L) ∧ (∀ L, L < 256 → subM L lq → PInv T v ib mq N0 gf (dP T v ib mq nn (mA lq) tn y.toInt pl S) L))) ∧ (¬ (lf < 0) → (256 ≤ lf → (PRel N0 (dP T v ib mq nn (mA lq) tn y.toInt pl S) gf gb gz ∧ (∀ k, k < tn → go k = go k) ∧ (∀ L, L < 256 → ¬ subM L lq → gf L = gf L) ∧ (∀ L, L < 256 → subM L lq → PInv T v ib mq N0 gf (dP T v ib mq nn (mA lq) tn y.toInt pl S) L))) ∧ (¬ (256 ≤ lf) → (vp_in lf 256) ∧ (((gf lf.toNatClampNeg) < y → (vp_in lf 256) ∧ ((lf = 0 → (PRel N0 (dP T v ib mq nn (mA lq) tn y.toInt pl S) (upd gf lf.toNatClampNeg y) y (va_cpy go gz 0 0 6) ∧ (∀ k, k < tn → go k = go k) ∧ (∀ L, L < 256 → ¬ subM L lq → (upd gf lf.toNatClampNeg y) L = gf L) ∧ (∀ L, L < 256 → subM L lq → PInv T v ib mq N0 (upd gf lf.toNatClampNeg y) (dP T v ib mq nn (mA lq) tn y.toInt pl S) L))) ∧ (¬ (lf = 0) → (x < 6 → ∃ (I58_16 : (Nat → Int32) → (Nat → Int32) → (Nat → Int32) → Int32 → Int32 → Int32 → Int32 → Prop) (μ58_17 : (Nat → Int32) → (Nat → Int32) → (Nat → Int32) → Int32 → Int32 → Int32 → Int32 → Nat), I58_16 go gz (upd gf lf.toNatClampNeg y) gb sw sh 0 ∧ (∀ (fg1_9 : (Nat → Int32)) (fg2_10 : (Nat → Int32)) (fg3_11 : (Nat → Int32)) (gg6_12 : Int32) (gs00_13 : Int32) (gs01_14 : Int32) (x6_15 : Int32), I58_16 fg1_9 fg2_10 fg3_11 gg6_12 gs00_13 gs01_14 x6_15 → (np ≤ x6_15 → (PRel N0 (dP T v ib mq nn (mA lq) tn y.toInt pl S) fg3_11 gg6_12 fg2_10 ∧ (∀ k, k < tn → fg1_9 k = go k) ∧ (∀ L, L < 256 → ¬ subM L lq → fg3_11 L = gf L) ∧ (∀ L, L < 256 → subM L lq → PInv T v ib mq N0 fg3_11 (dP T v ib mq nn (mA lq) tn y.toInt pl S) L))) ∧ (¬ (np ≤ x6_15) → (((lf >>> (x6_15 &&& 31)) &&& 1) = 0 → I58_16 fg1_9 fg2_10 fg3_11 gg6_12 gs00_13 gs01_14 (x6_15 + 1) ∧ μ58_17 fg1_9 fg2_10 fg3_11 gg6_12 gs00_13 gs01_14 (x6_15 + 1) < μ58_17 fg1_9 fg2_10 fg3_11 gg6_12 gs00_13 gs01_14 x6_15) ∧ (¬ (((lf >>> (x6_15 &&& 31)) &&& 1) = 0) → (vp_in x 6) ∧ (∃ (gT_22 : Nat → Nat → Int) (gNs_23 : Nat) (gNp_24 : Nat) (gv_25 : Nat → Int) (gkk_26 : Nat → Int) (gM_27 : Int) (gib_28 : Nat) (gmq_29 : Nat) (gtn_30 : Nat) (gip_31 : Nat), ((TOK gT_22 gNs_23 gNp_24 ∧ CT gT_22 gNs_23 gNp_24 ns np fu fd fi sz_ pt kd nd ∧ CN gNs_23 gNp_24 gv_25 ht wm se cd sl od ow lo mi sd ∧ NOK gT_22 gNs_23 gNp_24 gkk_26 gM_27 gv_25 ∧ gs = nI gib_28 ∧ gib_28 < gNs_23 ∧ gm = nI gmq_29 ∧ gmq_29 ≤ 60 ∧ x = nI gtn_30 ∧ gtn_30 ≤ 6 ∧ x6_15 = nI gip_31 ∧ gip_31 < gNp_24 ∧ 0 ≤ y.toInt ∧ y.toInt ≤ gT_22 0 gib_28) ∧ (∀ (r_32 : Int32) (sw2_33 : Int32) (sh2_34 : Int32), (r_32.toInt = pSt gT_22 gv_25 gib_28 gmq_29 gtn_30 gip_31 y.toInt) → (∃ (gT_35 : Nat → Nat → Int) (gNs_36 : Nat) (gNp_37 : Nat) (gv_38 : Nat → Int) (gkk_39 : Nat → Int) (gM_40 : Int) (gib_41 : Nat) (gmq_42 : Nat) (gN0_43 : Nat) (gnn_44 : Nat) (glq_45 : Nat) (gtn_46 : Nat) (gpl_47 : List Nat) (gS_48 : Option (Int × List Nat)), ((TOK gT_35 gNs_36 gNp_37 ∧ CT gT_35 gNs_36 gNp_37 ns np fu fd fi sz_ pt kd nd ∧ CN gNs_36 gNp_37 gv_38 ht wm se cd sl od ow lo mi sd ∧ NOK gT_35 gNs_36 gNp_37 gkk_39 gM_40 gv_38 ∧ gs = nI gib_41 ∧ gib_41 < gNs_36 ∧ gm = nI gmq_42 ∧ gmq_42 ≤ 60 ∧ (lf &&& (((1 : Int32) <<< (x6_15 &&& 31)) ^^^ (-1))) = nI glq_45 ∧ glq_45 < 2 ^ gNp_37 ∧ cntA (mA glq_45) 8 = gnn_44 ∧ (x + 1) = nI gtn_46 ∧ gtn_46 + gnn_44 = gN0_43 ∧ gN0_43 ≤ 6 ∧ 0 ≤ r_32.toInt ∧ r_32.toInt ≤ gT_35 0 gib_41 ∧ gpl_47.length = gtn_46 ∧ (∀ k, k < gtn_46 → (upd fg1_9 x.toNatClampNeg x6_15) k = nI (gpl_47.getD k 0)) ∧ PRel gN0_43 gS_48 fg3_11 gg6_12 fg2_10 ∧ (∀ L, L < 256 → subM L glq_45 → PInv gT_35 gv_38 gib_41 gmq_42 gN0_43 fg3_11 gS_48 L) ∧ gnn_44 < d) ∧ (∀ (go2_50 : Nat → Int32) (gz2_51 : Nat → Int32) (gf2_52 : Nat → Int32) (gb2_53 : Int32) (sw2_54 : Int32) (sh2_55 : Int32), ((PRel gN0_43 (dP gT_35 gv_38 gib_41 gmq_42 gnn_44 (mA glq_45) gtn_46 r_32.toInt gpl_47 gS_48) gf2_52 gb2_53 gz2_51 ∧ (∀ k, k < gtn_46 → go2_50 k = (upd fg1_9 x.toNatClampNeg x6_15) k) ∧ (∀ L, L < 256 → ¬ subM L glq_45 → gf2_52 L = fg3_11 L) ∧ (∀ L, L < 256 → subM L glq_45 → PInv gT_35 gv_38 gib_41 gmq_42 gN0_43 gf2_52 (dP gT_35 gv_38 gib_41 gmq_42 gnn_44 (mA glq_45) gtn_46 r_32.toInt gpl_47 gS_48) L))) → (I58_16 go2_50 gz2_51 gf2_52 gb2_53 sw2_54 sh2_55 (x6_15 + 1) ∧ μ58_17 go2_50 gz2_51 gf2_52 gb2_53 sw2_54 sh2_55 (x6_15 + 1) < μ58_17 fg1_9 fg2_10 fg3_11 gg6_12 gs00_13 gs01_14 x6_15))))))))))) ∧ (¬ (x < 6) → (PRel N0 (dP T v ib mq nn (mA lq) tn y.toInt pl S) (upd gf lf.toNatClampNeg y) y (va_cpy go gz 0 0 6) ∧ (∀ k, k < tn → go k = go k) ∧ (∀ L, L < 256 → ¬ subM L lq → (upd gf lf.toNatClampNeg y) L = gf L) ∧ (∀ L, L < 256 → subM L lq → PInv T v ib mq N0 (upd gf lf.toNatClampNeg y) (dP T v ib mq nn (mA lq) tn y.toInt pl S) L)))))) ∧ (¬ ((gf lf.toNatClampNeg) < y) → (PRel N0 (dP T v ib mq nn (mA lq) tn y.toInt pl S) gf gb gz ∧ (∀ k, k < tn → go k = go k) ∧ (∀ L, L < 256 → ¬ subM L lq → gf L = gf L) ∧ (∀ L, L < 256 → subM L lq → PInv T v ib mq N0 gf (dP T v ib mq nn (mA lq) tn y.toInt pl S) L)))))) := by
  obtain ⟨hT, hC, hN, hO, hgs, hib, hgm, hmq, rfl, hlq, hnn, rfl, hN0, h6, hy0, hy1, hpl, hgo, hS, hI, hd⟩ := hp
  have t1 := hT.1
  have t2 := hT.2.1
  have hnp : np = nI Np := hC.2.1
  have hq8 : lq < 256 := Nat.lt_of_lt_of_le hlq (Nat.pow_le_pow_right (show 0 < 2 by omega) t2 : 2 ^ Np ≤ 2 ^ 8)
  have el : (nI lq).toNatClampNeg = lq := nI_clamp (by omega)
  have et : (nI tn).toNatClampNeg = tn := nI_clamp (by omega)
  have eli : (nI lq).toInt = (lq : Int) := nI_toInt (by omega)
  have hn0 : ¬ nI lq < 0 := by rw [i_lt eli i32_0]; omega
  have hn1 : ¬ 256 ≤ nI lq := by rw [i_le (show (256 : Int32).toInt = 256 from rfl) eli]; omega
  have hz : nI lq = 0 ↔ lq = 0 := by rw [i_eq eli i32_0]; omega
  have hx6 : nI tn < 6 ↔ tn < 6 := by rw [i_lt (nI_toInt (by omega)) (show (6 : Int32).toInt = 6 from rfl)]; omega
  have vl : vp_in (nI lq) 256 := vp_in_nI (by omega) (by omega)
  simp only [el, et, hz, hx6]
  have etn : N0 - cntA (mA lq) 8 = tn := by omega
  refine ⟨fun h => absurd h hn0, fun _ => ⟨fun h => absurd h hn1, fun _ => ⟨vl, fun hlt => ⟨vl, fun h0 => ?_, fun h0 => ⟨fun ht6 => ?_, fun ht6 => ?_⟩⟩, fun hge => ?_⟩⟩⟩
  · subst h0
    have n0 : nn = 0 := by rw [← hnn]; exact cnt_0
    subst n0
    obtain ⟨r1, r2⟩ := PRel_leaf (pl := pl) (gz2 := va_cpy go gz 0 0 6) hS hy0 hlt (by omega) (fun k hk => by
      rw [← hgo k (by omega)]
      unfold va_cpy
      rw [if_pos (by omega), show 0 + (k - 0) = k by omega])
    rw [dP_zero]
    refine ⟨r1, fun _ _ => trivial, fun L hL hs => ?_, fun L hL hs => ?_⟩
    · by_cases e : L = 0
      · exact absurd (by rw [e]; exact fun q hq => hq) hs
      · rw [upd_ne e]
    · have e := sub_00 hs
      subst e
      refine Or.inr ⟨by rw [upd_at]; exact hy0, fun c hc => ?_⟩
      rw [cnt_0] at hc ⊢
      rw [upd_at, r2]
      exact ⟨_, _, rfl, Int.le_refl _⟩
  · obtain ⟨n, rfl⟩ : ∃ n, nn = n + 1 := ⟨nn - 1, by have := mk_ne0 hq8 h0; omega⟩
    refine ⟨fun fo fz ff fb _ _ z => ∃ q, q ≤ Np ∧ z = nI q ∧ PRel N0 (pF (pH T v ib mq (n + 1) (mA lq) tn y.toInt pl) S 0 (cntA (mA lq) q * fac n)) ff fb fz ∧ (∀ k, k < tn → fo k = go k) ∧ (∀ L, L < 256 → ¬ subM L lq → ff L = gf L) ∧ ff lq = y ∧ (∀ L, L < 256 → subM L lq → L ≠ lq → PInv T v ib mq N0 ff (pF (pH T v ib mq (n + 1) (mA lq) tn y.toInt pl) S 0 (cntA (mA lq) q * fac n)) L), fun _ _ _ _ _ _ z => 9 - z.toNatClampNeg, ⟨0, by omega, rfl, ?_, fun _ _ => rfl, fun L hL hs => ?_, upd_at _ _ _, fun L hL hs hne => ?_⟩, ?_⟩
    · rw [show cntA (mA lq) 0 * fac n = 0 from Nat.zero_mul _]
      exact PRel_keep h0 hS
    · by_cases e : L = lq
      · exact absurd (by rw [e]; exact fun q hq => hq) hs
      · rw [upd_ne e]
    · rw [show cntA (mA lq) 0 * fac n = 0 from Nat.zero_mul _]
      exact (hI L hL hs).mono (upd_ne hne) (fun _ h => h)
    rintro fo fz ff fb s0_ s1_ z ⟨q, hq, rfl, hSq, hfo, hff, hfl, hIq⟩
    have eq1 : nI q + 1 = nI (q + 1) := nI_1 q
    have eqc : (nI q).toNatClampNeg = q := nI_clamp (by omega)
    have eqd : (nI (q + 1)).toNatClampNeg = q + 1 := nI_clamp (by omega)
    have hle : nI Np ≤ nI q ↔ Np ≤ q := nI_leI (by omega) (by omega)
    simp only [hnp, hle, eq1, eqc, eqd]
    refine ⟨fun hge => ?_, fun hge => ?_⟩
    · have e : q = Np := by omega
      subst e
      have hcn : cntA (mA lq) q = n + 1 := by rw [cnt_np hlq t2]; exact hnn
      rw [dP_end hcn] at hSq hIq
      refine ⟨hSq, hfo, hff, fun L hL hs => ?_⟩
      by_cases e : L = lq
      · subst e
        refine Or.inr ⟨by rw [hfl]; exact hy0, fun c hc => ?_⟩
        rw [hnn] at hc ⊢
        rw [hfl, show N0 - (n + 1) = tn by omega]
        exact dP_ge hc
      · exact hIq L hL hs e
    have hq8' : q < 8 := by omega
    rw [mk_tst lq hq8 q hq8']
    refine ⟨fun hb => ?_, fun hb => ?_⟩
    · have ec : cntA (mA lq) (q + 1) = cntA (mA lq) q := cntA_n hb
      refine ⟨⟨q + 1, by omega, rfl, ?_, hfo, hff, hfl, ?_⟩, by omega⟩
      · rw [ec]; exact hSq
      · rw [ec]; exact hIq
    have hbt : lq.testBit q = true := by
      cases u : lq.testBit q with
      | true => rfl
      | false => exact absurd u hb
    have hqn : q < Np := by omega
    refine ⟨vp_in_nI (by omega) (by omega), T, Ns, Np, v, kk, M, ib, mq, tn, q, ⟨hT, by rw [← hnp]; exact hC, hN, hO, hgs, hib, hgm, hmq, rfl, by omega, rfl, hqn, hy0, hy1⟩, fun r _ _ hr => ?_⟩
    have pb := pSt_bd (t := tn) (m := mq) hT hO hqn hib hy0 hy1
    have hcr : cntA (mA (lq - 2 ^ q)) 8 = n := by
      rw [mA_rm hq8 hq8' hbt]
      have := cntA_rm (A := mA lq) hbt hq8'
      omega
    have est := dP_step (T := T) (v := v) (b := ib) (m := mq) (n := n) (t := tn) (h := y.toInt) (pl := pl) (S := S) (A := mA lq) hbt hq8'
    rw [← mA_rm hq8 hq8' hbt, ← hr] at est
    refine ⟨T, Ns, Np, v, kk, M, ib, mq, N0, n, lq - 2 ^ q, tn + 1, pl ++ [q], _, ⟨hT, by rw [← hnp]; exact hC, hN, hO, hgs, hib, hgm, hmq, mk_rmI lq hq8 q hq8' hbt, sub_lt hq8 hq8' hbt hlq, hcr, nI_1 tn, by omega, h6, by omega, by omega, by rw [List.length_append, hpl]; rfl, fun k hk => ?_, hSq, fun L hL hs => ?_, by omega⟩, fun fo2 fz2 ff2 fb2 _ _ h2 => ?_⟩
    · by_cases e : k = tn
      · subst e; rw [upd_at, ← hpl, getD_new]
      · rw [upd_ne e, hfo k (by omega), hgo k (by omega), getD_pre (by omega)]
    · have hs2 := sub_rm hq8 hq8' hbt hs
      exact hIq L hL hs2.1 hs2.2
    · rw [← est] at h2
      obtain ⟨k1, k2, k3, k4⟩ := h2
      have nsub : ∀ L, ¬ subM L lq → ¬ subM L (lq - 2 ^ q) := fun L h z => h (sub_rm hq8 hq8' hbt z).1
      have nself : ¬ subM lq (lq - 2 ^ q) := fun z => (sub_rm hq8 hq8' hbt z).2 rfl
      refine ⟨⟨q + 1, by omega, rfl, k1, fun k hk => ?_, fun L hL hs => ?_, ?_, fun L hL hs hne => ?_⟩, by omega⟩
      · rw [k2 k (by omega), upd_ne (by omega), hfo k hk]
      · rw [k3 L hL (nsub L hs), hff L hL hs]
      · rw [k3 lq hq8 nself, hfl]
      · by_cases u : subM L (lq - 2 ^ q)
        · exact k4 L hL u
        · refine (hIq L hL hs hne).mono (k3 L hL u) (fun x hx => ?_)
          rw [est]
          exact leS_pF hx _
  · have := mk_ne0 hq8 h0
    omega
  · have hg : ¬ gf lq = -1 := fun z => hge (by rw [z, i_lt (show (-1 : Int32).toInt = -1 from rfl) rfl]; omega)
    have hil := (hI lq hq8 (fun q hq => hq)).resolve_left hg
    rw [hnn, show N0 - nn = tn by omega] at hil
    have hle : y.toInt ≤ (gf lq).toInt := by
      have := mt (i_lt (a := gf lq) (b := y) rfl rfl).mpr hge
      omega
    have e : dP T v ib mq nn (mA lq) tn y.toInt pl S = S := dP_no fun c hc => leS_mono (hil.2 c hc) (heatL_mono _ _ hle)
    rw [e]
    exact ⟨hS, fun _ _ => trivial, fun _ _ _ => trivial, hI⟩

theorem v_X2_search (l : Launch) (G : Gt) (g g1 g2 g3 s0 t t1 t2 t3 t4 t5 t6 n n1 n2 n3 n4 n5 n6 n7 : Nat) (sz : Nat) (gs : Int32) (gm : Int32) (gb : Int32) (go : Nat → Int32) (gz : Nat → Int32) (gf : Nat → Int32) (sw : Int32) (sh : Int32) (ns : Int32) (np : Int32) (fu : Int32) (fd : Int32) (fi : Int32) (sz_ : Nat → Int32) (pt : Nat → Int32) (fh : Nat → Int32) (kd : Nat → Int32) (nd : Nat → Int32) (fw : Nat → Int32) (ht : Nat → Int32) (wm : Nat → Int32) (se : Nat → Int32) (cd : Nat → Int32) (sl : Nat → Int32) (od : Nat → Int32) (ow : Nat → Int32) (lo : Int32) (mi : Int32) (sd : Int32) (x : Int32) (y : Int32) (z : Int32) (T : Nat → Nat → Int) (Ns : Nat) (Np : Nat) (v : Nat → Int) (kk : Nat → Int) (M : Int) (ib : Nat) (mq : Nat) (N0 : Nat) (lq : Nat) (hp : TOK T Ns Np ∧ CT T Ns Np ns np fu fd fi sz_ pt kd nd ∧ CN Ns Np v ht wm se cd sl od ow lo mi sd ∧ NOK T Ns Np kk M v ∧ x = nI ib ∧ ib < Ns ∧ z = nI mq ∧ mq ≤ 60 ∧ y = nI lq ∧ lq < 2 ^ Np ∧ cntA (mA lq) 8 = N0 ∧ N0 ≤ 6) : ∃ (I14_3 : (Nat → Int32) → Int32 → Prop) (μ14_4 : (Nat → Int32) → Int32 → Nat), I14_3 gf 0 ∧ (∀ (fg3_1 : (Nat → Int32)) (x6_2 : Int32), I14_3 fg3_1 x6_2 → (256 ≤ x6_2 → (vp_in x 9) ∧ (∃ (gT_8 : Nat → Nat → Int) (gNs_9 : Nat) (gNp_10 : Nat) (gv_11 : Nat → Int) (gkk_12 : Nat → Int) (gM_13 : Int) (gib_14 : Nat) (gmq_15 : Nat) (gN0_16 : Nat) (gnn_17 : Nat) (glq_18 : Nat) (gtn_19 : Nat) (gpl_20 : List Nat) (gS_21 : Option (Int × List Nat)), ((TOK gT_8 gNs_9 gNp_10 ∧ CT gT_8 gNs_9 gNp_10 ns np fu fd fi sz_ pt kd nd ∧ CN gNs_9 gNp_10 gv_11 ht wm se cd sl od ow lo mi sd ∧ NOK gT_8 gNs_9 gNp_10 gkk_12 gM_13 gv_11 ∧ x = nI gib_14 ∧ gib_14 < gNs_9 ∧ z = nI gmq_15 ∧ gmq_15 ≤ 60 ∧ y = nI glq_18 ∧ glq_18 < 2 ^ gNp_10 ∧ cntA (mA glq_18) 8 = gnn_17 ∧ (0 : Int32) = nI gtn_19 ∧ gtn_19 + gnn_17 = gN0_16 ∧ gN0_16 ≤ 6 ∧ 0 ≤ (ht x.toNatClampNeg).toInt ∧ (ht x.toNatClampNeg).toInt ≤ gT_8 0 gib_14 ∧ gpl_20.length = gtn_19 ∧ (∀ k, k < gtn_19 → go k = nI (gpl_20.getD k 0)) ∧ PRel gN0_16 gS_21 fg3_1 gb gz ∧ (∀ L, L < 256 → subM L glq_18 → PInv gT_8 gv_11 gib_14 gmq_15 gN0_16 fg3_1 gS_21 L) ∧ gnn_17 < 7) ∧ (∀ (go2_23 : Nat → Int32) (gz2_24 : Nat → Int32) (gf2_25 : Nat → Int32) (gb2_26 : Int32) (sw2_27 : Int32) (sh2_28 : Int32), ((PRel gN0_16 (dP gT_8 gv_11 gib_14 gmq_15 gnn_17 (mA glq_18) gtn_19 (ht x.toNatClampNeg).toInt gpl_20 gS_21) gf2_25 gb2_26 gz2_24 ∧ (∀ k, k < gtn_19 → go2_23 k = go k) ∧ (∀ L, L < 256 → ¬ subM L glq_18 → gf2_25 L = fg3_1 L) ∧ (∀ L, L < 256 → subM L glq_18 → PInv gT_8 gv_11 gib_14 gmq_15 gN0_16 gf2_25 (dP gT_8 gv_11 gib_14 gmq_15 gnn_17 (mA glq_18) gtn_19 (ht x.toNatClampNeg).toInt gpl_20 gS_21) L))) → (PRel N0 (dP T v ib mq N0 (mA lq) 0 (v ib) [] none) gf2_25 gb2_26 gz2_24))))) ∧ (¬ (256 ≤ x6_2) → (vp_in x6_2 256) ∧ (I14_3 (upd fg3_1 x6_2.toNatClampNeg (-1)) (x6_2 + 1) ∧ μ14_4 (upd fg3_1 x6_2.toNatClampNeg (-1)) (x6_2 + 1) < μ14_4 fg3_1 x6_2))) := by
  obtain ⟨hT, hC, hN, hO, rfl, hib, rfl, hmq, rfl, hlq, hnn, h6⟩ := hp
  have t1 := hT.1
  have t2 := hT.2.1
  have eb : (nI ib).toNatClampNeg = ib := nI_clamp (by omega)
  have eh := hN.h t1 hib
  have bh := hO.1 ib hib
  refine ⟨fun f z => ∃ i, i ≤ 256 ∧ z = nI i ∧ ∀ j, j < i → f j = -1, fun _ z => 257 - z.toNatClampNeg, ⟨0, by omega, rfl, fun j hj => absurd hj (Nat.not_lt_zero _)⟩, ?_⟩
  rintro f z ⟨i, hi, rfl, hf⟩
  have ei : (nI i).toNatClampNeg = i := nI_clamp (by omega)
  have ei1 : nI i + 1 = nI (i + 1) := nI_1 i
  have ej : (nI (i + 1)).toNatClampNeg = i + 1 := nI_clamp (by omega)
  have hle : 256 ≤ nI i ↔ 256 ≤ i := nI_leI (a := 256) (by omega) (by omega)
  simp only [ei, ei1, ej, hle, eb]
  refine ⟨fun q => ⟨vp_in_nI (by omega) (by omega), T, Ns, Np, v, kk, M, ib, mq, N0, N0, lq, 0, [], none, ⟨hT, hC, hN, hO, rfl, hib, rfl, hmq, rfl, hlq, hnn, rfl, by omega, h6, by omega, by omega, rfl, fun k hk => absurd hk (Nat.not_lt_zero _), hf 0 (by omega), fun L hL _ => Or.inl (hf L (by omega)), by omega⟩, fun _ gz2 gf2 gb2 _ _ h2 => ?_⟩, fun q => ⟨vp_in_nI (by omega) (by omega), ⟨i + 1, by omega, rfl, fun j hj => ?_⟩, by omega⟩⟩
  · have h3 := h2.1
    rw [eh] at h3
    exact h3
  · by_cases e : j = i
    · subst e; rw [upd_at]
    · rw [upd_ne e]; exact hf j (by omega)
