theorem v_X8_layOrder (l : Launch) (G : Gt) (m0 m1 m2 m3 m4 m5 m6 m7 m8 m9 m10 m11 m12 m13 m14 : Nat) (sz : Nat) (mw : Nat → Int64) (ik : Nat → Int32) (zs : Nat → Int32) (cl : Nat → Int32) (hs : Nat → Int32) (ks : Nat → Int32) (wa : Nat → Int32) (ne : Nat → Int32) (mn : Nat → Int32) (tx : Nat → Int32) (th : Nat → Int32) (od : Nat → Int32) (bk : Nat → Int32) (bh : Nat → Int32) (fu : Int32) (fd : Int32) (fi : Int32) (nu : Int32) (nw : Int32) (nf : Int32) (bf : Int32) (bn : Int32) (ts : Int32) (ap : Int32) (fs : Int32) (ln : Int32) (fo : Int32) (fa : Int32) (wr : Int32) (x : Int32) (y : Int32) (cq : Nat) (nq : Nat) (Av : Nat → Bool) (hp : x = nI cq ∧ y = nI nq ∧ 1 ≤ nq ∧ nq ≤ 6 ∧ cq < fac nq ∧ cntA Av 8 = nq ∧ (∀ i, i < nq → th i = nI (nthA Av i 8))) : ∃ (I11_3 : Int32 → Int32 → Prop) (μ11_4 : Int32 → Int32 → Nat), I11_3 1 2 ∧ (∀ (x5_1 : Int32) (x6_2 : Int32), I11_3 x5_1 x6_2 → (y ≤ x6_2 → ∃ (I33_13 : (Nat → Int32) → Int32 → Int32 → Int32 → Int32 → Prop) (μ33_14 : (Nat → Int32) → Int32 → Int32 → Int32 → Int32 → Nat), I33_13 od 0 x x5_1 0 ∧ (∀ (fm12_8 : (Nat → Int32)) (x3_9 : Int32) (x4_10 : Int32) (x5_11 : Int32) (x6_12 : Int32), I33_13 fm12_8 x3_9 x4_10 x5_11 x6_12 → (y ≤ x6_12 → (∀ k, k < nq → fm12_8 k = nI ((ordL nq Av cq).getD k 0))) ∧ (¬ (y ≤ x6_12) → (¬ x5_11 = 0) ∧ (∀ (y_18 : Int32), (y_18 = (x4_10 / x5_11)) → ((¬ x5_11 = 0) ∧ (∀ (y_19 : Int32), (y_19 = (x4_10 - x4_10 / x5_11 * x5_11)) → (∃ (J75_21 : Int32 → Prop), ((((y - 1) - x6_12) ≤ 0 → J75_21 1) ∧ (¬ (((y - 1) - x6_12) ≤ 0) → (¬ ((y - 1) - x6_12) = 0) ∧ (J75_21 (x5_11 / ((y - 1) - x6_12))))) ∧ (∀ (t0_20 : Int32), J75_21 t0_20 → ∃ (I80_26 : Int32 → Int32 → Prop) (μ80_27 : Int32 → Int32 → Nat), I80_26 y_18 0 ∧ (∀ (x7_24 : Int32) (x8_25 : Int32), I80_26 x7_24 x8_25 → (((x3_9 >>> (x8_25 &&& 31)) &&& 1) = 1 → ∃ (J111_32 : Int32 → Prop), ((¬ ((x3_9 >>> (x8_25 &&& 31)) &&& 1) = 0 → J111_32 0) ∧ (((x3_9 >>> (x8_25 &&& 31)) &&& 1) = 0 → J111_32 1)) ∧ (∀ (t0_31 : Int32), J111_32 t0_31 → ∀ (y_36 : Int32), (y_36 = (x7_24 - (if t0_31 = 0 then 0 else 1))) → (I80_26 y_36 (x8_25 + 1) ∧ μ80_27 y_36 (x8_25 + 1) < μ80_27 x7_24 x8_25))) ∧ (¬ (((x3_9 >>> (x8_25 &&& 31)) &&& 1) = 1) → (x7_24 ≤ 0 → ∀ (y_39 : Int32), (y_39 = (x3_9 ||| ((1 : Int32) <<< (x8_25 &&& 31)))) → ((vp_in x8_25 6) ∧ ((vp_in x6_12 6) ∧ (∀ (fm12_40 : (Nat → Int32)), (fm12_40 = (upd fm12_8 x6_12.toNatClampNeg (th x8_25.toNatClampNeg))) → (I33_13 fm12_40 y_39 y_19 t0_20 (x6_12 + 1) ∧ μ33_14 fm12_40 y_39 y_19 t0_20 (x6_12 + 1) < μ33_14 fm12_8 x3_9 x4_10 x5_11 x6_12))))) ∧ (¬ (x7_24 ≤ 0) → ∃ (J111_42 : Int32 → Prop), ((¬ ((x3_9 >>> (x8_25 &&& 31)) &&& 1) = 0 → J111_42 0) ∧ (((x3_9 >>> (x8_25 &&& 31)) &&& 1) = 0 → J111_42 1)) ∧ (∀ (t0_41 : Int32), J111_42 t0_41 → ∀ (y_46 : Int32), (y_46 = (x7_24 - (if t0_41 = 0 then 0 else 1))) → (I80_26 y_46 (x8_25 + 1) ∧ μ80_27 y_46 (x8_25 + 1) < μ80_27 x7_24 x8_25))))))))))))) ∧ (¬ (y ≤ x6_2) → ∀ (y_55 : Int32), (y_55 = (x5_1 * x6_2)) → (I11_3 y_55 (x6_2 + 1) ∧ μ11_4 y_55 (x6_2 + 1) < μ11_4 x5_1 x6_2))) := by
  obtain ⟨rfl, rfl, hn1, hn6, hc, hA, hth⟩ := hp
  have f8 : ∀ k, k ≤ 8 → fac k < 2147483648 := fun k hk => by have := fac_le k hk; omega
  have eni : (nI nq).toInt = (nq : Int) := nI_toInt (by omega)
  refine ⟨fun a z => ∃ k, 2 ≤ k ∧ (k ≤ nq ∨ k = 2) ∧ z = nI k ∧ a = nI (fac (k - 1)), fun _ z => 9 - z.toNatClampNeg, ⟨2, by omega, Or.inr rfl, rfl, rfl⟩, ?_⟩
  rintro a z ⟨k, hk2, hk, rfl, rfl⟩
  have ek : (nI k).toNatClampNeg = k := nI_clamp (by omega)
  have ek1 : nI k + 1 = nI (k + 1) := nI_1 k
  have ek2 : (nI (k + 1)).toNatClampNeg = k + 1 := nI_clamp (by omega)
  have hle : nI nq ≤ nI k ↔ nq ≤ k := nI_leI (by omega) (by omega)
  simp only [ek, ek1, ek2, hle]
  refine ⟨fun q => ?_, fun q y ey => ⟨⟨k + 1, by omega, by omega, rfl, by rw [ey, pk_mul, show k + 1 - 1 = k by omega, fac_s (k := k) (by omega)]⟩, by omega⟩⟩
  have eL : fac (k - 1) = fac (nq - 1) := by
    by_cases e : nq = 1
    · rw [e, show k = 2 by omega]; rfl
    · rw [show k = nq by omega]
  rw [eL]
  refine ⟨fun f us rs lf z => ∃ k, k ≤ nq ∧ z = nI k ∧ lf = nI (fac (nq - 1 - k)) ∧ ∃ (B : Nat → Bool) (c : Nat) (pre : List Nat), rs = nI c ∧ c < fac (nq - k) ∧ cntA B 8 = nq - k ∧ (∀ q, B q = true → Av q = true) ∧ ordL nq Av cq = pre ++ ordL (nq - k) B c ∧ pre.length = k ∧ (∀ j, j < k → f j = nI (pre.getD j 0)) ∧ (∀ i, i < nq → bt us i = !B (nthA Av i 8)), fun _ _ _ _ z => 9 - z.toNatClampNeg, ⟨0, by omega, rfl, rfl, Av, cq, [], rfl, hc, hA, fun _ h => h, rfl, rfl, fun j hj => absurd hj (Nat.not_lt_zero _), fun i hi => by rw [b_0, (nthA_ok (A := Av) (s := i) (N := 8) (by omega)).1]; rfl⟩, ?_⟩
  clear hk2 hk ek ek1 ek2 hle q eL
  rintro f us rs lf z ⟨k, hk, rfl, rfl, B, c, pre, rfl, hcB, hB, hsub, hord, hpl, hf, hus⟩
  have ek : (nI k).toNatClampNeg = k := nI_clamp (by omega)
  have ek1 : nI k + 1 = nI (k + 1) := nI_1 k
  have ek2 : (nI (k + 1)).toNatClampNeg = k + 1 := nI_clamp (by omega)
  have hle : nI nq ≤ nI k ↔ nq ≤ k := nI_leI (by omega) (by omega)
  simp only [ek, ek1, ek2, hle]
  have hFp := fac_pos (nq - 1 - k)
  have hF := f8 (nq - 1 - k) (by omega)
  have hcl : c < 2147483648 := Nat.lt_trans hcB (f8 (nq - k) (by omega))
  refine ⟨fun q => ?_, fun q => ⟨nI_n0 hFp hF, fun y1 ey1 => ⟨nI_n0 hFp hF, fun y2 ey2 => ?_⟩⟩⟩
  · have e : k = nq := by omega
    subst e
    rw [hord, Nat.sub_self]
    intro j hj
    rw [hf j hj, ordL, List.append_nil]
  rw [nI_div hcl hFp hF] at ey1
  rw [nI_rem hcl hFp hF] at ey2
  subst ey1 ey2
  obtain ⟨n, hn⟩ : ∃ n, nq - k = n + 1 := ⟨nq - k - 1, by omega⟩
  have hn' : nq - 1 - k = n := by omega
  rw [hn'] at hFp hF ⊢
  rw [hn] at hcB hB hord
  have hs0 : c / fac n < cntA B 8 := by
    rw [hB, Nat.div_lt_iff_lt_mul hFp]; exact hcB
  have e1 : (nI nq - 1 - nI k).toInt = (n : Int) := by
    rw [i_sub (i_sub eni i32_1 (by omega) (by omega)) (nI_toInt (by omega)) (by omega) (by omega)]; omega
  have e2 : nI nq - 1 - nI k = nI n := by rw [← Int32.toInt_inj, e1, nI_toInt (by omega)]
  rw [e2]
  have hn0 : nI n ≤ 0 ↔ n = 0 := by rw [i_le (nI_toInt (by omega)) i32_0]; omega
  rw [hn0]
  refine ⟨fun t => t = nI (fac (nq - 1 - (k + 1))), ⟨fun h => ?_, fun h => ⟨nI_n0 (by omega) (by omega), ?_⟩⟩, fun t ht => ?_⟩
  · rw [show nq - 1 - (k + 1) = 0 by omega]; rfl
  · rw [nI_div hF (by omega) (by omega), show nq - 1 - (k + 1) = n - 1 by omega, fac_s (k := n) (by omega), Nat.mul_div_cancel _ (by omega)]
  subst ht
  generalize hs : c / fac n = s0 at hs0
  have hs8 : s0 < 8 := Nat.lt_of_lt_of_le hs0 (cntA_le 8)
  refine ⟨fun sk z => ∃ i, i < nq ∧ z = nI i ∧ cntA B (nthA Av i 8) ≤ s0 ∧ sk = nI (s0 - cntA B (nthA Av i 8)), fun _ z => 9 - z.toNatClampNeg, ⟨0, by omega, rfl, ?_, ?_⟩, ?_⟩
  · rw [gI_0 hA hsub (by omega)]; exact Nat.zero_le _
  · rw [gI_0 hA hsub (by omega)]; rfl
  rintro sk z ⟨i, hi, rfl, hcn, rfl⟩
  have ei : (nI i).toNatClampNeg = i := nI_clamp (by omega)
  have ei1 : nI i + 1 = nI (i + 1) := nI_1 i
  have ei2 : (nI (i + 1)).toNatClampNeg = i + 1 := nI_clamp (by omega)
  simp only [ei, ei1, ei2]
  rw [and1, b_test _ (show i < 32 by omega), hus i hi]
  obtain ⟨a1, a2, a3⟩ := nthA_ok (A := Av) (s := i) (N := 8) (by omega)
  have hskI : (nI (s0 - cntA B (nthA Av i 8))).toInt = ((s0 - cntA B (nthA Av i 8) : Nat) : Int) := nI_toInt (by omega)
  have hsk0 : nI (s0 - cntA B (nthA Av i 8)) ≤ 0 ↔ s0 - cntA B (nthA Av i 8) = 0 := by rw [i_le hskI i32_0]; omega
  refine ⟨fun hu => ?_, fun hu => ⟨fun h0 => ?_, fun h0 => ?_⟩⟩
  · have hBf : B (nthA Av i 8) = false := by
      cases u : B (nthA Av i 8) with
      | false => rfl
      | true => rw [u] at hu; exact absurd rfl hu
    obtain ⟨g1, g2⟩ := gI_next hA hsub hi (by rw [cntA_n hBf]; exact hcn) hs0
    rw [cntA_n hBf] at g2
    refine ⟨fun t => t = 0, ⟨fun _ => rfl, fun z => absurd z hu⟩, fun t ht y ey => ⟨⟨i + 1, g1, rfl, by omega, ?_⟩, by omega⟩⟩
    subst ht
    rw [ey, g2, if_pos rfl]
    exact Int32.sub_zero _
  · have hBt : B (nthA Av i 8) = true := by
      cases u : B (nthA Av i 8) with
      | true => rfl
      | false => rw [u] at hu; exact absurd (fun z => absurd z (by decide)) hu
    have hz := hsk0.mp h0
    have ex : nthA B s0 8 = nthA Av i 8 := nthA_eq hBt (by omega) a3
    intro y ey
    refine ⟨vp_in_nI (by omega) (by omega), vp_in_nI (by omega) (by omega), fun f2 ef2 => ⟨⟨k + 1, by omega, rfl, rfl, rmA B (nthA Av i 8), c % fac n, pre ++ [nthA Av i 8], rfl, ?_, ?_, fun q hq => hsub q (rmA_sub hq), ?_, ?_, fun j hj => ?_, fun j hj => ?_⟩, by omega⟩⟩
    · rw [show nq - (k + 1) = n by omega]; exact Nat.mod_lt _ hFp
    · have := cntA_rm hBt a3
      omega
    · rw [hord, ordL, hs, ex, show nq - (k + 1) = n by omega, List.append_assoc]; rfl
    · rw [List.length_append, hpl]; rfl
    · rw [ef2]
      by_cases e : j = k
      · subst e; rw [upd_at, hth i hi, ← hpl, getD_new]
      · rw [upd_ne e, hf j (by omega), getD_pre (by omega)]
    · rw [ey, b_set _ (by omega) (by omega), hus j hj]
      by_cases e : j = i
      · subst e; rw [rmA_at, decide_eq_true rfl, Bool.or_true]; rfl
      · rw [rmA_ne (fun z => e (gI_inj hA hj hi z)), decide_eq_false e, Bool.or_false]
  · have hBt : B (nthA Av i 8) = true := by
      cases u : B (nthA Av i 8) with
      | true => rfl
      | false => rw [u] at hu; exact absurd (fun z => absurd z (by decide)) hu
    have hz : ¬ s0 - cntA B (nthA Av i 8) = 0 := fun z => h0 (hsk0.mpr z)
    obtain ⟨g1, g2⟩ := gI_next hA hsub hi (by rw [cntA_y hBt]; omega) hs0
    rw [cntA_y hBt] at g2
    refine ⟨fun t => t = 1, ⟨fun z => absurd (by rw [hBt]; rfl) z, fun _ => rfl⟩, fun t ht y ey => ⟨⟨i + 1, g1, rfl, by omega, ?_⟩, by omega⟩⟩
    subst ht
    rw [ey, g2, if_neg (by decide), nm_s (by omega) hz, Nat.sub_sub]

theorem v_X8_heatBy (l : Launch) (G : Gt) (m0 m1 m2 m3 m4 m5 m6 m7 m8 m9 m10 m11 m12 m13 m14 : Nat) (sz : Nat) (mw : Nat → Int64) (ik : Nat → Int32) (zs : Nat → Int32) (cl : Nat → Int32) (hs : Nat → Int32) (ks : Nat → Int32) (wa : Nat → Int32) (ne : Nat → Int32) (mn : Nat → Int32) (tx : Nat → Int32) (th : Nat → Int32) (od : Nat → Int32) (bk : Nat → Int32) (bh : Nat → Int32) (fu : Int32) (fd : Int32) (fi : Int32) (nu : Int32) (nw : Int32) (nf : Int32) (bf : Int32) (bn : Int32) (ts : Int32) (ap : Int32) (fs : Int32) (ln : Int32) (fo : Int32) (fa : Int32) (wr : Int32) (x : Int32) (y : Int32) (z : Int32) (T : Nat → Nat → Int) (Ns : Nat) (Np : Nat) (v : Nat → Int) (M : Int) (ib : Nat) (mq : Nat) (nq : Nat) (ol : List Nat) (hp : TOK T Ns Np ∧ MT T Ns Np fu fd fi zs cl ks ne mn ∧ MR 0 mw v ∧ NOK T Ns Np (fun _ => 2 * M) M v ∧ M ≤ 900000 ∧ x = nI ib ∧ ib < Ns ∧ y = nI mq ∧ mq ≤ 60 ∧ z = nI nq ∧ nq ≤ 6 ∧ ol.length = nq ∧ (∀ k, k < nq → od k = nI (ol.getD k 0) ∧ ol.getD k 0 < Np) ∧ (∀ i k, i < k → k < nq → ol.getD i 0 ≠ ol.getD k 0)) : ∃ (gv_1 : Nat → Int), ((MR 0 mw gv_1) ∧ (∀ (mw2_3 : Nat → Int64), (MR 140 mw2_3 (zUp gv_1) ∧ MF 140 mw mw2_3) → (∃ (I7_6 : (Nat → Int64) → Int32 → Prop) (μ7_7 : (Nat → Int64) → Int32 → Nat), I7_6 mw2_3 0 ∧ (∀ (fm1_4 : (Nat → Int64)) (x4_5 : Int32), I7_6 fm1_4 x4_5 → (z ≤ x4_5 → (vp_in (140 + x) 560) ∧ ((fm1_4 (140 + x).toNatClampNeg).toInt = heatL T v ib mq 0 (v ib) ol ∧ MF 140 mw fm1_4)) ∧ (¬ (z ≤ x4_5) → (vp_in x4_5 6) ∧ ((vp_in (160 + (od x4_5.toNatClampNeg)) 560) ∧ (∀ (fm1_11 : (Nat → Int64)), (fm1_11 = (vp_updL fm1_4 ((160 + (od x4_5.toNatClampNeg)).toNatClampNeg) x.toInt64)) → (∃ (I34_14 : (Nat → Int64) → Int32 → Prop) (μ34_15 : (Nat → Int64) → Int32 → Nat), I34_14 fm1_11 0 ∧ (∀ (fm1_12 : (Nat → Int64)) (x5_13 : Int32), I34_14 fm1_12 x5_13 → (y ≤ x5_13 → (vp_in x4_5 6) ∧ ((vp_in (160 + (od x4_5.toNatClampNeg)) 560) ∧ (∀ (fm1_19 : (Nat → Int64)), (fm1_19 = (vp_updL fm1_12 ((160 + (od x4_5.toNatClampNeg)).toNatClampNeg) (-1))) → (I7_6 fm1_19 (x4_5 + 1) ∧ μ7_7 fm1_19 (x4_5 + 1) < μ7_7 fm1_4 x4_5)))) ∧ (¬ (y ≤ x5_13) → ∃ (gT_20 : Nat → Nat → Int) (gNs_21 : Nat) (gNp_22 : Nat) (gX_23 : Nat) (gv_24 : Nat → Int) (gM_25 : Int), ((TOK gT_20 gNs_21 gNp_22 ∧ MT gT_20 gNs_21 gNp_22 fu fd fi zs cl ks ne mn ∧ (140 : Int32) = nI gX_23 ∧ gX_23 + 140 ≤ 560 ∧ MR gX_23 fm1_12 gv_24 ∧ NOK gT_20 gNs_21 gNp_22 (fun _ => 2 * gM_25) gM_25 gv_24 ∧ gM_25 ≤ 1000000) ∧ (∀ (r_26 : Int32) (mw2_27 : Nat → Int64), (r_26 = nI (zCs gT_20 (zPass gT_20 gNs_21 gNp_22 gv_24) gNp_22) ∧ MR gX_23 mw2_27 (zPass gT_20 gNs_21 gNp_22 gv_24) ∧ MF gX_23 fm1_12 mw2_27) → (I34_14 mw2_27 (x5_13 + 1) ∧ μ34_15 mw2_27 (x5_13 + 1) < μ34_15 fm1_12 x5_13))))))))))))) := by
  obtain ⟨hT, hC, hR, hO, hM, rfl, hib, rfl, hmq, rfl, hnq, hol, hod, hdis⟩ := hp
  have t1 := hT.1
  have t2 := hT.2.1
  have rok := hRw_ok (m := mq) hT hO hib hol (fun k hk => (hod k hk).2) hdis
  have eb : 140 + nI ib = nI (140 + ib) := ix1 140 ib
  have cb : (nI (140 + ib)).toNatClampNeg = 140 + ib := nI_clamp (by omega)
  have vb : vp_in (nI (140 + ib)) 560 := vp_in_nI (by omega) (by omega)
  have elb : (nI ib).toInt64.toInt = (ib : Int) := i_l (nI_toInt (by omega))
  refine ⟨v, hR, fun w1 hw1 => ?_⟩
  refine ⟨fun w z => ∃ k, k ≤ nq ∧ z = nI k ∧ MR 140 w (hRw T Ns Np v ib mq ol k) ∧ MF 140 mw w, fun _ z => 9 - z.toNatClampNeg, ⟨0, by omega, rfl, hw1.1, hw1.2⟩, ?_⟩
  rintro w z ⟨k, hk, rfl, hRk, hFk⟩
  have ek : (nI k).toNatClampNeg = k := nI_clamp (by omega)
  have ek1 : nI k + 1 = nI (k + 1) := nI_1 k
  have ek2 : (nI (k + 1)).toNatClampNeg = k + 1 := nI_clamp (by omega)
  have hle : nI nq ≤ nI k ↔ nq ≤ k := nI_leI (by omega) (by omega)
  simp only [ek, ek1, ek2, hle, eb, cb]
  obtain ⟨r1, r2, r3, -⟩ := rok k hk
  refine ⟨fun q => ⟨vb, ?_, hFk⟩, fun q => ?_⟩
  · have e : k = nq := by omega
    subst e
    rw [hRk ib (by omega), r3, ← hol, List.take_length]
  have hx := hod k (by omega)
  have v6 : vp_in (nI k) 6 := vp_in_nI (by omega) (by omega)
  rw [hx.1]
  have hxp := hx.2
  obtain ⟨x, ex⟩ : ∃ x, ol.getD k 0 = x := ⟨_, rfl⟩
  rw [ex] at hxp ⊢
  have e160 : 160 + nI x = nI (160 + x) := ix1 160 x
  have c160 : (nI (160 + x)).toNatClampNeg = 140 + (20 + x) := by rw [nI_clamp (by omega)]; omega
  have v160 : vp_in (nI (160 + x)) 560 := vp_in_nI (by omega) (by omega)
  simp only [e160, c160]
  have n2 := hRw_seat hT hib hxp r1 r2
  have hkm : k * mq ≤ 6 * 60 := Nat.mul_le_mul (by omega) hmq
  refine ⟨v6, v160, fun w2 ew2 => ?_⟩
  have hR2 : MR 140 w2 (uz (hRw T Ns Np v ib mq ol k) (20 + x) (ib : Int)) := by rw [ew2]; exact hRk.up elb
  have hF2 : MF 140 mw w2 := by rw [ew2]; exact hFk.up (by omega)
  refine ⟨fun w z => ∃ t, t ≤ mq ∧ z = nI t ∧ MR 140 w (zGo T Ns Np (uz (hRw T Ns Np v ib mq ol k) (20 + x) (ib : Int)) t) ∧ MF 140 mw w, fun _ z => 61 - z.toNatClampNeg, ⟨0, by omega, rfl, hR2, hF2⟩, ?_⟩
  rintro w3 z ⟨t, ht, rfl, hR3, hF3⟩
  have et : (nI t).toNatClampNeg = t := nI_clamp (by omega)
  have et1 : nI t + 1 = nI (t + 1) := nI_1 t
  have et2 : (nI (t + 1)).toNatClampNeg = t + 1 := nI_clamp (by omega)
  have hlt : nI mq ≤ nI t ↔ mq ≤ t := nI_leI (by omega) (by omega)
  simp only [et, et1, et2, hlt]
  refine ⟨fun q2 => ⟨v6, v160, fun w4 ew4 => ⟨⟨k + 1, by omega, rfl, ?_, ?_⟩, by omega⟩⟩, fun q2 => ⟨T, Ns, Np, 140, _, _, ⟨hT, hC, rfl, by omega, hR3, zGo_ok hT n2 t, by omega⟩, fun r w5 hw5 => ⟨⟨t + 1, by omega, rfl, hw5.2.1, hF3.tr hw5.2.2⟩, by omega⟩⟩⟩
  · have e : t = mq := by omega
    subst e
    rw [ew4, hRw, ex]
    exact hR3.up rfl
  · rw [ew4]; exact hF3.up (by omega)

theorem v_X8_passed (l : Launch) (G : Gt) (m0 m1 m2 m3 m4 m5 m6 m7 m8 m9 m10 m11 m12 m13 m14 : Nat) (sz : Nat) (mw : Nat → Int64) (ik : Nat → Int32) (zs : Nat → Int32) (cl : Nat → Int32) (hs : Nat → Int32) (ks : Nat → Int32) (wa : Nat → Int32) (ne : Nat → Int32) (mn : Nat → Int32) (tx : Nat → Int32) (th : Nat → Int32) (od : Nat → Int32) (bk : Nat → Int32) (bh : Nat → Int32) (fu : Int32) (fd : Int32) (fi : Int32) (nu : Int32) (nw : Int32) (nf : Int32) (bf : Int32) (bn : Int32) (ts : Int32) (ap : Int32) (fs : Int32) (ln : Int32) (fo : Int32) (fa : Int32) (wr : Int32) (x : Int32) (y : Int32) (z : Int32) (u_ : Int32) (T : Nat → Nat → Int) (Ns : Nat) (Np : Nat) (v : Nat → Int) (M : Int) (hp : TOK T Ns Np ∧ MT T Ns Np fu fd fi zs cl ks ne mn ∧ MR 0 mw v ∧ NOK T Ns Np (fun _ => 2 * M) M v ∧ M ≤ 900000) : (¬ (inR x (mn 0)) → ((-1000000001) : Int32).toInt = aPassed T Ns Np v x.toInt y.toInt z.toInt u_.toInt ∧ MF 140 mw mw) ∧ (inR x (mn 0) → (¬ y.toInt64 < 0 ∧ ¬ ((((1 : Int32) <<< ((mn 1) &&& 31)) - 1).toInt64) < y.toInt64 → ∃ (I40_9 : (Nat → Int32) → Int32 → Int32 → Int32 → Prop) (μ40_10 : (Nat → Int32) → Int32 → Int32 → Int32 → Nat), I40_9 th 0 1 0 ∧ (∀ (fm11_5 : (Nat → Int32)) (x5_6 : Int32) (x6_7 : Int32) (x7_8 : Int32), I40_9 fm11_5 x5_6 x6_7 x7_8 → ((mn 1) ≤ x7_8 → (¬ (¬ z.toInt64 < 1 ∧ ¬ 60 < z.toInt64) → ((-1000000002) : Int32).toInt = aPassed T Ns Np v x.toInt y.toInt z.toInt u_.toInt ∧ MF 140 mw mw) ∧ (¬ z.toInt64 < 1 ∧ ¬ 60 < z.toInt64 → (¬ (¬ x5_6.toInt64 < 1 ∧ ¬ 6 < x5_6.toInt64) → ((-1000000002) : Int32).toInt = aPassed T Ns Np v x.toInt y.toInt z.toInt u_.toInt ∧ MF 140 mw mw) ∧ (¬ x5_6.toInt64 < 1 ∧ ¬ 6 < x5_6.toInt64 → (¬ u_.toInt64 < 0 ∧ ¬ x5_6.toInt64 < u_.toInt64 → ∃ (I143_25 : (Nat → Int64) → (Nat → Int32) → Int32 → Int32 → Int64 → Prop) (μ143_26 : (Nat → Int64) → (Nat → Int32) → Int32 → Int32 → Int64 → Nat), I143_25 mw od 0 (-1) 0 ∧ (∀ (fm1_20 : (Nat → Int64)) (fm12_21 : (Nat → Int32)) (x10_22 : Int32) (x7_23 : Int32) (x8_24 : Int64), I143_25 fm1_20 fm12_21 x10_22 x7_23 x8_24 → (x6_7 ≤ x10_22 → ∃ (gcq_30 : Nat) (gnq_31 : Nat) (gAv_32 : Nat → Bool), ((x7_23 = nI gcq_30 ∧ x5_6 = nI gnq_31 ∧ 1 ≤ gnq_31 ∧ gnq_31 ≤ 6 ∧ gcq_30 < fac gnq_31 ∧ cntA gAv_32 8 = gnq_31 ∧ (∀ i, i < gnq_31 → fm11_5 i = nI (nthA gAv_32 i 8))) ∧ (∀ (od2_34 : Nat → Int32), ((∀ k, k < gnq_31 → od2_34 k = nI ((ordL gnq_31 gAv_32 gcq_30).getD k 0))) → ((¬ u_ = 0 → (vp_in (u_ - 1) 6) ∧ ((od2_34 (u_ - 1).toNatClampNeg).toInt = aPassed T Ns Np v x.toInt y.toInt z.toInt u_.toInt ∧ MF 140 mw fm1_20)) ∧ (u_ = 0 → x8_24.toInt32.toInt = aPassed T Ns Np v x.toInt y.toInt z.toInt u_.toInt ∧ MF 140 mw fm1_20))))) ∧ (¬ (x6_7 ≤ x10_22) → ∃ (gcq_36 : Nat) (gnq_37 : Nat) (gAv_38 : Nat → Bool), ((x10_22 = nI gcq_36 ∧ x5_6 = nI gnq_37 ∧ 1 ≤ gnq_37 ∧ gnq_37 ≤ 6 ∧ gcq_36 < fac gnq_37 ∧ cntA gAv_38 8 = gnq_37 ∧ (∀ i, i < gnq_37 → fm11_5 i = nI (nthA gAv_38 i 8))) ∧ (∀ (od2_40 : Nat → Int32), ((∀ k, k < gnq_37 → od2_40 k = nI ((ordL gnq_37 gAv_38 gcq_36).getD k 0))) → (∃ (gT_41 : Nat → Nat → Int) (gNs_42 : Nat) (gNp_43 : Nat) (gv_44 : Nat → Int) (gM_45 : Int) (gib_46 : Nat) (gmq_47 : Nat) (gnq_48 : Nat) (gol_49 : List Nat), ((TOK gT_41 gNs_42 gNp_43 ∧ MT gT_41 gNs_42 gNp_43 fu fd fi zs cl ks ne mn ∧ MR 0 fm1_20 gv_44 ∧ NOK gT_41 gNs_42 gNp_43 (fun _ => 2 * gM_45) gM_45 gv_44 ∧ gM_45 ≤ 900000 ∧ x = nI gib_46 ∧ gib_46 < gNs_42 ∧ z = nI gmq_47 ∧ gmq_47 ≤ 60 ∧ x5_6 = nI gnq_48 ∧ gnq_48 ≤ 6 ∧ gol_49.length = gnq_48 ∧ (∀ k, k < gnq_48 → od2_40 k = nI (gol_49.getD k 0) ∧ gol_49.getD k 0 < gNp_43) ∧ (∀ i k, i < k → k < gnq_48 → gol_49.getD i 0 ≠ gol_49.getD k 0)) ∧ (∀ (r_50 : Int64) (mw2_51 : Nat → Int64), (r_50.toInt = heatL gT_41 gv_44 gib_46 gmq_47 0 (gv_44 gib_46) gol_49 ∧ MF 140 fm1_20 mw2_51) → ((x7_23 < 0 → I143_25 mw2_51 od2_40 (x10_22 + 1) x10_22 r_50 ∧ μ143_26 mw2_51 od2_40 (x10_22 + 1) x10_22 r_50 < μ143_26 fm1_20 fm12_21 x10_22 x7_23 x8_24) ∧ (¬ (x7_23 < 0) → (r_50 ≤ x8_24 → I143_25 mw2_51 od2_40 (x10_22 + 1) x7_23 x8_24 ∧ μ143_26 mw2_51 od2_40 (x10_22 + 1) x7_23 x8_24 < μ143_26 fm1_20 fm12_21 x10_22 x7_23 x8_24) ∧ (¬ (r_50 ≤ x8_24) → I143_25 mw2_51 od2_40 (x10_22 + 1) x10_22 r_50 ∧ μ143_26 mw2_51 od2_40 (x10_22 + 1) x10_22 r_50 < μ143_26 fm1_20 fm12_21 x10_22 x7_23 x8_24))))))))))) ∧ (¬ (¬ u_.toInt64 < 0 ∧ ¬ x5_6.toInt64 < u_.toInt64) → ((-1000000002) : Int32).toInt = aPassed T Ns Np v x.toInt y.toInt z.toInt u_.toInt ∧ MF 140 mw mw)))) ∧ (¬ ((mn 1) ≤ x7_8) → (¬ ((y >>> (x7_8 &&& 31)) &&& 1) = 1 → I40_9 fm11_5 x5_6 x6_7 (x7_8 + 1) ∧ μ40_10 fm11_5 x5_6 x6_7 (x7_8 + 1) < μ40_10 fm11_5 x5_6 x6_7 x7_8) ∧ (((y >>> (x7_8 &&& 31)) &&& 1) = 1 → (6 ≤ x5_6 → ∀ (y_59 : Int32), (y_59 = (x6_7 * (x5_6 + 1))) → (I40_9 fm11_5 (x5_6 + 1) y_59 (x7_8 + 1) ∧ μ40_10 fm11_5 (x5_6 + 1) y_59 (x7_8 + 1) < μ40_10 fm11_5 x5_6 x6_7 x7_8)) ∧ (¬ (6 ≤ x5_6) → (vp_in x5_6 6) ∧ (∀ (fm11_60 : (Nat → Int32)), (fm11_60 = (upd fm11_5 x5_6.toNatClampNeg x7_8)) → (∀ (y_61 : Int32), (y_61 = (x6_7 * (x5_6 + 1))) → (I40_9 fm11_60 (x5_6 + 1) y_61 (x7_8 + 1) ∧ μ40_10 fm11_60 (x5_6 + 1) y_61 (x7_8 + 1) < μ40_10 fm11_5 x5_6 x6_7 x7_8)))))))) ∧ (¬ (¬ y.toInt64 < 0 ∧ ¬ ((((1 : Int32) <<< ((mn 1) &&& 31)) - 1).toInt64) < y.toInt64) → ((-1000000001) : Int32).toInt = aPassed T Ns Np v x.toInt y.toInt z.toInt u_.toInt ∧ MF 140 mw mw)) := by
  obtain ⟨hT, hC, hR, hO, hM⟩ := hp
  have t1 := hT.1
  have t2 := hT.2.1
  have hnp := hC.2.1
  have hs_ := inR_iff (x := x) hC.1 (by omega)
  have hp8 := pow8 t2
  have hp1 : 0 < 2 ^ Np := Nat.pow_pos (by omega)
  have hy_ : (¬ y.toInt64 < 0 ∧ ¬ ((((1 : Int32) <<< ((mn 1) &&& 31)) - 1).toInt64) < y.toInt64) ↔ (0 ≤ y.toInt ∧ y.toInt.toNat < 2 ^ Np) := by
    rw [hnp, shl_np Np (by omega), l_lt (i_l rfl) (show (0 : Int64).toInt = 0 from rfl), l_lt (i_l (i_sub (nI_toInt (by omega)) i32_1 (by omega) (by omega))) (i_l rfl)]
    omega
  have ez : z.toInt64.toInt = z.toInt := i_l rfl
  have hz_ : (¬ z.toInt64 < 1 ∧ ¬ 60 < z.toInt64) ↔ (1 ≤ z.toInt ∧ z.toInt ≤ 60) := by
    rw [l_lt ez (show (1 : Int64).toInt = 1 from rfl), l_lt (show (60 : Int64).toInt = 60 from rfl) ez]
    omega
  simp only [hs_, hy_, hz_]
  refine ⟨fun h => ⟨by rw [aPassed, if_pos (Or.inl h)]; rfl, MF.rf 140 mw⟩, fun hx => ⟨fun hset => ?_, fun h => ⟨by rw [aPassed, if_pos (Or.inr h)]; rfl, MF.rf 140 mw⟩⟩⟩
  obtain ⟨b, hb, rfl, hxi, hxt⟩ := in_nat hx (by omega)
  obtain ⟨s, hs, rfl, hsi, hst⟩ := in_nat (x := y) (n := 256) (by omega) (by omega)
  have hs2 := hset.2
  rw [hst] at hs2
  have hset' : ¬ (¬ (0 ≤ (nI b).toInt ∧ (nI b).toInt < Ns) ∨ ¬ (0 ≤ (nI s).toInt ∧ (nI s).toInt.toNat < 2 ^ Np)) := fun z => z.elim (fun q => q hx) (fun q => q hset)
  have eA : aPassed T Ns Np v (nI b).toInt (nI s).toInt z.toInt u_.toInt = if ¬ (1 ≤ z.toInt ∧ z.toInt ≤ 60) ∨ ¬ (1 ≤ cntA (mA s) 8 ∧ cntA (mA s) 8 ≤ 6) ∨ ¬ (0 ≤ u_.toInt ∧ u_.toInt ≤ cntA (mA s) 8) then -1000000002 else ansP (dP T v b z.toInt.toNat (cntA (mA s) 8) (mA s) 0 (v b) [] none) u_.toInt := by
    rw [aPassed, if_neg hset', hst, hxt]
  rw [eA]
  have hn8 := cntA_le (A := mA s) 8
  refine ⟨fun th n od z => ∃ p, p ≤ Np ∧ z = nI p ∧ n = nI (cntA (mA s) p) ∧ od = nI (fac (cntA (mA s) p)) ∧ ∀ i, i < cntA (mA s) p → i < 6 → th i = nI (nthA (mA s) i 8), fun _ _ _ z => 9 - z.toNatClampNeg, ⟨0, by omega, rfl, rfl, rfl, fun i hi => absurd hi (Nat.not_lt_zero _)⟩, ?_⟩
  rintro th1 n1 od1 z1 ⟨p, hp, rfl, rfl, rfl, hth⟩
  have ep : (nI p).toNatClampNeg = p := nI_clamp (by omega)
  have ep1 : nI p + 1 = nI (p + 1) := nI_1 p
  have ep2 : (nI (p + 1)).toNatClampNeg = p + 1 := nI_clamp (by omega)
  have hle : nI Np ≤ nI p ↔ Np ≤ p := nI_leI (by omega) (by omega)
  have hcp := cntA_le (A := mA s) p
  have ec : (nI (cntA (mA s) p)).toNatClampNeg = cntA (mA s) p := nI_clamp (by omega)
  have ec1 : nI (cntA (mA s) p) + 1 = nI (cntA (mA s) p + 1) := nI_1 _
  simp only [ep, ep1, ep2, hnp, hle, ec, ec1]
  refine ⟨fun q => ?_, fun q => ?_⟩
  · have e : p = Np := by omega
    subst e
    rw [cnt_np hs2 t2] at hth ⊢
    clear hcp ec ec1
    generalize hn : cntA (mA s) 8 = n at hn8 hth
    have eni : (nI n).toInt = (n : Int) := nI_toInt (by omega)
    have hn_ : (¬ (nI n).toInt64 < 1 ∧ ¬ 6 < (nI n).toInt64) ↔ (1 ≤ n ∧ n ≤ 6) := by
      rw [l_lt (i_l eni) (show (1 : Int64).toInt = 1 from rfl), l_lt (show (6 : Int64).toInt = 6 from rfl) (i_l eni)]; omega
    have hu_ : (¬ u_.toInt64 < 0 ∧ ¬ (nI n).toInt64 < u_.toInt64) ↔ (0 ≤ u_.toInt ∧ u_.toInt ≤ n) := by
      rw [l_lt (i_l rfl) (show (0 : Int64).toInt = 0 from rfl), l_lt (i_l eni) (i_l rfl)]; omega
    simp only [hn_, hu_]
    refine ⟨fun h => ⟨by rw [if_pos (Or.inl h)]; rfl, MF.rf 140 mw⟩, fun hm => ⟨fun h => ⟨by rw [if_pos (Or.inr (Or.inl h))]; rfl, MF.rf 140 mw⟩, fun hn6 => ⟨fun hw => ?_, fun h => ⟨by rw [if_pos (Or.inr (Or.inr h))]; rfl, MF.rf 140 mw⟩⟩⟩⟩
    rw [if_neg (fun z => z.elim (fun q => q hm) (fun z => z.elim (fun q => q hn6) (fun q => q hw)))]
    obtain ⟨m, hm6, rfl, hmi, hmt⟩ := in_nat (x := z) (n := 61) (by omega) (by omega)
    rw [hmt]
    have hf := fac_le n hn8
    have bh := hO.1 b hb
    have bz := hT.2.2.1 b hb
    refine ⟨fun w _ c b9 w9 => ∃ c0, c0 ≤ fac n ∧ c = nI c0 ∧ MF 140 mw w ∧ MPs n (mA s) (pF (pH T v b m n (mA s) 0 (v b) []) none 0 c0) b9 w9, fun _ _ c _ _ => 50000 - c.toNatClampNeg, ⟨0, by omega, rfl, MF.rf 140 mw, rfl⟩, ?_⟩
    rintro w od9 c b9 w9 ⟨c0, hc0, rfl, hF, hS⟩
    have ed : (nI c0).toNatClampNeg = c0 := nI_clamp (by omega)
    have ed1 : nI c0 + 1 = nI (c0 + 1) := nI_1 c0
    have ed2 : (nI (c0 + 1)).toNatClampNeg = c0 + 1 := nI_clamp (by omega)
    have hlc : nI (fac n) ≤ nI c0 ↔ fac n ≤ c0 := nI_leI (by omega) (by omega)
    simp only [ed, ed1, ed2, hlc]
    refine ⟨fun qc => ?_, fun qc => ⟨c0, n, mA s, ⟨rfl, rfl, hn6.1, hn6.2, by omega, hn, fun i hi => hth i hi (by omega)⟩, fun od2 hod2 => ?_⟩⟩
    · have e : c0 = fac n := by omega
      subst e
      have hsome : pF (pH T v b m n (mA s) 0 (v b) []) none 0 (fac n) ≠ none := pF_some (fac_pos n)
      cases hd : pF (pH T v b m n (mA s) 0 (v b) []) none 0 (fac n) with
      | none => exact absurd hd hsome
      | some t =>
        obtain ⟨a, r⟩ := t
        rw [hd] at hS
        obtain ⟨⟨k, k1, k2, k3⟩, p1, p2, p3⟩ := hS
        have eD : dP T v b m n (mA s) 0 (v b) [] none = some (a, r) := hd
        rw [eD]
        have y0_ : u_ = 0 ↔ u_.toInt = 0 := i_eq rfl rfl
        refine ⟨k, n, mA s, ⟨k1, rfl, hn6.1, hn6.2, k2, hn, fun i hi => hth i hi (by omega)⟩, fun od2 hod2 => ⟨fun q0 => ?_, fun q0 => ⟨?_, hF⟩⟩⟩
        · have n0 : ¬ u_.toInt = 0 := fun z => q0 (y0_.mpr z)
          have e2 : (u_ - 1).toInt = u_.toInt - 1 := i_sub rfl i32_1 (by omega) (by omega)
          refine ⟨vp_of e2 (by omega) (by omega), ?_, hF⟩
          unfold ansP
          dsimp only
          rw [if_neg n0, cl_of (x := u_ - 1) (n := (u_.toInt - 1).toNat) (by omega), hod2 _ (by omega), k3]
        · unfold ansP
          dsimp only
          rw [if_pos (y0_.mp q0), ← p1]
          exact l_iZ rfl (by omega) (by omega)
    · obtain ⟨o1, o2, o3⟩ := ordL_in (A := mA s) (c := c0) hn (show c0 < fac n by omega)
      have onp : ∀ k, k < n → (ordL n (mA s) c0).getD k 0 < p := fun k hk => tb_np hs2 (o2 k hk).1
      have hR0 : MR 0 w v := fun j hj => by rw [hF _ (by omega)]; exact hR j hj
      refine ⟨T, Ns, p, v, M, b, m, n, ordL n (mA s) c0, ⟨hT, hC, hR0, hO, hM, rfl, hb, rfl, by omega, rfl, hn6.2, o1, fun k hk => ⟨hod2 k hk, onp k hk⟩, o3⟩, fun r w2 hr => ?_⟩
      have hbd := heatL_bd (m := m) hT hO hb (ordL n (mA s) c0) 0 (v b) (fun k hk => onp k (by omega)) bh.1 bh.2
      rw [← hr.1] at hbd
      obtain ⟨sy, sn⟩ := mPs_step (c := c0) hS hn8 (by omega) hbd.1 (by omega)
      have eF : pF (pH T v b m n (mA s) 0 (v b) []) none 0 (c0 + 1) = selP (pF (pH T v b m n (mA s) 0 (v b) []) none 0 c0) r.toInt (ordL n (mA s) c0) := by
        rw [pF, Nat.zero_add, hr.1]; rfl
      have hF2 := hF.tr hr.2
      exact ⟨fun u => ⟨⟨c0 + 1, by omega, rfl, hF2, by rw [eF]; exact sy (Or.inl u)⟩, by omega⟩, fun u => ⟨fun u1 => ⟨⟨c0 + 1, by omega, rfl, hF2, by rw [eF]; exact sn (fun z => z.elim u (fun z => Int64.not_lt.mpr u1 z))⟩, by omega⟩, fun u1 => ⟨⟨c0 + 1, by omega, rfl, hF2, by rw [eF]; exact sy (Or.inr (Int64.not_le.mp u1))⟩, by omega⟩⟩⟩
  have hp8' : p < 8 := by omega
  rw [and1, mk_tst s hs p hp8']
  refine ⟨fun hb1 => ?_, fun hb1 => ?_⟩
  · have hbf : mA s p = false := Classical.not_not.mp hb1
    have ecn := cntA_n hbf
    refine ⟨⟨p + 1, by omega, rfl, by rw [ecn], by rw [ecn], ?_⟩, by omega⟩
    rw [ecn]; exact hth
  have hbt : mA s p = true := by
    cases u : mA s p with
    | true => rfl
    | false => exact absurd u hb1
  have ecy := cntA_y hbt
  have h6 : 6 ≤ nI (cntA (mA s) p) ↔ 6 ≤ cntA (mA s) p := nI_leI (a := 6) (by omega) (by omega)
  have ef : nI (fac (cntA (mA s) p)) * nI (cntA (mA s) p + 1) = nI (fac (cntA (mA s) p + 1)) := by
    rw [pk_mul, fac, Nat.mul_comm]
  rw [h6]
  refine ⟨fun g6 y9 ey9 => ⟨⟨p + 1, by omega, rfl, by rw [ecy], by rw [ey9, ef, ecy], ?_⟩, by omega⟩, fun g6 => ⟨vp_in_nI (by omega) (by omega), fun th2 eth2 y9 ey9 => ⟨⟨p + 1, by omega, rfl, by rw [ecy], by rw [ey9, ef, ecy], ?_⟩, by omega⟩⟩⟩
  · rw [ecy]
    exact fun i hi h => hth i (by omega) h
  · rw [ecy, eth2]
    intro i hi h
    by_cases e : i = cntA (mA s) p
    · subst e; rw [upd_at, nthA_eq hbt rfl hp8']
    · rw [upd_ne e]; exact hth i (by omega) h
