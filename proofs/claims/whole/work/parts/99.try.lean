theorem v_X8_coldMinutes (l : Launch) (G : Gt) (m0 m1 m2 m3 m4 m5 m6 m7 m8 m9 m10 m11 m12 m13 m14 : Nat) (sz : Nat) (mw : Nat → Int64) (ik : Nat → Int32) (zs : Nat → Int32) (cl : Nat → Int32) (hs : Nat → Int32) (ks : Nat → Int32) (wa : Nat → Int32) (ne : Nat → Int32) (mn : Nat → Int32) (tx : Nat → Int32) (th : Nat → Int32) (od : Nat → Int32) (bk : Nat → Int32) (bh : Nat → Int32) (fu : Int32) (fd : Int32) (fi : Int32) (nu : Int32) (nw : Int32) (nf : Int32) (bf : Int32) (bn : Int32) (ts : Int32) (ap : Int32) (fs : Int32) (ln : Int32) (fo : Int32) (fa : Int32) (wr : Int32) (x : Int32) (T : Nat → Nat → Int) (Ns : Nat) (Np : Nat) (X : Nat) (v : Nat → Int) (M : Int) (hp : TOK T Ns Np ∧ MT T Ns Np fu fd fi zs cl ks ne mn ∧ x = nI X ∧ X + 140 ≤ 560 ∧ MR X mw v ∧ NOK T Ns Np (fun _ => 2 * M) M v ∧ M ≤ 1000000) : ∃ (I5_3 : Int64 → Int32 → Prop) (μ5_4 : Int64 → Int32 → Nat), I5_3 0 0 ∧ (∀ (x2_1 : Int64) (x4_2 : Int32), I5_3 x2_1 x4_2 → ((mn 1) ≤ x4_2 → x2_1.toInt = zSum v 30 Np) ∧ (¬ ((mn 1) ≤ x4_2) → (vp_in ((x + 30) + x4_2) 560) ∧ (∀ (y_8 : Int64), (y_8 = (x2_1 + (mw ((x + 30) + x4_2).toNatClampNeg))) → (I5_3 y_8 (x4_2 + 1) ∧ μ5_4 y_8 (x4_2 + 1) < μ5_4 x2_1 x4_2)))) := by
  obtain ⟨hT, hC, rfl, hX, hR, hO, hM⟩ := hp
  have t2 := hT.2.1
  have hnp := hC.2.1
  refine ⟨fun s z => ∃ i, i ≤ Np ∧ z = nI i ∧ s.toInt = zSum v 30 i, fun _ z => 9 - z.toNatClampNeg, ⟨0, by omega, rfl, rfl⟩, ?_⟩
  rintro s z ⟨i, hi, rfl, hs⟩
  have ei : (nI i).toNatClampNeg = i := nI_clamp (by omega)
  have ei1 : nI i + 1 = nI (i + 1) := nI_1 i
  have ej : (nI (i + 1)).toNatClampNeg = i + 1 := nI_clamp (by omega)
  have e30 : nI X + 30 + nI i = nI (X + (30 + i)) := ix2 X 30 i
  have c30 : (nI (X + (30 + i))).toNatClampNeg = X + (30 + i) := nI_clamp (by omega)
  simp only [ei, ei1, ej, e30, c30, hnp]
  refine ⟨fun h => ?_, fun h => ?_⟩
  · have e : Np = i := by have := (nI_leI (a := Np) (b := i) (by omega) (by omega)).mp h; omega
    subst e; exact hs
  · have hlt : i < Np := by
      rcases Nat.lt_or_ge i Np with q | q
      · exact q
      · exact absurd ((nI_leI (by omega) (by omega)).mpr q) h
    have b1 := zSum_nn (v := v) (o := 30) (n := i) (fun j hj => (hO.2.1 j (by omega)).2.2.1.1)
    have b2 := zSum_le (v := v) (o := 30) (n := i) (c := 2000000) (fun j hj => by have := (nok_p hO (p := j) (by omega)).2.2.1.2; omega)
    have b3 := (nok_p hO hlt).2.2.1
    refine ⟨vp_in_nI (by omega) (by omega), fun y ey => ⟨⟨i + 1, by omega, rfl, ?_⟩, by omega⟩⟩
    rw [ey, zSum]
    exact l_add hs (hR (30 + i) (by omega)) (by omega) (by omega)

theorem v_X8_told (l : Launch) (G : Gt) (m0 m1 m2 m3 m4 m5 m6 m7 m8 m9 m10 m11 m12 m13 m14 : Nat) (sz : Nat) (mw : Nat → Int64) (ik : Nat → Int32) (zs : Nat → Int32) (cl : Nat → Int32) (hs : Nat → Int32) (ks : Nat → Int32) (wa : Nat → Int32) (ne : Nat → Int32) (mn : Nat → Int32) (tx : Nat → Int32) (th : Nat → Int32) (od : Nat → Int32) (bk : Nat → Int32) (bh : Nat → Int32) (fu : Int32) (fd : Int32) (fi : Int32) (nu : Int32) (nw : Int32) (nf : Int32) (bf : Int32) (bn : Int32) (ts : Int32) (ap : Int32) (fs : Int32) (ln : Int32) (fo : Int32) (fa : Int32) (wr : Int32) (x : Int32) (T : Nat → Nat → Int) (Ns : Nat) (Np : Nat) (v : Nat → Int) (M : Int) (hp : TOK T Ns Np ∧ MT T Ns Np fu fd fi zs cl ks ne mn ∧ MR 0 mw v ∧ NOK T Ns Np (fun _ => 2 * M) M v ∧ M ≤ 900000) : ∃ (I5_3 : Int64 → Int32 → Prop) (μ5_4 : Int64 → Int32 → Nat), I5_3 0 0 ∧ (∀ (x2_1 : Int64) (x4_2 : Int32), I5_3 x2_1 x4_2 → ((mn 0) ≤ x4_2 → ∃ (I35_10 : Int64 → Int32 → Prop) (μ35_11 : Int64 → Int32 → Nat), I35_10 x2_1 0 ∧ (∀ (x2_8 : Int64) (x4_9 : Int32), I35_10 x2_8 x4_9 → ((mn 1) ≤ x4_9 → (x = 0 → ((mn 0).toInt64).toInt = aTold T Ns Np v ts.toInt wr.toInt x.toInt) ∧ (x = 1 → ((mn 1).toInt64).toInt = aTold T Ns Np v ts.toInt wr.toInt x.toInt) ∧ (x = 2 → ts.toInt64.toInt = aTold T Ns Np v ts.toInt wr.toInt x.toInt) ∧ (x = 3 → (mw 132).toInt = aTold T Ns Np v ts.toInt wr.toInt x.toInt) ∧ (x = 4 → (mw 134).toInt = aTold T Ns Np v ts.toInt wr.toInt x.toInt) ∧ (x = 5 → fu.toInt64.toInt = aTold T Ns Np v ts.toInt wr.toInt x.toInt) ∧ (x = 6 → fd.toInt64.toInt = aTold T Ns Np v ts.toInt wr.toInt x.toInt) ∧ (x = 7 → fi.toInt64.toInt = aTold T Ns Np v ts.toInt wr.toInt x.toInt) ∧ (x = 8 → wr.toInt64.toInt = aTold T Ns Np v ts.toInt wr.toInt x.toInt) ∧ (x = 9 → ∃ (gT_16 : Nat → Nat → Int) (gNs_17 : Nat) (gNp_18 : Nat) (gX_19 : Nat) (gv_20 : Nat → Int) (gM_21 : Int), ((TOK gT_16 gNs_17 gNp_18 ∧ MT gT_16 gNs_17 gNp_18 fu fd fi zs cl ks ne mn ∧ (0 : Int32) = nI gX_19 ∧ gX_19 + 140 ≤ 560 ∧ MR gX_19 mw gv_20 ∧ NOK gT_16 gNs_17 gNp_18 (fun _ => 2 * gM_21) gM_21 gv_20 ∧ gM_21 ≤ 1000000) ∧ (∀ (r_22 : Int64), (r_22.toInt = zSum gv_20 30 gNp_18) → (r_22.toInt = aTold T Ns Np v ts.toInt wr.toInt x.toInt)))) ∧ (x = 10 → x2_8.toInt = aTold T Ns Np v ts.toInt wr.toInt x.toInt) ∧ (¬ x = 0 ∧ ¬ x = 1 ∧ ¬ x = 2 ∧ ¬ x = 3 ∧ ¬ x = 4 ∧ ¬ x = 5 ∧ ¬ x = 6 ∧ ¬ x = 7 ∧ ¬ x = 8 ∧ ¬ x = 9 ∧ ¬ x = 10 → ((-1000000002) : Int64).toInt = aTold T Ns Np v ts.toInt wr.toInt x.toInt)) ∧ (¬ ((mn 1) ≤ x4_9) → (vp_in (10 + x4_9) 560) ∧ (∀ (y_23 : Int64), (y_23 = (x2_8 + (mw (10 + x4_9).toNatClampNeg))) → (I35_10 y_23 (x4_9 + 1) ∧ μ35_11 y_23 (x4_9 + 1) < μ35_11 x2_8 x4_9))))) ∧ (¬ ((mn 0) ≤ x4_2) → (vp_in x4_2 560) ∧ (∀ (y_27 : Int64), (y_27 = (x2_1 + (mw x4_2.toNatClampNeg))) → (I5_3 y_27 (x4_2 + 1) ∧ μ5_4 y_27 (x4_2 + 1) < μ5_4 x2_1 x4_2)))) := by
  obtain ⟨hT, hC, hR, hO, hM⟩ := hp
  have t1 := hT.1
  have t2 := hT.2.1
  have hns := hC.1
  have hnp := hC.2.1
  refine ⟨fun s z => ∃ i, i ≤ Ns ∧ z = nI i ∧ s.toInt = zSum v 0 i, fun _ z => 10 - z.toNatClampNeg, ⟨0, by omega, rfl, rfl⟩, ?_⟩
  rintro s z ⟨i, hi, rfl, hs⟩
  have ei : (nI i).toNatClampNeg = i := nI_clamp (by omega)
  have ei1 : nI i + 1 = nI (i + 1) := nI_1 i
  have ej : (nI (i + 1)).toNatClampNeg = i + 1 := nI_clamp (by omega)
  simp only [ei, ei1, ej, hns]
  have s0 : ∀ n, n ≤ Ns → 0 ≤ zSum v 0 n ∧ zSum v 0 n ≤ n * 9999 := fun n hn => ⟨zSum_nn (fun j hj => by rw [Nat.zero_add]; exact (hO.1 j (by omega)).1), zSum_le (fun j hj => by rw [Nat.zero_add]; have := (hO.1 j (by omega)).2; have := (hT.2.2.1 j (by omega)).2.1; omega)⟩
  have s1 : ∀ n, n ≤ Np → 0 ≤ zSum v 10 n ∧ zSum v 10 n ≤ n * 9999 := fun n hn => ⟨zSum_nn (fun j hj => (hO.2.1 j (by omega)).1.1), zSum_le (fun j hj => (hO.2.1 j (by omega)).1.2)⟩
  refine ⟨fun h => ?_, fun h => ?_⟩
  · have e : Ns = i := by have := (nI_leI (a := Ns) (b := i) (by omega) (by omega)).mp h; omega
    subst e
    refine ⟨fun s z => ∃ i, i ≤ Np ∧ z = nI i ∧ s.toInt = zSum v 0 Ns + zSum v 10 i, fun _ z => 9 - z.toNatClampNeg, ⟨0, by omega, rfl, by rw [hs]; simp [zSum]⟩, ?_⟩
    rintro s2 z ⟨i, hi2, rfl, hs2⟩
    have fi_ : (nI i).toNatClampNeg = i := nI_clamp (by omega)
    have fi_1 : nI i + 1 = nI (i + 1) := nI_1 i
    have fj : (nI (i + 1)).toNatClampNeg = i + 1 := nI_clamp (by omega)
    have e10 : 10 + nI i = nI (10 + i) := ix1 10 i
    have c10 : (nI (10 + i)).toNatClampNeg = 10 + i := nI_clamp (by omega)
    simp only [fi_, fi_1, fj, e10, c10, hnp]
    refine ⟨fun h => ?_, fun h => ?_⟩
    · have e : Np = i := by have := (nI_leI (a := Np) (b := i) (by omega) (by omega)).mp h; omega
      subst e
      refine ⟨?_, ?_, ?_, ?_, ?_, ?_, ?_, ?_, ?_, ?_, ?_, ?_⟩
      · intro hx
        have hz : x.toInt = 0 := by rw [hx]; rfl
        simp only [aTold, hz, reduceIte, Int.reduceEq]
        exact i_l (nI_toInt (by omega))
      · intro hx
        have hz : x.toInt = 1 := by rw [hx]; rfl
        simp only [aTold, hz, reduceIte, Int.reduceEq]
        exact i_l (nI_toInt (by omega))
      · intro hx
        have hz : x.toInt = 2 := by rw [hx]; rfl
        simp only [aTold, hz, reduceIte, Int.reduceEq]
        exact i_l rfl
      · intro hx
        have hz : x.toInt = 3 := by rw [hx]; rfl
        simp only [aTold, hz, reduceIte, Int.reduceEq]
        exact hR.z (by omega)
      · intro hx
        have hz : x.toInt = 4 := by rw [hx]; rfl
        simp only [aTold, hz, reduceIte, Int.reduceEq]
        exact hR.z (by omega)
      · intro hx
        have hz : x.toInt = 5 := by rw [hx]; rfl
        simp only [aTold, hz, reduceIte, Int.reduceEq]
        exact i_l hC.2.2.2.2.1
      · intro hx
        have hz : x.toInt = 6 := by rw [hx]; rfl
        simp only [aTold, hz, reduceIte, Int.reduceEq]
        exact i_l hC.2.2.2.2.2.1
      · intro hx
        have hz : x.toInt = 7 := by rw [hx]; rfl
        simp only [aTold, hz, reduceIte, Int.reduceEq]
        exact i_l hC.2.2.2.2.2.2
      · intro hx
        have hz : x.toInt = 8 := by rw [hx]; rfl
        simp only [aTold, hz, reduceIte, Int.reduceEq]
        exact i_l rfl
      · intro hx
        have hz : x.toInt = 9 := by rw [hx]; rfl
        simp only [aTold, hz, reduceIte, Int.reduceEq]
        exact ⟨T, Ns, Np, 0, v, M, ⟨hT, hC, rfl, by omega, hR, hO, by omega⟩, fun r hr => hr⟩
      · intro hx
        have hz : x.toInt = 10 := by rw [hx]; rfl
        simp only [aTold, hz, reduceIte, Int.reduceEq]
        exact hs2
      · rintro ⟨n0, n1, n2, n3, n4, n5, n6, n7, n8, n9, n10⟩
        unfold aTold
        have N0 : ¬ x.toInt = 0 := ne_z n0; have N1 : ¬ x.toInt = 1 := ne_z n1; have N2 : ¬ x.toInt = 2 := ne_z n2; have N3 : ¬ x.toInt = 3 := ne_z n3; have N4 : ¬ x.toInt = 4 := ne_z n4; have N5 : ¬ x.toInt = 5 := ne_z n5; have N6 : ¬ x.toInt = 6 := ne_z n6; have N7 : ¬ x.toInt = 7 := ne_z n7; have N8 : ¬ x.toInt = 8 := ne_z n8; have N9 : ¬ x.toInt = 9 := ne_z n9; have N10 : ¬ x.toInt = 10 := ne_z n10
        rw [if_neg N0, if_neg N1, if_neg N2, if_neg N3, if_neg N4, if_neg N5, if_neg N6, if_neg N7, if_neg N8, if_neg N9, if_neg N10]
        rfl
    · have hlt : i < Np := by
        rcases Nat.lt_or_ge i Np with q | q
        · exact q
        · exact absurd ((nI_leI (by omega) (by omega)).mpr q) h
      have b1 := s0 Ns (Nat.le_refl _)
      have b2 := s1 i hi2
      have b3 := (hO.2.1 i hlt).1
      refine ⟨vp_in_nI (by omega) (by omega), fun y ey => ⟨⟨i + 1, by omega, rfl, ?_⟩, by omega⟩⟩
      rw [ey, zSum, l_add hs2 (hR.z (i := 10 + i) (by omega)) (by omega) (by omega)]
      omega
  · have hlt : i < Ns := by
      rcases Nat.lt_or_ge i Ns with q | q
      · exact q
      · exact absurd ((nI_leI (by omega) (by omega)).mpr q) h
    have b2 := s0 i hi
    have b3 := hO.1 i hlt
    have b4 := hT.2.2.1 i hlt
    refine ⟨vp_in_nI (by omega) (by omega), fun y ey => ⟨⟨i + 1, by omega, rfl, ?_⟩, by omega⟩⟩
    rw [ey, zSum, Nat.zero_add]
    exact l_add hs (hR.z (by omega)) (by omega) (by omega)

theorem v_X8_seatIn (l : Launch) (G : Gt) (sz : Nat) (x : Int32) (y : Int32) (z : Int32) (cq : Nat) (ip : Nat) (nq : Nat) (hp : x = nI cq ∧ cq < 10000 ∧ y = nI ip ∧ ip < nq ∧ z = nI nq ∧ nq ≤ 4) : ∀ (y_1 : Int32), (y_1 = (z - 1)) → (∃ (I7_4 : Int32 → Int32 → Prop) (μ7_5 : Int32 → Int32 → Nat), I7_4 x y_1 ∧ (∀ (x3_2 : Int32) (x4_3 : Int32), I7_4 x3_2 x4_3 → (x4_3 ≤ y → ((x3_2 - x3_2 / 10 * 10) - 1).toInt = (dg nq cq ip : Int) - 1) ∧ (¬ (x4_3 ≤ y) → ∀ (y_9 : Int32), (y_9 = (x3_2 / 10)) → (I7_4 y_9 (x4_3 + (-1)) ∧ μ7_5 y_9 (x4_3 + (-1)) < μ7_5 x3_2 x4_3)))) := by
  obtain ⟨rfl, hc, rfl, hi, rfl, h4⟩ := hp
  intro y0 ey0
  have ey : y0 = nI (nq - 1) := by
    rw [ey0, ← Int32.toInt_inj, i_sub (nI_toInt (by omega)) i32_1 (by omega) (by omega), nI_toInt (by omega)]
    omega
  subst ey
  refine ⟨fun a z => ∃ k, ip ≤ k ∧ k ≤ nq - 1 ∧ z = nI k ∧ a = nI (cq / 10 ^ (nq - 1 - k)), fun _ z => z.toNatClampNeg, ⟨nq - 1, by omega, by omega, rfl, by rw [Nat.sub_self, Nat.pow_zero, Nat.div_one]⟩, ?_⟩
  rintro a z ⟨k, h1, h2, rfl, rfl⟩
  have hle : nI k ≤ nI ip ↔ k ≤ ip := nI_leI (by omega) (by omega)
  rw [hle]
  have hd : cq / 10 ^ (nq - 1 - k) ≤ cq := Nat.div_le_self _ _
  refine ⟨fun q => ?_, fun q y ey => ?_⟩
  · have e : k = ip := by omega
    subst e
    unfold dg
    generalize cq / 10 ^ (nq - 1 - k) = E at hd ⊢
    have er := i_rem (a := nI E) (b := 10) (nI_toInt (by omega)) (show (10 : Int32).toInt = 10 from rfl) (by omega) (by omega)
    rw [i_sub er i32_1 (by omega) (by omega)]
    omega
  · have ek : nI k + (-1) = nI (k - 1) := nI_m1 (by omega) (by omega)
    have c1 : (nI (k - 1)).toNatClampNeg = k - 1 := nI_clamp (by omega)
    have c2 : (nI k).toNatClampNeg = k := nI_clamp (by omega)
    dsimp only
    rw [ek, c1, c2]
    refine ⟨⟨k - 1, by omega, by omega, rfl, ?_⟩, by omega⟩
    rw [ey, nI_div10 (by omega), show nq - 1 - (k - 1) = nq - 1 - k + 1 by omega, Nat.pow_succ, Nat.div_div_eq_div_mul]

theorem v_X8_isSeating (l : Launch) (G : Gt) (m0 m1 m2 m3 m4 m5 m6 m7 m8 m9 m10 m11 m12 m13 m14 : Nat) (sz : Nat) (mw : Nat → Int64) (ik : Nat → Int32) (zs : Nat → Int32) (cl : Nat → Int32) (hs : Nat → Int32) (ks : Nat → Int32) (wa : Nat → Int32) (ne : Nat → Int32) (mn : Nat → Int32) (tx : Nat → Int32) (th : Nat → Int32) (od : Nat → Int32) (bk : Nat → Int32) (bh : Nat → Int32) (fu : Int32) (fd : Int32) (fi : Int32) (nu : Int32) (nw : Int32) (nf : Int32) (bf : Int32) (bn : Int32) (ts : Int32) (ap : Int32) (fs : Int32) (ln : Int32) (fo : Int32) (fa : Int32) (wr : Int32) (x : Int32) (cq : Nat) (Ns : Nat) (Np : Nat) (hp : x = nI cq ∧ cq < 10000 ∧ mn 0 = nI Ns ∧ mn 1 = nI Np ∧ Ns ≤ 9 ∧ Np ≤ 4) : ∃ (I7_4 : Int32 → Int32 → Int32 → Prop) (μ7_5 : Int32 → Int32 → Int32 → Nat), I7_4 0 1 0 ∧ (∀ (x2_1 : Int32) (x3_2 : Int32) (x4_3 : Int32), I7_4 x2_1 x3_2 x4_3 → ((mn 1) ≤ x4_3 → (narrow .boolean (.int x3_2) = .int x3_2) ∧ x3_2 = (if okB Ns (dg Np cq) Np = true then 1 else 0)) ∧ (¬ ((mn 1) ≤ x4_3) → ∃ (gcq_9 : Nat) (gip_10 : Nat) (gnq_11 : Nat), ((x = nI gcq_9 ∧ gcq_9 < 10000 ∧ x4_3 = nI gip_10 ∧ gip_10 < gnq_11 ∧ (mn 1) = nI gnq_11 ∧ gnq_11 ≤ 4) ∧ (∀ (r_12 : Int32), (r_12.toInt = (dg gnq_11 gcq_9 gip_10 : Int) - 1) → ((x3_2 = 0 → (0 ≤ r_12 → ∀ (y_15 : Int32), (y_15 = (x2_1 ||| ((1 : Int32) <<< (r_12 &&& 31)))) → (I7_4 y_15 0 (x4_3 + 1) ∧ μ7_5 y_15 0 (x4_3 + 1) < μ7_5 x2_1 x3_2 x4_3)) ∧ (¬ (0 ≤ r_12) → ∀ (y_16 : Int32), (y_16 = (x2_1 ||| 0)) → (I7_4 y_16 0 (x4_3 + 1) ∧ μ7_5 y_16 0 (x4_3 + 1) < μ7_5 x2_1 x3_2 x4_3))) ∧ (¬ (x3_2 = 0) → ((mn 0) ≤ r_12 → (0 ≤ r_12 → ∀ (y_19 : Int32), (y_19 = (x2_1 ||| ((1 : Int32) <<< (r_12 &&& 31)))) → (I7_4 y_19 0 (x4_3 + 1) ∧ μ7_5 y_19 0 (x4_3 + 1) < μ7_5 x2_1 x3_2 x4_3)) ∧ (¬ (0 ≤ r_12) → ∀ (y_20 : Int32), (y_20 = (x2_1 ||| 0)) → (I7_4 y_20 0 (x4_3 + 1) ∧ μ7_5 y_20 0 (x4_3 + 1) < μ7_5 x2_1 x3_2 x4_3))) ∧ (¬ ((mn 0) ≤ r_12) → (r_12 < 0 → (0 ≤ r_12 → ∀ (y_23 : Int32), (y_23 = (x2_1 ||| ((1 : Int32) <<< (r_12 &&& 31)))) → (I7_4 y_23 1 (x4_3 + 1) ∧ μ7_5 y_23 1 (x4_3 + 1) < μ7_5 x2_1 x3_2 x4_3)) ∧ (¬ (0 ≤ r_12) → ∀ (y_24 : Int32), (y_24 = (x2_1 ||| 0)) → (I7_4 y_24 1 (x4_3 + 1) ∧ μ7_5 y_24 1 (x4_3 + 1) < μ7_5 x2_1 x3_2 x4_3))) ∧ (¬ (r_12 < 0) → (¬ ((x2_1 >>> (r_12 &&& 31)) &&& 1) = 0 → (0 ≤ r_12 → ∀ (y_27 : Int32), (y_27 = (x2_1 ||| ((1 : Int32) <<< (r_12 &&& 31)))) → (I7_4 y_27 0 (x4_3 + 1) ∧ μ7_5 y_27 0 (x4_3 + 1) < μ7_5 x2_1 x3_2 x4_3)) ∧ (¬ (0 ≤ r_12) → ∀ (y_28 : Int32), (y_28 = (x2_1 ||| 0)) → (I7_4 y_28 0 (x4_3 + 1) ∧ μ7_5 y_28 0 (x4_3 + 1) < μ7_5 x2_1 x3_2 x4_3))) ∧ (((x2_1 >>> (r_12 &&& 31)) &&& 1) = 0 → (0 ≤ r_12 → ∀ (y_30 : Int32), (y_30 = (x2_1 ||| ((1 : Int32) <<< (r_12 &&& 31)))) → (I7_4 y_30 1 (x4_3 + 1) ∧ μ7_5 y_30 1 (x4_3 + 1) < μ7_5 x2_1 x3_2 x4_3)) ∧ (¬ (0 ≤ r_12) → ∀ (y_31 : Int32), (y_31 = (x2_1 ||| 0)) → (I7_4 y_31 1 (x4_3 + 1) ∧ μ7_5 y_31 1 (x4_3 + 1) < μ7_5 x2_1 x3_2 x4_3))))))))))) := by
  obtain ⟨rfl, hc, hns, hnp, h9, h4⟩ := hp
  refine ⟨fun tk is z => ∃ i, i ≤ Np ∧ z = nI i ∧ is = (if okB Ns (dg Np cq) i = true then 1 else 0) ∧ ∀ b, b < 9 → bt tk b = usd (dg Np cq) (b + 1) i, fun _ _ z => 5 - z.toNatClampNeg, ⟨0, by omega, rfl, rfl, fun b _ => b_0 b⟩, ?_⟩
  rintro tk is z ⟨i, hi, rfl, his, htk⟩
  have ei : (nI i).toNatClampNeg = i := nI_clamp (by omega)
  have ei1 : nI i + 1 = nI (i + 1) := nI_1 i
  have ei2 : (nI (i + 1)).toNatClampNeg = i + 1 := nI_clamp (by omega)
  have hle : nI Np ≤ nI i ↔ Np ≤ i := nI_leI (by omega) (by omega)
  simp only [ei, ei1, ei2, hnp, hns, hle]
  refine ⟨fun q => ?_, fun q => ⟨cq, i, Np, ⟨rfl, hc, rfl, by omega, rfl, h4⟩, fun r hr => ?_⟩⟩
  · have e : i = Np := by omega
    subst e
    refine ⟨?_, his⟩
    rw [his]
    split <;> rfl
  have hd := dg_lt Np cq i
  have hr0 : 0 ≤ r ↔ dg Np cq i ≠ 0 := by rw [i_le i32_0 hr]; omega
  have hrn : r < 0 ↔ dg Np cq i = 0 := by rw [i_lt hr i32_0]; omega
  have hrs : nI Ns ≤ r ↔ ¬ dg Np cq i ≤ Ns := by rw [i_le (nI_toInt (by omega)) hr]; omega
  have er : dg Np cq i ≠ 0 → r = nI (dg Np cq i - 1) := fun h => by
    rw [← Int32.toInt_inj, hr, nI_toInt (by omega)]; omega
  have hT1 : dg Np cq i ≠ 0 → ∀ b, b < 9 → bt (tk ||| ((1 : Int32) <<< (r &&& 31))) b = usd (dg Np cq) (b + 1) (i + 1) := fun h b hb => by
    rw [er h, b_set _ (by omega) (by omega), htk b hb, usd]
    congr 1
    exact decide_eq_decide.mpr (by omega)
  have hT0 : ¬ dg Np cq i ≠ 0 → ∀ b, b < 9 → bt (tk ||| 0) b = usd (dg Np cq) (b + 1) (i + 1) := fun h b hb => by
    rw [b_or, b_0, Bool.or_false, htk b hb, usd, decide_eq_false (by omega), Bool.or_false]
  have fin : ∀ c : Int32, c = (if okB Ns (dg Np cq) (i + 1) = true then 1 else 0) → ((0 ≤ r → ∀ (y : Int32), (y = (tk ||| ((1 : Int32) <<< (r &&& 31)))) → ((∃ j, j ≤ Np ∧ nI (i + 1) = nI j ∧ c = (if okB Ns (dg Np cq) j = true then 1 else 0) ∧ ∀ b, b < 9 → bt y b = usd (dg Np cq) (b + 1) j) ∧ 5 - (i + 1) < 5 - i)) ∧ (¬ (0 ≤ r) → ∀ (y : Int32), (y = (tk ||| 0)) → ((∃ j, j ≤ Np ∧ nI (i + 1) = nI j ∧ c = (if okB Ns (dg Np cq) j = true then 1 else 0) ∧ ∀ b, b < 9 → bt y b = usd (dg Np cq) (b + 1) j) ∧ 5 - (i + 1) < 5 - i))) := fun c hc => ⟨fun h y ey => ⟨⟨i + 1, by omega, rfl, hc, by rw [ey]; exact hT1 (hr0.mp h)⟩, by omega⟩, fun h y ey => ⟨⟨i + 1, by omega, rfl, hc, by rw [ey]; exact hT0 (fun z => h (hr0.mpr z))⟩, by omega⟩⟩
  have no : okB Ns (dg Np cq) (i + 1) = false → (0 : Int32) = (if okB Ns (dg Np cq) (i + 1) = true then 1 else 0) := fun h => by rw [h]; rfl
  have ye : okB Ns (dg Np cq) (i + 1) = true → (1 : Int32) = (if okB Ns (dg Np cq) (i + 1) = true then 1 else 0) := fun h => by rw [h]; rfl
  have hi0 : ¬ is = 0 ↔ okB Ns (dg Np cq) i = true := by rw [his]; exact tv_eqn
  refine ⟨fun g => fin 0 (no ?_), fun g => ⟨fun g1 => fin 0 (no ?_), fun g1 => ⟨fun g2 => fin 1 (ye ?_), fun g2 => ⟨fun g3 => fin 0 (no ?_), fun g3 => fin 1 (ye ?_)⟩⟩⟩⟩
  · cases u : okB Ns (dg Np cq) i with
    | true => exact absurd g (hi0.mpr u)
    | false => rw [okB, u]; rfl
  · rw [okB, decide_eq_false (hrs.mp g1)]; simp
  · rw [okB, hi0.mp g, decide_eq_true (Nat.not_lt.mp (fun z => g1 (hrs.mpr (Nat.not_le.mpr z)))), decide_eq_true (hrn.mp g2)]; rfl
  · have h0 : dg Np cq i ≠ 0 := fun z => g2 (hrn.mpr z)
    rw [er h0, b_test _ (by omega), htk _ (by omega), show dg Np cq i - 1 + 1 = dg Np cq i by omega] at g3
    have u : usd (dg Np cq) (dg Np cq i) i = true := by
      cases u : usd (dg Np cq) (dg Np cq i) i with
      | true => rfl
      | false => exact absurd u g3
    rw [okB, u, decide_eq_false h0]; simp
  · have h0 : dg Np cq i ≠ 0 := fun z => g2 (hrn.mpr z)
    rw [er h0, b_test _ (by omega), htk _ (by omega), show dg Np cq i - 1 + 1 = dg Np cq i by omega] at g3
    rw [okB, hi0.mp g, decide_eq_true (Nat.not_lt.mp (fun z => g1 (hrs.mpr (Nat.not_le.mpr z)))), g3]; simp

theorem v_X8_leastWarmth (l : Launch) (G : Gt) (m0 m1 m2 m3 m4 m5 m6 m7 m8 m9 m10 m11 m12 m13 m14 : Nat) (sz : Nat) (mw : Nat → Int64) (ik : Nat → Int32) (zs : Nat → Int32) (cl : Nat → Int32) (hs : Nat → Int32) (ks : Nat → Int32) (wa : Nat → Int32) (ne : Nat → Int32) (mn : Nat → Int32) (tx : Nat → Int32) (th : Nat → Int32) (od : Nat → Int32) (bk : Nat → Int32) (bh : Nat → Int32) (fu : Int32) (fd : Int32) (fi : Int32) (nu : Int32) (nw : Int32) (nf : Int32) (bf : Int32) (bn : Int32) (ts : Int32) (ap : Int32) (fs : Int32) (ln : Int32) (fo : Int32) (fa : Int32) (wr : Int32) (Np : Nat) (v : Nat → Int) (hp : mn 1 = nI Np ∧ 1 ≤ Np ∧ Np ≤ 4 ∧ MR 140 mw v ∧ (∀ i, i < Np → v (10 + i) ≤ 9999)) : ∀ (y_1 : Int64), (y_1 = (mw 150)) → (∃ (I11_4 : Int64 → Int32 → Prop) (μ11_5 : Int64 → Int32 → Nat), I11_4 y_1 1 ∧ (∀ (x1_2 : Int64) (x3_3 : Int32), I11_4 x1_2 x3_3 → ((mn 1) ≤ x3_3 → x1_2.toInt = zLw v Np) ∧ (¬ ((mn 1) ≤ x3_3) → (vp_in (150 + x3_3) 560) ∧ (∀ (y_10 : Int64), (y_10 = (if x1_2 < (mw (150 + x3_3).toNatClampNeg) then x1_2 else (mw (150 + x3_3).toNatClampNeg))) → (I11_4 y_10 (x3_3 + 1) ∧ μ11_5 y_10 (x3_3 + 1) < μ11_5 x1_2 x3_3))))) := by
  obtain ⟨hnp, h1, h4, hR, hb⟩ := hp
  intro y0 ey0
  have e0 : y0.toInt = zLw v 1 := by
    rw [ey0]
    have h2 : (mw 150).toInt = v 10 := hR 10 (by omega)
    have h3 := hb 0 (by omega)
    rw [h2, zLw, zLw]
    unfold minZ
    rw [Nat.add_zero] at h3 ⊢
    split <;> omega
  refine ⟨fun a z => ∃ p, 1 ≤ p ∧ p ≤ Np ∧ z = nI p ∧ a.toInt = zLw v p, fun _ z => 5 - z.toNatClampNeg, ⟨1, by omega, h1, rfl, e0⟩, ?_⟩
  rintro a z ⟨p, hp1, hp2, rfl, ha⟩
  have ep : (nI p).toNatClampNeg = p := nI_clamp (by omega)
  have ep1 : nI p + 1 = nI (p + 1) := nI_1 p
  have ep2 : (nI (p + 1)).toNatClampNeg = p + 1 := nI_clamp (by omega)
  have e150 : 150 + nI p = nI (150 + p) := ix1 150 p
  have c150 : (nI (150 + p)).toNatClampNeg = 140 + (10 + p) := by rw [nI_clamp (by omega)]; omega
  have v150 : vp_in (nI (150 + p)) 560 := vp_in_nI (by omega) (by omega)
  have hle : nI Np ≤ nI p ↔ Np ≤ p := nI_leI (by omega) (by omega)
  simp only [ep, ep1, ep2, e150, c150, hnp, hle]
  refine ⟨fun q => ?_, fun q => ⟨v150, fun y ey => ⟨⟨p + 1, by omega, by omega, rfl, ?_⟩, by omega⟩⟩⟩
  · have e : p = Np := by omega
    subst e; exact ha
  · rw [ey, zLw]
    exact l_min ha (hR (10 + p) (by omega))

theorem v_X8_seating (l : Launch) (G : Gt) (m0 m1 m2 m3 m4 m5 m6 m7 m8 m9 m10 m11 m12 m13 m14 : Nat) (sz : Nat) (mw : Nat → Int64) (ik : Nat → Int32) (zs : Nat → Int32) (cl : Nat → Int32) (hs : Nat → Int32) (ks : Nat → Int32) (wa : Nat → Int32) (ne : Nat → Int32) (mn : Nat → Int32) (tx : Nat → Int32) (th : Nat → Int32) (od : Nat → Int32) (bk : Nat → Int32) (bh : Nat → Int32) (fu : Int32) (fd : Int32) (fi : Int32) (nu : Int32) (nw : Int32) (nf : Int32) (bf : Int32) (bn : Int32) (ts : Int32) (ap : Int32) (fs : Int32) (ln : Int32) (fo : Int32) (fa : Int32) (wr : Int32) (x : Int32) (y : Int32) (T : Nat → Nat → Int) (Ns : Nat) (Np : Nat) (v : Nat → Int) (M : Int) (hp : TOK T Ns Np ∧ MT T Ns Np fu fd fi zs cl ks ne mn ∧ MR 0 mw v ∧ NOK T Ns Np (fun _ => 2 * M) M v ∧ M ≤ 900000) : (¬ (¬ x.toInt64 < 1 ∧ ¬ 60 < x.toInt64) → ((-1000000002) : Int32).toInt = aSeating T Ns Np v x.toInt y.toInt ∧ MF 140 mw mw) ∧ (¬ x.toInt64 < 1 ∧ ¬ 60 < x.toInt64 → (¬ y.toInt64 < 0 ∧ ¬ ((1 + (mn 1)).toInt64) < y.toInt64 → (¬ ((mn 1).toInt64) < 1 ∧ ¬ 4 < ((mn 1).toInt64) → ∃ (I58_9 : Int32 → Int32 → Prop) (μ58_10 : Int32 → Int32 → Nat), I58_9 1 0 ∧ (∀ (x3_7 : Int32) (x4_8 : Int32), I58_9 x3_7 x4_8 → ((mn 1) ≤ x4_8 → ∃ (I92_19 : (Nat → Int64) → Int32 → Int64 → Int64 → Int32 → Prop) (μ92_20 : (Nat → Int64) → Int32 → Int64 → Int64 → Int32 → Nat), I92_19 mw (-1) 0 0 0 ∧ (∀ (fm1_14 : (Nat → Int64)) (x4_15 : Int32) (x5_16 : Int64) (x7_17 : Int64) (x9_18 : Int32), I92_19 fm1_14 x4_15 x5_16 x7_17 x9_18 → (x3_7 ≤ x9_18 → (¬ y = 0 → (¬ y = 1 → ∃ (gcq_26 : Nat) (gip_27 : Nat) (gnq_28 : Nat), ((x4_15 = nI gcq_26 ∧ gcq_26 < 10000 ∧ (y - 2) = nI gip_27 ∧ gip_27 < gnq_28 ∧ (mn 1) = nI gnq_28 ∧ gnq_28 ≤ 4) ∧ (∀ (r_29 : Int32), (r_29.toInt = (dg gnq_28 gcq_26 gip_27 : Int) - 1) → (r_29.toInt = aSeating T Ns Np v x.toInt y.toInt ∧ MF 140 mw fm1_14)))) ∧ (y = 1 → x7_17.toInt32.toInt = aSeating T Ns Np v x.toInt y.toInt ∧ MF 140 mw fm1_14)) ∧ (y = 0 → x5_16.toInt32.toInt = aSeating T Ns Np v x.toInt y.toInt ∧ MF 140 mw fm1_14)) ∧ (¬ (x3_7 ≤ x9_18) → ∃ (gcq_30 : Nat) (gNs_31 : Nat) (gNp_32 : Nat), ((x9_18 = nI gcq_30 ∧ gcq_30 < 10000 ∧ mn 0 = nI gNs_31 ∧ mn 1 = nI gNp_32 ∧ gNs_31 ≤ 9 ∧ gNp_32 ≤ 4) ∧ (∀ (r_33 : Int32), (r_33 = (if okB gNs_31 (dg gNp_32 gcq_30) gNp_32 = true then 1 else 0)) → ((r_33 = 0 → I92_19 fm1_14 x4_15 x5_16 x7_17 (x9_18 + 1) ∧ μ92_20 fm1_14 x4_15 x5_16 x7_17 (x9_18 + 1) < μ92_20 fm1_14 x4_15 x5_16 x7_17 x9_18) ∧ (¬ (r_33 = 0) → ∃ (gv_35 : Nat → Int), ((MR 0 fm1_14 gv_35) ∧ (∀ (mw2_37 : Nat → Int64), (MR 140 mw2_37 (zUp gv_35) ∧ MF 140 fm1_14 mw2_37) → (∃ (I114_40 : (Nat → Int64) → Int32 → Prop) (μ114_41 : (Nat → Int64) → Int32 → Nat), I114_40 mw2_37 0 ∧ (∀ (fm1_38 : (Nat → Int64)) (x10_39 : Int32), I114_40 fm1_38 x10_39 → ((mn 1) ≤ x10_39 → ∃ (I159_47 : (Nat → Int64) → Int32 → Prop) (μ159_48 : (Nat → Int64) → Int32 → Nat), I159_47 fm1_38 0 ∧ (∀ (fm1_45 : (Nat → Int64)) (x10_46 : Int32), I159_47 fm1_45 x10_46 → (x ≤ x10_46 → ∃ (gT_52 : Nat → Nat → Int) (gNs_53 : Nat) (gNp_54 : Nat) (gX_55 : Nat) (gv_56 : Nat → Int) (gM_57 : Int), ((TOK gT_52 gNs_53 gNp_54 ∧ MT gT_52 gNs_53 gNp_54 fu fd fi zs cl ks ne mn ∧ (140 : Int32) = nI gX_55 ∧ gX_55 + 140 ≤ 560 ∧ MR gX_55 fm1_45 gv_56 ∧ NOK gT_52 gNs_53 gNp_54 (fun _ => 2 * gM_57) gM_57 gv_56 ∧ gM_57 ≤ 1000000) ∧ (∀ (r_58 : Int64), (r_58.toInt = zSum gv_56 30 gNp_54) → (∃ (gNp_59 : Nat) (gv_60 : Nat → Int), ((mn 1 = nI gNp_59 ∧ 1 ≤ gNp_59 ∧ gNp_59 ≤ 4 ∧ MR 140 fm1_45 gv_60 ∧ (∀ i, i < gNp_59 → gv_60 (10 + i) ≤ 9999)) ∧ (∀ (r_61 : Int64), (r_61.toInt = zLw gv_60 gNp_59) → ((x4_15 < 0 → I92_19 fm1_45 x9_18 r_58 r_61 (x9_18 + 1) ∧ μ92_20 fm1_45 x9_18 r_58 r_61 (x9_18 + 1) < μ92_20 fm1_14 x4_15 x5_16 x7_17 x9_18) ∧ (¬ (x4_15 < 0) → (r_58 < x5_16 → I92_19 fm1_45 x9_18 r_58 r_61 (x9_18 + 1) ∧ μ92_20 fm1_45 x9_18 r_58 r_61 (x9_18 + 1) < μ92_20 fm1_14 x4_15 x5_16 x7_17 x9_18) ∧ (¬ (r_58 < x5_16) → (¬ r_58 = x5_16 → I92_19 fm1_45 x4_15 x5_16 x7_17 (x9_18 + 1) ∧ μ92_20 fm1_45 x4_15 x5_16 x7_17 (x9_18 + 1) < μ92_20 fm1_14 x4_15 x5_16 x7_17 x9_18) ∧ (r_58 = x5_16 → (r_61 ≤ x7_17 → I92_19 fm1_45 x4_15 x5_16 x7_17 (x9_18 + 1) ∧ μ92_20 fm1_45 x4_15 x5_16 x7_17 (x9_18 + 1) < μ92_20 fm1_14 x4_15 x5_16 x7_17 x9_18) ∧ (¬ (r_61 ≤ x7_17) → I92_19 fm1_45 x9_18 r_58 r_61 (x9_18 + 1) ∧ μ92_20 fm1_45 x9_18 r_58 r_61 (x9_18 + 1) < μ92_20 fm1_14 x4_15 x5_16 x7_17 x9_18))))))))))) ∧ (¬ (x ≤ x10_46) → ∃ (gT_66 : Nat → Nat → Int) (gNs_67 : Nat) (gNp_68 : Nat) (gX_69 : Nat) (gv_70 : Nat → Int) (gM_71 : Int), ((TOK gT_66 gNs_67 gNp_68 ∧ MT gT_66 gNs_67 gNp_68 fu fd fi zs cl ks ne mn ∧ (140 : Int32) = nI gX_69 ∧ gX_69 + 140 ≤ 560 ∧ MR gX_69 fm1_45 gv_70 ∧ NOK gT_66 gNs_67 gNp_68 (fun _ => 2 * gM_71) gM_71 gv_70 ∧ gM_71 ≤ 1000000) ∧ (∀ (r_72 : Int32) (mw2_73 : Nat → Int64), (r_72 = nI (zCs gT_66 (zPass gT_66 gNs_67 gNp_68 gv_70) gNp_68) ∧ MR gX_69 mw2_73 (zPass gT_66 gNs_67 gNp_68 gv_70) ∧ MF gX_69 fm1_45 mw2_73) → (I159_47 mw2_73 (x10_46 + 1) ∧ μ159_48 mw2_73 (x10_46 + 1) < μ159_48 fm1_45 x10_46)))))) ∧ (¬ ((mn 1) ≤ x10_39) → ∃ (gcq_77 : Nat) (gip_78 : Nat) (gnq_79 : Nat), ((x9_18 = nI gcq_77 ∧ gcq_77 < 10000 ∧ x10_39 = nI gip_78 ∧ gip_78 < gnq_79 ∧ (mn 1) = nI gnq_79 ∧ gnq_79 ≤ 4) ∧ (∀ (r_80 : Int32), (r_80.toInt = (dg gnq_79 gcq_77 gip_78 : Int) - 1) → ((vp_in (160 + x10_39) 560) ∧ (∀ (fm1_81 : (Nat → Int64)), (fm1_81 = (vp_updL fm1_38 ((160 + x10_39).toNatClampNeg) r_80.toInt64)) → (I114_40 fm1_81 (x10_39 + 1) ∧ μ114_41 fm1_81 (x10_39 + 1) < μ114_41 fm1_38 x10_39))))))))))))))))) ∧ (¬ ((mn 1) ≤ x4_8) → ∀ (y_88 : Int32), (y_88 = (x3_7 * 10)) → (I58_9 y_88 (x4_8 + 1) ∧ μ58_10 y_88 (x4_8 + 1) < μ58_10 x3_7 x4_8)))) ∧ (¬ (¬ ((mn 1).toInt64) < 1 ∧ ¬ 4 < ((mn 1).toInt64)) → ((-1000000003) : Int32).toInt = aSeating T Ns Np v x.toInt y.toInt ∧ MF 140 mw mw)) ∧ (¬ (¬ y.toInt64 < 0 ∧ ¬ ((1 + (mn 1)).toInt64) < y.toInt64) → ((-1000000002) : Int32).toInt = aSeating T Ns Np v x.toInt y.toInt ∧ MF 140 mw mw)) := by
  obtain ⟨hT, hC, hR, hO, hM⟩ := hp
  have t1 := hT.1
  have t2 := hT.2.1
  have hns := hC.1
  have hnp := hC.2.1
  have hnpi : (mn 1).toInt = (Np : Int) := by rw [hnp]; exact nI_toInt (by omega)
  have ex : x.toInt64.toInt = x.toInt := i_l rfl
  have hx_ : (¬ x.toInt64 < 1 ∧ ¬ 60 < x.toInt64) ↔ (1 ≤ x.toInt ∧ x.toInt ≤ 60) := by
    rw [l_lt ex (show (1 : Int64).toInt = 1 from rfl), l_lt (show (60 : Int64).toInt = 60 from rfl) ex]
    omega
  have hy_ : (¬ y.toInt64 < 0 ∧ ¬ ((1 + (mn 1)).toInt64) < y.toInt64) ↔ (0 ≤ y.toInt ∧ y.toInt ≤ Np + 1) := by
    rw [l_lt (i_l rfl) (show (0 : Int64).toInt = 0 from rfl), l_lt (i_l (i_add i32_1 hnpi (by omega) (by omega))) (i_l rfl)]
    omega
  have hn_ : (¬ ((mn 1).toInt64) < 1 ∧ ¬ 4 < ((mn 1).toInt64)) ↔ (1 ≤ Np ∧ Np ≤ 4) := by
    rw [l_lt (i_l hnpi) (show (1 : Int64).toInt = 1 from rfl), l_lt (show (4 : Int64).toInt = 4 from rfl) (i_l hnpi)]
    omega
  simp only [hx_, hy_, hn_]
  refine ⟨fun h => ⟨by rw [aSeating, if_pos (Or.inl h)]; rfl, MF.rf 140 mw⟩, fun hx => ⟨fun hy => ⟨fun hn => ?_, fun h => ⟨by rw [aSeating, if_neg (fun z => z.elim (fun q => q hx) (fun q => q hy)), if_pos h]; rfl, MF.rf 140 mw⟩⟩, fun h => ⟨by rw [aSeating, if_pos (Or.inr h)]; rfl, MF.rf 140 mw⟩⟩⟩
  rw [aSeating, if_neg (fun z => z.elim (fun q => q hx) (fun q => q hy)), if_neg (fun z => z hn)]
  obtain ⟨m, hm, rfl, hxi, hxt⟩ := in_nat (x := x) (n := 61) (by omega) (by omega)
  rw [hxt]
  have p10 : ∀ i, i ≤ 4 → 10 ^ i ≤ 10000 := fun i hi => by
    have := Nat.pow_le_pow_right (show 0 < 10 by omega) hi
    omega
  refine ⟨fun a z => ∃ i, i ≤ Np ∧ z = nI i ∧ a = nI (10 ^ i), fun _ z => 5 - z.toNatClampNeg, ⟨0, by omega, rfl, rfl⟩, ?_⟩
  rintro a z ⟨i, hi, rfl, rfl⟩
  have ei : (nI i).toNatClampNeg = i := nI_clamp (by omega)
  have ei1 : nI i + 1 = nI (i + 1) := nI_1 i
  have ei2 : (nI (i + 1)).toNatClampNeg = i + 1 := nI_clamp (by omega)
  have hle : nI Np ≤ nI i ↔ Np ≤ i := nI_leI (by omega) (by omega)
  simp only [ei, ei1, ei2, hnp, hle]
  refine ⟨fun q => ?_, fun q y0 ey0 => ⟨⟨i + 1, by omega, rfl, by rw [ey0, show (10 : Int32) = nI 10 from rfl, pk_mul, Nat.pow_succ]⟩, by omega⟩⟩
  have e : i = Np := by omega
  subst e
  have hP := p10 i (by omega)
  have hP0 : 0 < 10 ^ i := Nat.pow_pos (by omega)
  generalize hE : 10 ^ i = E at hP hP0 ⊢
  refine ⟨fun w b f g z => ∃ c, c ≤ E ∧ z = nI c ∧ MF 140 mw w ∧ MSel (sF T v m Ns i none 0 c) b f g, fun _ _ _ _ z => 10001 - z.toNatClampNeg, ⟨0, by omega, rfl, MF.rf 140 mw, rfl⟩, ?_⟩
  rintro w b f g z ⟨c, hc, rfl, hF, hS⟩
  have ec : (nI c).toNatClampNeg = c := nI_clamp (by omega)
  have ec1 : nI c + 1 = nI (c + 1) := nI_1 c
  have ec2 : (nI (c + 1)).toNatClampNeg = c + 1 := nI_clamp (by omega)
  have hlc : nI E ≤ nI c ↔ E ≤ c := nI_leI (by omega) (by omega)
  simp only [ec, ec1, ec2, hlc]
  refine ⟨fun q => ?_, fun q => ⟨c, Ns, i, ⟨rfl, by omega, hns, rfl, t1, by omega⟩, fun r hr => ⟨fun hr0 => ⟨⟨c + 1, by omega, rfl, hF, ?_⟩, by omega⟩, fun hr0 => ?_⟩⟩⟩
  · have e : c = E := by omega
    subst e
    have hsome := sF_all (T := T) (v := v) (m := m) (ns := Ns) (np := i) (n := c) hP0
    cases hsf : sF T v m Ns i none 0 c with
    | none => exact absurd hsf hsome
    | some t =>
      obtain ⟨a1, a2, a3⟩ := t
      rw [hsf] at hS
      obtain ⟨s1, s2, s3, s4, s5, s6, s7, s8⟩ := hS
      have y0_ : y = 0 ↔ y.toInt = 0 := i_eq rfl rfl
      have y1_ : y = 1 ↔ y.toInt = 1 := i_eq rfl rfl
      dsimp only
      refine ⟨fun q0 => ⟨fun q1 => ?_, fun q1 => ⟨?_, hF⟩⟩, fun q0 => ⟨?_, hF⟩⟩
      · have n0 : ¬ y.toInt = 0 := fun z => q0 (y0_.mpr z)
        have n1 : ¬ y.toInt = 1 := fun z => q1 (y1_.mpr z)
        refine ⟨a3, (y.toInt - 2).toNat, i, ⟨s1, s2, ?_, by omega, rfl, by omega⟩, fun r hr => ⟨?_, hF⟩⟩
        · rw [← Int32.toInt_inj, i_sub rfl (show (2 : Int32).toInt = 2 from rfl) (by omega) (by omega), nI_toInt (by omega)]; omega
        · rw [if_neg n0, if_neg n1]; exact hr
      · rw [if_neg (fun z => q0 (y0_.mpr z)), if_pos (y1_.mp q1), ← s4]
        exact l_iZ rfl (by omega) (by omega)
      · rw [if_pos (y0_.mp q0), ← s3]
        exact l_iZ rfl (by omega) (by omega)
  · have hok : okB Ns (dg i c) i = false := by
      cases u : okB Ns (dg i c) i with
      | false => rfl
      | true => rw [hr, u] at hr0; exact absurd hr0 (by decide)
    rw [sF, Nat.zero_add]
    unfold sStep
    rw [if_neg (by rw [hok]; decide)]
    exact hS
  have hok : okB Ns (dg i c) i = true := by rw [hr] at hr0; exact tv_eqn.mp hr0
  have hR0 : MR 0 w v := fun j hj => by rw [hF _ (by omega)]; exact hR j hj
  refine ⟨v, hR0, fun w1 hw1 => ?_⟩
  refine ⟨fun w z => ∃ p, p ≤ i ∧ z = nI p ∧ MR 140 w (sSt v (dg i c) p) ∧ MF 140 mw w, fun _ z => 5 - z.toNatClampNeg, ⟨0, by omega, rfl, hw1.1, hF.tr hw1.2⟩, ?_⟩
  rintro w2 z ⟨p, hp, rfl, hR2, hF2⟩
  have ep : (nI p).toNatClampNeg = p := nI_clamp (by omega)
  have ep1 : nI p + 1 = nI (p + 1) := nI_1 p
  have ep2 : (nI (p + 1)).toNatClampNeg = p + 1 := nI_clamp (by omega)
  have hlp : nI i ≤ nI p ↔ i ≤ p := nI_leI (by omega) (by omega)
  have e160 : 160 + nI p = nI (160 + p) := ix1 160 p
  have c160 : (nI (160 + p)).toNatClampNeg = 140 + (20 + p) := by rw [nI_clamp (by omega)]; omega
  have v160 : vp_in (nI (160 + p)) 560 := vp_in_nI (by omega) (by omega)
  simp only [ep, ep1, ep2, hlp, e160, c160]
  refine ⟨fun q2 => ?_, fun q2 => ⟨c, p, i, ⟨rfl, by omega, rfl, by omega, rfl, by omega⟩, fun r2 hr2 => ⟨v160, fun w3 ew3 => ⟨⟨p + 1, by omega, rfl, ?_, ?_⟩, by omega⟩⟩⟩⟩
  · have e : p = i := by omega
    subst e
    have hOk := sSt_ok (D := dg p c) hT hO p (Nat.le_refl _) hok
    refine ⟨fun w z => ∃ t, t ≤ m ∧ z = nI t ∧ MR 140 w (zGo T Ns p (sSt v (dg p c) p) t) ∧ MF 140 mw w, fun _ z => 61 - z.toNatClampNeg, ⟨0, by omega, rfl, hR2, hF2⟩, ?_⟩
    rintro w4 z ⟨t, ht, rfl, hR4, hF4⟩
    have et : (nI t).toNatClampNeg = t := nI_clamp (by omega)
    have et1 : nI t + 1 = nI (t + 1) := nI_1 t
    have et2 : (nI (t + 1)).toNatClampNeg = t + 1 := nI_clamp (by omega)
    have hlt : nI m ≤ nI t ↔ m ≤ t := nI_leI (by omega) (by omega)
    simp only [et, et1, et2, hlt]
    have hOt := zGo_ok hT hOk t
    refine ⟨fun q3 => ?_, fun q3 => ⟨T, Ns, p, 140, _, M + t, ⟨hT, hC, rfl, by omega, hR4, hOt, by omega⟩, fun r4 w5 hw5 => ⟨⟨t + 1, by omega, rfl, hw5.2.1, hF4.tr hw5.2.2⟩, by omega⟩⟩⟩
    have e : t = m := by omega
    subst e
    obtain ⟨fc, fw⟩ := sSt_fin (m := t) (D := dg p c) hT hO hok
    have hco := sCo_bd (T := T) (v := v) (m := t) (D := dg p c) p
    have hpm : (p : Int) * t ≤ 240 := by
      have : p * t ≤ 4 * 60 := Nat.mul_le_mul (by omega) (by omega)
      have e : ((p * t : Nat) : Int) = (p : Int) * t := Int.natCast_mul p t
      omega
    have hle2 := sLe_bd (m := t) hT hO (D := dg p c) p (Nat.le_refl _) (fun q hq => okB_le hok hq)
    refine ⟨T, Ns, p, 140, _, M + t, ⟨hT, hC, rfl, by omega, hR4, hOt, by omega⟩, fun r5 hr5 => ⟨p, _, ⟨rfl, by omega, by omega, hR4, fun q hq => (hOt.2.1 q hq).1.2⟩, fun r6 hr6 => ?_⟩⟩
    rw [zSum_sCo fc] at hr5
    rw [zLw_sLe fw] at hr6
    obtain ⟨sy, sn⟩ := mSel_step (c := c) hS (by omega) hok hr5 (by omega) (by omega) hr6 (by omega) (by omega)
    have eF : sF T v t Ns p none 0 (c + 1) = sStep T v t Ns p c (sF T v t Ns p none 0 c) := by rw [sF, Nat.zero_add]
    refine ⟨fun u => ⟨⟨c + 1, by omega, rfl, hF4, by rw [eF]; exact sy (Or.inl u)⟩, by omega⟩, fun u => ⟨fun u1 => ⟨⟨c + 1, by omega, rfl, hF4, by rw [eF]; exact sy (Or.inr (Or.inl u1))⟩, by omega⟩, fun u1 => ⟨fun u2 => ⟨⟨c + 1, by omega, rfl, hF4, by rw [eF]; exact sn (fun z => z.elim u (fun z => z.elim u1 (fun z => u2 z.1)))⟩, by omega⟩, fun u2 => ⟨fun u3 => ⟨⟨c + 1, by omega, rfl, hF4, by rw [eF]; exact sn (fun z => z.elim u (fun z => z.elim u1 (fun z => Int64.not_lt.mpr u3 z.2)))⟩, by omega⟩, fun u3 => ⟨⟨c + 1, by omega, rfl, hF4, by rw [eF]; exact sy (Or.inr (Or.inr ⟨u2, Int64.not_le.mp u3⟩))⟩, by omega⟩⟩⟩⟩⟩
  · rw [ew3, sSt]
    exact hR2.up (i_l hr2)
  · rw [ew3]
    exact hF2.up (by omega)
