theorem v_X7_feed (l : Launch) (G : Gt) (h0 e0 e01 : Nat) (sz : Nat) (t : Nat) (k : Nat) (n : Nat) (j : Nat) (i0 : Nat) (b0 : Nat) (s0 : Nat) (q : Nat) (g : Nat) (kp : Int32) (xb : Nat → Int32) (xl : Int32) (xf : Int32) (xg : Int32) (xa : Int32) (xt : Int32) (xr : Int32) (xn : Int32) (x : Int32) (y : Int64) (B : Nat → Int) (L : Nat) (hp : CX B L xb xl) : (¬ x < 1 ∧ ¬ 8 < x → (¬ (if 400 < xl + x then 0 else 1) = 0 → ∃ (gB_5 : Nat → Int) (gL_6 : Nat) (gnq_7 : Nat), ((CX gB_5 gL_6 xb xl ∧ x = nI gnq_7 ∧ 1 ≤ gnq_7 ∧ gnq_7 ≤ 8 ∧ gL_6 + gnq_7 ≤ 400) ∧ (∀ (xb2_9 : Nat → Int32) (xl2_10 : Int32), (CX (fdB gB_5 gL_6 gnq_7 y) (gL_6 + gnq_7) xb2_9 xl2_10) → (xl2_10.toInt = (qFd B L x.toInt y).1 ∧ CX (qFd B L x.toInt y).2.1 (qFd B L x.toInt y).2.2 xb2_9 xl2_10)))) ∧ ((if 400 < xl + x then 0 else 1) = 0 → ((-1000000004) : Int32).toInt = (qFd B L x.toInt y).1 ∧ CX (qFd B L x.toInt y).2.1 (qFd B L x.toInt y).2.2 xb xl)) ∧ (¬ (¬ x < 1 ∧ ¬ 8 < x) → ((-1000000002) : Int32).toInt = (qFd B L x.toInt y).1 ∧ CX (qFd B L x.toInt y).2.1 (qFd B L x.toInt y).2.2 xb xl) := by
  have hX : CX B L xb xl := hp
  have hL := hX.1
  have hxl := hX.2.1
  have hx_ : (¬ x < 1 ∧ ¬ 8 < x) ↔ (1 ≤ x.toInt ∧ x.toInt ≤ 8) := wi_iff rfl rfl
  simp only [hx_]
  refine ⟨fun hx => ?_, fun h => ?_⟩
  · obtain ⟨n, hn, rfl, hni, hnt⟩ := in_nat (x := x) (n := 9) (by omega) (by omega)
    have e4 : (400 : Int32) < xl + nI n ↔ 400 < L + n := by
      rw [hxl, nI_add]; exact nI_ltI (a := 400) (by omega) (by omega)
    by_cases q : 400 < L + n
    · rw [if_pos (e4.mpr q)]
      refine ⟨fun z => absurd rfl z, fun _ => ?_⟩
      have e : qFd B L (nI n).toInt y = (-1000000004, B, L) := by unfold qFd; rw [if_neg (fun z => z hx), if_pos (by omega)]
      rw [e]
      exact ⟨rfl, hX⟩
    · rw [if_neg (fun z => q (e4.mp z))]
      refine ⟨fun _ => ⟨B, L, n, ⟨hX, rfl, by omega, by omega, by omega⟩, fun b2 l2 h2 => ?_⟩, fun z => absurd z (by decide)⟩
      have e : qFd B L (nI n).toInt y = ((L : Int) + (n : Int), fdB B L n y, L + n) := by unfold qFd; rw [if_neg (fun z => z hx), if_neg (by omega), hnt, hni]
      rw [e]
      refine ⟨?_, h2⟩
      rw [h2.2.1, nI_toInt (by omega)]
      dsimp only
      omega
  · have e : qFd B L x.toInt y = (-1000000002, B, L) := by unfold qFd; rw [if_pos h]
    rw [e]
    exact ⟨rfl, hX⟩

theorem v_X7_town (l : Launch) (G : Gt) (h0 e0 e01 t t1 t2 t3 t4 t5 t6 k k1 k2 k3 k4 k5 k6 n n1 n2 n3 n4 n5 n6 n7 b0 b01 b02 : Nat) (sz : Nat) (j : Nat) (i0 : Nat) (s0 : Nat) (q : Nat) (g : Nat) (kp : Int32) (xb : Nat → Int32) (xl : Int32) (xf : Int32) (xg : Int32) (xa : Int32) (xt : Int32) (xr : Int32) (xn : Int32) (ns : Int32) (np : Int32) (fu : Int32) (fd : Int32) (fi : Int32) (sz_ : Nat → Int32) (pt : Nat → Int32) (fh : Nat → Int32) (kd : Nat → Int32) (nd : Nat → Int32) (fw : Nat → Int32) (nsk : Int32) (npk : Int32) (fuk : Int32) (fdk : Int32) (fik : Int32) (sz_k : Nat → Int32) (ptk : Nat → Int32) (fhk : Nat → Int32) (kdk : Nat → Int32) (ndk : Nat → Int32) (fwk : Nat → Int32) (ht : Nat → Int32) (wm : Nat → Int32) (se : Nat → Int32) (cd : Nat → Int32) (sl : Nat → Int32) (od : Nat → Int32) (ow : Nat → Int32) (lo : Int32) (mi : Int32) (sd : Int32) (en : Int32) (bs : Nat → Int32) (bh : Nat → Int32) (B : Nat → Int) (L : Nat) (hp : CX B L xb xl) : ∃ (gB_1 : Nat → Int) (gL_2 : Nat), ((CX gB_1 gL_2 xb xl) ∧ (∀ (r_3 : Int32) (xl2_4 : Int32) (xa2_5 : Int32) (xt2_6 : Int32) (xg2_7 : Int32) (xf2_8 : Int32) (xr2_9 : Int32) (xn2_10 : Int32) (ns2_11 : Int32) (sz2_12 : Nat → Int32) (pt2_13 : Nat → Int32) (fh2_14 : Nat → Int32) (np2_15 : Int32) (kd2_16 : Nat → Int32) (nd2_17 : Nat → Int32) (fw2_18 : Nat → Int32) (fu2_19 : Int32) (fd2_20 : Int32) (fi2_21 : Int32), (xl2_4 = 0 ∧ CI (paT gB_1 gL_2) r_3 xf2_8 ns2_11 np2_15 fu2_19 fd2_20 fi2_21 sz2_12 pt2_13 fh2_14 kd2_16 nd2_17 fw2_18) → ((r_3 = 0 → ∃ (gT_23 : Nat → Nat → Int) (gNs_24 : Nat) (gNp_25 : Nat), ((TOK gT_23 gNs_24 gNp_25 ∧ CT gT_23 gNs_24 gNp_25 ns2_11 np2_15 fu2_19 fd2_20 fi2_21 sz2_12 pt2_13 kd2_16 nd2_17 ∧ (∀ b, b < gNs_24 → (fh2_14 b).toInt = gT_23 5 b) ∧ (∀ q, q < gNp_25 → (fw2_18 q).toInt = gT_23 6 q)) ∧ (∀ (ht2_27 : Nat → Int32) (wm2_28 : Nat → Int32) (se2_29 : Nat → Int32) (cd2_30 : Nat → Int32) (sl2_31 : Nat → Int32) (od2_32 : Nat → Int32) (ow2_33 : Nat → Int32) (lo2_34 : Int32) (mi2_35 : Int32), (CN gNs_24 gNp_25 (zBeg gT_23 sd.toInt) ht2_27 wm2_28 se2_29 cd2_30 sl2_31 od2_32 ow2_33 lo2_34 mi2_35 sd) → ((xl2_4 = 0 ∧ ((∃ f, paT B L = .inl f ∧ ns2_11 = -10 - nI f.1 ∧ xf2_8 = nI f.2 ∧ k = t ∧ t = k ∧ (0 : Int32) = kp ∧ (0 : Int32) = en ∧ ht2_27 = ht ∧ wm2_28 = wm ∧ se2_29 = se ∧ cd2_30 = cd ∧ sl2_31 = sl ∧ od2_32 = od ∧ ow2_33 = ow ∧ lo2_34 = lo ∧ mi2_35 = mi) ∨ (∃ z_, paT B L = .inr z_ ∧ ns2_11 = nI z_.1 ∧ xf2_8 = -1 ∧ k = k ∧ t = t ∧ (0 : Int32) = 0 ∧ (0 : Int32) = 0 ∧ CT z_.2.2.1 z_.1 z_.2.1 ns2_11 np2_15 fu2_19 fd2_20 fi2_21 sz2_12 pt2_13 kd2_16 nd2_17 ∧ CN z_.1 z_.2.1 (zBeg z_.2.2.1 sd.toInt) ht2_27 wm2_28 se2_29 cd2_30 sl2_31 od2_32 ow2_33 lo2_34 mi2_35 sd))))))) ∧ (¬ (r_3 = 0) → (xl2_4 = 0 ∧ ((∃ f, paT B L = .inl f ∧ ((-10) - r_3) = -10 - nI f.1 ∧ xf2_8 = nI f.2 ∧ t = t ∧ k = k ∧ kp = kp ∧ en = en ∧ ht = ht ∧ wm = wm ∧ se = se ∧ cd = cd ∧ sl = sl ∧ od = od ∧ ow = ow ∧ lo = lo ∧ mi = mi) ∨ (∃ z_, paT B L = .inr z_ ∧ ((-10) - r_3) = nI z_.1 ∧ xf2_8 = -1 ∧ t = k ∧ k = t ∧ kp = 0 ∧ en = 0 ∧ CT z_.2.2.1 z_.1 z_.2.1 ns2_11 np2_15 fu2_19 fd2_20 fi2_21 sz2_12 pt2_13 kd2_16 nd2_17 ∧ CN z_.1 z_.2.1 (zBeg z_.2.2.1 sd.toInt) ht wm se cd sl od ow lo mi sd))))))) := by
  have hX : CX B L xb xl := hp
  refine ⟨B, L, hX, fun r xl2 xa2 xt2 xg2 xf2 xr2 xn2 ns2 sz2 pt2 fh2 np2 kd2 nd2 fw2 fu2 fd2 fi2 h2 => ?_⟩
  obtain ⟨hl, hI⟩ := h2
  cases q : paT B L with
  | inl f =>
    rw [q] at hI
    obtain ⟨i1, i2, i3, i4⟩ := hI
    have hne : ¬ r = 0 := by rw [i3]; exact nI_n0 (by omega) (by omega)
    exact ⟨fun z => absurd z hne, fun _ => ⟨hl, Or.inl ⟨f, rfl, by rw [i3], i4, rfl, rfl, rfl, rfl, rfl, rfl, rfl, rfl, rfl, rfl, rfl, rfl, rfl⟩⟩⟩
  | inr z_ =>
    rw [q] at hI
    obtain ⟨i1, i2, i3⟩ := hI
    have hk := paT_ok q
    refine ⟨fun _ => ⟨z_.2.2.1, z_.1, z_.2.1, ⟨hk.1, i3.1, i3.2.1, i3.2.2⟩, fun b1 b2 b3 b4 b5 b6 b7 b8 b9 hN => ⟨hl, Or.inr ⟨z_, rfl, i3.1.1, i2, rfl, rfl, rfl, rfl, i3.1, hN⟩⟩⟩, fun z => absurd i1 z⟩
