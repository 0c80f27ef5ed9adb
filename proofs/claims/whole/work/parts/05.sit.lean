set_option maxHeartbeats 4000000 in
set_option maxRecDepth 100000 in
theorem c_X4_begin (l : Launch) (G : Gt) (s0 : Nat) (sz : Nat) (sw : Int32) (sh : Int32) (x : Int32) (y : Int32) (hv : (x : Int32) = x ∧ (y : Int32) = y) : MetV l yX4_begin wsX4_begin 0 0 G [.ref s0, .int x, .int y] [(s0, .inr (4, [.int sw, .int sh]))] sz (fun (u : (Int32) × (Int32)) => (u.1 : Int32) = x ∧ (u.2 : Int32) = y) (fun (u : (Int32) × (Int32)) => [(s0, .inr (4, [.int u.1, .int u.2]))]) := by
  refine x_startV (cc := cX4_begin) (maxL := 3) (ret := none) (by decide) rfl (Nat.le_of_ble_eq_true rfl) ?_
  intro p e s m args below meth c A R Q ls hRf hRl hQ C hP hD hS hA hSS hl
  obtain ⟨hx, hb, hr, hml, hown, hts, hlocks, hKK⟩ := C
  have hown : s.vm.findClass RX4 = some m.cls := hown
  have hl : lv_has ls 3 [(0, .ref s0), (1, .int x), (2, .int y)] := hl
  have hinX4 : ∀ w ∈ u_ws RX4 TX4 2, w ∈ wsX4_begin := by decide +kernel
  have kl13 := hts (.fieldLink RX4 13 "WarmStones$Sitting" "heat" "I") (by decide +kernel)
  have kl7 := hts (.fieldLink RX4 7 "WarmStones$Sitting" "warmth" "I") (by decide +kernel)
  refine lv_aload_n hx hb dX4_begin_0 rfl (lv_at hl 0 rfl) ?_
  refine lv_iload_n hx hb dX4_begin_1 rfl (lv_at hl 1 rfl) ?_
  refine va_put (D := G.1) (ci := 4) (v := .int x) (ty := .int) (C := RX4) (T := TX4) (N := 2) hx hb hts hinX4 tyX4 tyX4_ok nmX4 hown hKK.1 hP hD hS 0 rfl rfl 0 (by decide) kl7 (fun _ h9 => h9) rfl (by decide +kernel) rfl rfl (Nat.le_of_ble_eq_true rfl) dX4_begin_2 (fun H locs hP hD hS => ?_)
  have hP : va_P G.1 vwCl [(s0, .inr (4, [.int x, .int sh]))] H := hP
  have hD : va_D A [(s0, .inr (4, [.int x, .int sh]))] := hD
  refine lv_aload_n hx hb dX4_begin_5 rfl (lv_at hl 0 rfl) ?_
  refine lv_iload_n hx hb dX4_begin_6 rfl (lv_at hl 2 rfl) ?_
  refine va_put (D := G.1) (ci := 4) (v := .int y) (ty := .int) (C := RX4) (T := TX4) (N := 2) hx hb hts hinX4 tyX4 tyX4_ok nmX4 hown hKK.1 hP hD hS 0 rfl rfl 1 (by decide) kl13 (fun _ h9 => h9) rfl (by decide +kernel) rfl rfl (Nat.le_of_ble_eq_true rfl) dX4_begin_7 (fun H locs hP hD hS => ?_)
  have hP : va_P G.1 vwCl [(s0, .inr (4, [.int x, .int y]))] H := hP
  have hD : va_D A [(s0, .inr (4, [.int x, .int y]))] := hD
  exact x_vret (x, y) hQ hx hb hr hlocks hS dX4_begin_10 hv hP hD
theorem v_X4_begin (l : Launch) (G : Gt) (s0 : Nat) (sz : Nat) (sw : Int32) (sh : Int32) (x : Int32) (y : Int32) : (x : Int32) = x ∧ (y : Int32) = y := by
  exact ⟨rfl, rfl⟩
theorem k_X4_begin (l : Launch) (G : Gt) (s0 : Nat) (sz : Nat) (sw : Int32) (sh : Int32) (x : Int32) (y : Int32) : MetV l yX4_begin wsX4_begin 0 0 G [.ref s0, .int x, .int y] [(s0, .inr (4, [.int sw, .int sh]))] sz (fun (u : (Int32) × (Int32)) => (u.1 : Int32) = x ∧ (u.2 : Int32) = y) (fun (u : (Int32) × (Int32)) => [(s0, .inr (4, [.int u.1, .int u.2]))]) :=
  c_X4_begin l G s0 sz sw sh x y (v_X4_begin l G s0 sz sw sh x y)

set_option maxHeartbeats 4000000 in
set_option maxRecDepth 100000 in
theorem c_X4_passMinute (l : Launch) (G : Gt) (s0 t t1 t2 t3 t4 t5 t6 : Nat) (sz : Nat) (sw : Int32) (sh : Int32) (ns : Int32) (np : Int32) (fu : Int32) (fd : Int32) (fi : Int32) (sz_ : Nat → Int32) (pt : Nat → Int32) (fh : Nat → Int32) (kd : Nat → Int32) (nd : Nat → Int32) (fw : Nat → Int32) (pq : Int32) (bq : Int32) (T : Nat → Nat → Int) (Ns : Nat) (Np : Nat) (ip : Nat) (xx : Int × Int) (hv : (¬ (¬ bq < 0 ∧ ¬ ns ≤ bq) → (vp_in pq 8) ∧ ((sw - (if (frostI (kd pq.toNatClampNeg) fu fd (if ¬ bq < 0 ∧ ¬ ns ≤ bq then 1 else 0)) < sw then (frostI (kd pq.toNatClampNeg) fu fd (if ¬ bq < 0 ∧ ¬ ns ≤ bq then 1 else 0)) else sw)).toInt = (zSt T ip bq.toInt xx).1 ∧ sh.toInt = (zSt T ip bq.toInt xx).2)) ∧ (¬ bq < 0 ∧ ¬ ns ≤ bq → (vp_in pq 8 ∧ vp_in bq 9) ∧ ((vp_in pq 8) ∧ (((sw - (flowI (kd pq.toNatClampNeg) (sz_ bq.toNatClampNeg) sw sh)) - (if (frostI (kd pq.toNatClampNeg) fu fd (if ¬ bq < 0 ∧ ¬ ns ≤ bq then 1 else 0)) < (sw - (flowI (kd pq.toNatClampNeg) (sz_ bq.toNatClampNeg) sw sh)) then (frostI (kd pq.toNatClampNeg) fu fd (if ¬ bq < 0 ∧ ¬ ns ≤ bq then 1 else 0)) else (sw - (flowI (kd pq.toNatClampNeg) (sz_ bq.toNatClampNeg) sw sh)))).toInt = (zSt T ip bq.toInt xx).1 ∧ (sh + (flowI (kd pq.toNatClampNeg) (sz_ bq.toNatClampNeg) sw sh)).toInt = (zSt T ip bq.toInt xx).2)))) : MetV l yX4_passMinute wsX4_passMinute 2 45 G [.ref s0, .ref t, .int pq, .int bq] [(s0, .inr (4, [.int sw, .int sh])), (t, .inr (6, [.int ns, .int np, .int fu, .int fd, .int fi, .ref t1, .ref t2, .ref t3, .ref t4, .ref t5, .ref t6])), aI G t1 9 sz_, aI G t2 9 pt, aI G t3 9 fh, aI G t4 8 kd, aI G t5 8 nd, aI G t6 8 fw] sz (fun (u : (Int32) × (Int32)) => u.1.toInt = (zSt T ip bq.toInt xx).1 ∧ u.2.toInt = (zSt T ip bq.toInt xx).2) (fun (u : (Int32) × (Int32)) => [(s0, .inr (4, [.int u.1, .int u.2])), (t, .inr (6, [.int ns, .int np, .int fu, .int fd, .int fi, .ref t1, .ref t2, .ref t3, .ref t4, .ref t5, .ref t6])), aI G t1 9 sz_, aI G t2 9 pt, aI G t3 9 fh, aI G t4 8 kd, aI G t5 8 nd, aI G t6 8 fw]) := by
  refine x_startV (cc := cX4_passMinute) (maxL := 6) (ret := none) (by decide) rfl (Nat.le_of_ble_eq_true rfl) ?_
  intro p e s m args below meth c A R Q ls hRf hRl hQ C hP hD hS hA hSS hl
  obtain ⟨hx, hb, hr, hml, hown, hts, hlocks, hKK⟩ := C
  have hown : s.vm.findClass RX4 = some m.cls := hown
  have hl : lv_has ls 6 [(0, .ref s0), (1, .ref t), (2, .int pq), (3, .int bq)] := hl
  have hinX4 : ∀ w ∈ u_ws RX4 TX4 2, w ∈ wsX4_passMinute := by decide +kernel
  have kl13 := hts (.fieldLink RX4 13 "WarmStones$Sitting" "heat" "I") (by decide +kernel)
  have kl30 := hts (.methodLink RX4 30 Lib.Math.min.name) (by decide +kernel)
  have kl7 := hts (.fieldLink RX4 7 "WarmStones$Sitting" "warmth" "I") (by decide +kernel)
  have km_c_min := hts (.code Lib.Math.min.name Lib.Math.min.code 2 (some .int)) (by decide +kernel)
  have km_i := hts (.initialized "java/lang/Math") (by decide +kernel)
  have km_s_min := hts (.static Lib.Math.min.name) (by decide +kernel)
  refine lv_aload_n hx hb dX4_passMinute_0 rfl (lv_at hl 1 rfl) ?_
  refine lv_iload_n hx hb dX4_passMinute_1 rfl (lv_at hl 3 rfl) ?_
  refine x_calliR (x_runV (As := [.int bq]) (rest := []) (n := 1) (C := RX6) (ci := 6) ⟨hx, hb, hml, hown, hts⟩ (k_X6_hasStone l G t t1 t2 t3 t4 t5 t6 _ ns np fu fd fi sz_ pt fh kd nd fw bq) gX4_passMinute_X6_hasStone rfl (by decide +kernel) ⟨Nat.le_trans (Nat.le_of_ble_eq_true rfl) hRf, Nat.le_trans (Nat.le_of_ble_eq_true rfl) hRl⟩ hKK hSS hS hA hP hD [1, 2, 3, 4, 5, 6, 7] (by decide) rfl rfl rfl 1 rfl rfl hl.1 rfl (Nat.le_of_ble_eq_true rfl) dX4_passMinute_2) hP hD hS hA [1, 2, 3, 4, 5, 6, 7] rfl (fun r_1 _ H locs hw hP hS => ?_)
  replace hw := hw.symm; subst hw
  refine lv_istore (lv' := [(4, .int (if ¬ bq < 0 ∧ ¬ ns ≤ bq then 1 else 0)), (0, .ref s0), (1, .ref t), (2, .int pq), (3, .int bq)]) hx hb dX4_passMinute_5 hl (by decide) rfl (fun ls hl => ?_)
  refine lv_iload hx hb dX4_passMinute_7 (lv_at hl 0 rfl) ?_
  refine lv_if_eq (tgt := 50) hx hb dX4_passMinute_9 (by decide) (fun hc_2 => ?_) (fun hc_2 => ?_)
  · have hv := hv.1 (tv_eq.mp hc_2)
    refine lv_aload_n hx hb dX4_passMinute_50 rfl (lv_at hl 1 rfl) ?_
    refine lv_dup hx hb dX4_passMinute_51 rfl ?_
    refine va_get (D := G.1) (ci := 4) (v := .int sw) (C := RX4) (T := TX4) (N := 2) hx hb hts hinX4 hown hKK.1 hP 0 rfl rfl 0 (by decide) kl7 (fun _ h9 => h9) rfl dX4_passMinute_52 ?_
    refine lv_aload_n hx hb dX4_passMinute_55 rfl (lv_at hl 1 rfl) ?_
    refine va_get (D := G.1) (ci := 4) (v := .int sw) (C := RX4) (T := TX4) (N := 2) hx hb hts hinX4 hown hKK.1 hP 0 rfl rfl 0 (by decide) kl7 (fun _ h9 => h9) rfl dX4_passMinute_56 ?_
    refine lv_aload_n hx hb dX4_passMinute_59 rfl (lv_at hl 2 rfl) ?_
    refine lv_iload_n hx hb dX4_passMinute_60 rfl (lv_at hl 3 rfl) ?_
    refine lv_iload hx hb dX4_passMinute_61 (lv_at hl 0 rfl) ?_
    obtain ⟨hp, hv⟩ := hv
    refine x_calliR (x_runV (As := [.int pq, .int (if ¬ bq < 0 ∧ ¬ ns ≤ bq then 1 else 0)]) (rest := [.int sw, .int sw, .ref s0]) (n := 2) (C := RX6) (ci := 6) ⟨hx, hb, hml, hown, hts⟩ (k_X6_frostOn l G t t1 t2 t3 t4 t5 t6 _ ns np fu fd fi sz_ pt fh kd nd fw pq (if ¬ bq < 0 ∧ ¬ ns ≤ bq then 1 else 0) hp) gX4_passMinute_X6_frostOn rfl (by decide +kernel) ⟨Nat.le_trans (Nat.le_of_ble_eq_true rfl) hRf, Nat.le_trans (Nat.le_of_ble_eq_true rfl) hRl⟩ hKK hSS hS hA hP hD [1, 2, 3, 4, 5, 6, 7] (by decide) rfl rfl rfl 1 rfl rfl hl.1 rfl (Nat.le_of_ble_eq_true rfl) dX4_passMinute_63) hP hD hS hA [1, 2, 3, 4, 5, 6, 7] rfl (fun r_3 _ H locs hw hP hS => ?_)
    replace hw := hw.symm; subst hw
    refine va_mmin hx hb (hml.trans hl.1.symm) hown kl30 km_s_min km_i km_c_min (Nat.le_trans (Nat.le_of_ble_eq_true rfl) hRf) (Nat.le_trans (Nat.le_of_ble_eq_true rfl) hRl) (Nat.zero_le _) (Nat.zero_le _) dX4_passMinute_66 ?_
    refine lv_isub hx hb dX4_passMinute_69 ?_
    refine va_put (D := G.1) (ci := 4) (v := .int (sw - (if (frostI (kd pq.toNatClampNeg) fu fd (if ¬ bq < 0 ∧ ¬ ns ≤ bq then 1 else 0)) < sw then (frostI (kd pq.toNatClampNeg) fu fd (if ¬ bq < 0 ∧ ¬ ns ≤ bq then 1 else 0)) else sw))) (ty := .int) (C := RX4) (T := TX4) (N := 2) hx hb hts hinX4 tyX4 tyX4_ok nmX4 hown hKK.1 hP hD hS 0 rfl rfl 0 (by decide) kl7 (fun _ h9 => h9) rfl (by decide +kernel) rfl rfl (Nat.le_of_ble_eq_true rfl) dX4_passMinute_70 (fun H locs hP hD hS => ?_)
    have hP : va_P G.1 vwCl [(s0, .inr (4, [.int (sw - (if (frostI (kd pq.toNatClampNeg) fu fd (if ¬ bq < 0 ∧ ¬ ns ≤ bq then 1 else 0)) < sw then (frostI (kd pq.toNatClampNeg) fu fd (if ¬ bq < 0 ∧ ¬ ns ≤ bq then 1 else 0)) else sw)), .int sh])), (t, .inr (6, [.int ns, .int np, .int fu, .int fd, .int fi, .ref t1, .ref t2, .ref t3, .ref t4, .ref t5, .ref t6])), aI G t1 9 sz_, aI G t2 9 pt, aI G t3 9 fh, aI G t4 8 kd, aI G t5 8 nd, aI G t6 8 fw] H := hP
    have hD : va_D A [(s0, .inr (4, [.int (sw - (if (frostI (kd pq.toNatClampNeg) fu fd (if ¬ bq < 0 ∧ ¬ ns ≤ bq then 1 else 0)) < sw then (frostI (kd pq.toNatClampNeg) fu fd (if ¬ bq < 0 ∧ ¬ ns ≤ bq then 1 else 0)) else sw)), .int sh])), (t, .inr (6, [.int ns, .int np, .int fu, .int fd, .int fi, .ref t1, .ref t2, .ref t3, .ref t4, .ref t5, .ref t6])), aI G t1 9 sz_, aI G t2 9 pt, aI G t3 9 fh, aI G t4 8 kd, aI G t5 8 nd, aI G t6 8 fw] := hD
    exact x_vret ((sw - (if (frostI (kd pq.toNatClampNeg) fu fd (if ¬ bq < 0 ∧ ¬ ns ≤ bq then 1 else 0)) < sw then (frostI (kd pq.toNatClampNeg) fu fd (if ¬ bq < 0 ∧ ¬ ns ≤ bq then 1 else 0)) else sw)), sh) hQ hx hb hr hlocks hS dX4_passMinute_73 hv hP hD
  · have hv := hv.2 (tv_eqn.mp hc_2)
    refine lv_aload_n hx hb dX4_passMinute_12 rfl (lv_at hl 2 rfl) ?_
    refine lv_iload_n hx hb dX4_passMinute_13 rfl (lv_at hl 3 rfl) ?_
    refine lv_iload_n hx hb dX4_passMinute_14 rfl (lv_at hl 4 rfl) ?_
    refine lv_aload_n hx hb dX4_passMinute_15 rfl (lv_at hl 1 rfl) ?_
    refine va_get (D := G.1) (ci := 4) (v := .int sw) (C := RX4) (T := TX4) (N := 2) hx hb hts hinX4 hown hKK.1 hP 0 rfl rfl 0 (by decide) kl7 (fun _ h9 => h9) rfl dX4_passMinute_16 ?_
    refine lv_aload_n hx hb dX4_passMinute_19 rfl (lv_at hl 1 rfl) ?_
    refine va_get (D := G.1) (ci := 4) (v := .int sh) (C := RX4) (T := TX4) (N := 2) hx hb hts hinX4 hown hKK.1 hP 0 rfl rfl 1 (by decide) kl13 (fun _ h9 => h9) rfl dX4_passMinute_20 ?_
    obtain ⟨hp, hv⟩ := hv
    refine x_calliR (x_runV (As := [.int pq, .int bq, .int sw, .int sh]) (rest := []) (n := 4) (C := RX6) (ci := 6) ⟨hx, hb, hml, hown, hts⟩ (k_X6_flow l G t t1 t2 t3 t4 t5 t6 _ ns np fu fd fi sz_ pt fh kd nd fw pq bq sw sh hp) gX4_passMinute_X6_flow rfl (by decide +kernel) ⟨Nat.le_trans (Nat.le_of_ble_eq_true rfl) hRf, Nat.le_trans (Nat.le_of_ble_eq_true rfl) hRl⟩ hKK hSS hS hA hP hD [1, 2, 3, 4, 5, 6, 7] (by decide) rfl rfl rfl 1 rfl rfl hl.1 rfl (Nat.le_of_ble_eq_true rfl) dX4_passMinute_23) hP hD hS hA [1, 2, 3, 4, 5, 6, 7] rfl (fun r_4 _ H locs hw hP hS => ?_)
    replace hw := hw.symm; subst hw
    refine lv_istore (lv' := [(5, .int (flowI (kd pq.toNatClampNeg) (sz_ bq.toNatClampNeg) sw sh)), (4, .int (if ¬ bq < 0 ∧ ¬ ns ≤ bq then 1 else 0)), (0, .ref s0), (1, .ref t), (2, .int pq), (3, .int bq)]) hx hb dX4_passMinute_26 hl (by decide) rfl (fun ls hl => ?_)
    refine lv_aload_n hx hb dX4_passMinute_28 rfl (lv_at hl 2 rfl) ?_
    refine lv_dup hx hb dX4_passMinute_29 rfl ?_
    refine va_get (D := G.1) (ci := 4) (v := .int sw) (C := RX4) (T := TX4) (N := 2) hx hb hts hinX4 hown hKK.1 hP 0 rfl rfl 0 (by decide) kl7 (fun _ h9 => h9) rfl dX4_passMinute_30 ?_
    refine lv_iload hx hb dX4_passMinute_33 (lv_at hl 0 rfl) ?_
    refine lv_isub hx hb dX4_passMinute_35 ?_
    refine va_put (D := G.1) (ci := 4) (v := .int (sw - (flowI (kd pq.toNatClampNeg) (sz_ bq.toNatClampNeg) sw sh))) (ty := .int) (C := RX4) (T := TX4) (N := 2) hx hb hts hinX4 tyX4 tyX4_ok nmX4 hown hKK.1 hP hD hS 0 rfl rfl 0 (by decide) kl7 (fun _ h9 => h9) rfl (by decide +kernel) rfl rfl (Nat.le_of_ble_eq_true rfl) dX4_passMinute_36 (fun H locs hP hD hS => ?_)
    have hP : va_P G.1 vwCl [(s0, .inr (4, [.int (sw - (flowI (kd pq.toNatClampNeg) (sz_ bq.toNatClampNeg) sw sh)), .int sh])), (t, .inr (6, [.int ns, .int np, .int fu, .int fd, .int fi, .ref t1, .ref t2, .ref t3, .ref t4, .ref t5, .ref t6])), aI G t1 9 sz_, aI G t2 9 pt, aI G t3 9 fh, aI G t4 8 kd, aI G t5 8 nd, aI G t6 8 fw] H := hP
    have hD : va_D A [(s0, .inr (4, [.int (sw - (flowI (kd pq.toNatClampNeg) (sz_ bq.toNatClampNeg) sw sh)), .int sh])), (t, .inr (6, [.int ns, .int np, .int fu, .int fd, .int fi, .ref t1, .ref t2, .ref t3, .ref t4, .ref t5, .ref t6])), aI G t1 9 sz_, aI G t2 9 pt, aI G t3 9 fh, aI G t4 8 kd, aI G t5 8 nd, aI G t6 8 fw] := hD
    refine lv_aload_n hx hb dX4_passMinute_39 rfl (lv_at hl 2 rfl) ?_
    refine lv_dup hx hb dX4_passMinute_40 rfl ?_
    refine va_get (D := G.1) (ci := 4) (v := .int sh) (C := RX4) (T := TX4) (N := 2) hx hb hts hinX4 hown hKK.1 hP 0 rfl rfl 1 (by decide) kl13 (fun _ h9 => h9) rfl dX4_passMinute_41 ?_
    refine lv_iload hx hb dX4_passMinute_44 (lv_at hl 0 rfl) ?_
    refine lv_iadd hx hb dX4_passMinute_46 ?_
    refine va_put (D := G.1) (ci := 4) (v := .int (sh + (flowI (kd pq.toNatClampNeg) (sz_ bq.toNatClampNeg) sw sh))) (ty := .int) (C := RX4) (T := TX4) (N := 2) hx hb hts hinX4 tyX4 tyX4_ok nmX4 hown hKK.1 hP hD hS 0 rfl rfl 1 (by decide) kl13 (fun _ h9 => h9) rfl (by decide +kernel) rfl rfl (Nat.le_of_ble_eq_true rfl) dX4_passMinute_47 (fun H locs hP hD hS => ?_)
    have hP : va_P G.1 vwCl [(s0, .inr (4, [.int (sw - (flowI (kd pq.toNatClampNeg) (sz_ bq.toNatClampNeg) sw sh)), .int (sh + (flowI (kd pq.toNatClampNeg) (sz_ bq.toNatClampNeg) sw sh))])), (t, .inr (6, [.int ns, .int np, .int fu, .int fd, .int fi, .ref t1, .ref t2, .ref t3, .ref t4, .ref t5, .ref t6])), aI G t1 9 sz_, aI G t2 9 pt, aI G t3 9 fh, aI G t4 8 kd, aI G t5 8 nd, aI G t6 8 fw] H := hP
    have hD : va_D A [(s0, .inr (4, [.int (sw - (flowI (kd pq.toNatClampNeg) (sz_ bq.toNatClampNeg) sw sh)), .int (sh + (flowI (kd pq.toNatClampNeg) (sz_ bq.toNatClampNeg) sw sh))])), (t, .inr (6, [.int ns, .int np, .int fu, .int fd, .int fi, .ref t1, .ref t2, .ref t3, .ref t4, .ref t5, .ref t6])), aI G t1 9 sz_, aI G t2 9 pt, aI G t3 9 fh, aI G t4 8 kd, aI G t5 8 nd, aI G t6 8 fw] := hD
    refine lv_aload_n hx hb dX4_passMinute_50 rfl (lv_at hl 2 rfl) ?_
    refine lv_dup hx hb dX4_passMinute_51 rfl ?_
    refine va_get (D := G.1) (ci := 4) (v := .int (sw - (flowI (kd pq.toNatClampNeg) (sz_ bq.toNatClampNeg) sw sh))) (C := RX4) (T := TX4) (N := 2) hx hb hts hinX4 hown hKK.1 hP 0 rfl rfl 0 (by decide) kl7 (fun _ h9 => h9) rfl dX4_passMinute_52 ?_
    refine lv_aload_n hx hb dX4_passMinute_55 rfl (lv_at hl 2 rfl) ?_
    refine va_get (D := G.1) (ci := 4) (v := .int (sw - (flowI (kd pq.toNatClampNeg) (sz_ bq.toNatClampNeg) sw sh))) (C := RX4) (T := TX4) (N := 2) hx hb hts hinX4 hown hKK.1 hP 0 rfl rfl 0 (by decide) kl7 (fun _ h9 => h9) rfl dX4_passMinute_56 ?_
    refine lv_aload_n hx hb dX4_passMinute_59 rfl (lv_at hl 3 rfl) ?_
    refine lv_iload_n hx hb dX4_passMinute_60 rfl (lv_at hl 4 rfl) ?_
    refine lv_iload hx hb dX4_passMinute_61 (lv_at hl 1 rfl) ?_
    obtain ⟨hp, hv⟩ := hv
    refine x_calliR (x_runV (As := [.int pq, .int (if ¬ bq < 0 ∧ ¬ ns ≤ bq then 1 else 0)]) (rest := [.int (sw - (flowI (kd pq.toNatClampNeg) (sz_ bq.toNatClampNeg) sw sh)), .int (sw - (flowI (kd pq.toNatClampNeg) (sz_ bq.toNatClampNeg) sw sh)), .ref s0]) (n := 2) (C := RX6) (ci := 6) ⟨hx, hb, hml, hown, hts⟩ (k_X6_frostOn l G t t1 t2 t3 t4 t5 t6 _ ns np fu fd fi sz_ pt fh kd nd fw pq (if ¬ bq < 0 ∧ ¬ ns ≤ bq then 1 else 0) hp) gX4_passMinute_X6_frostOn rfl (by decide +kernel) ⟨Nat.le_trans (Nat.le_of_ble_eq_true rfl) hRf, Nat.le_trans (Nat.le_of_ble_eq_true rfl) hRl⟩ hKK hSS hS hA hP hD [1, 2, 3, 4, 5, 6, 7] (by decide) rfl rfl rfl 1 rfl rfl hl.1 rfl (Nat.le_of_ble_eq_true rfl) dX4_passMinute_63) hP hD hS hA [1, 2, 3, 4, 5, 6, 7] rfl (fun r_5 _ H locs hw hP hS => ?_)
    replace hw := hw.symm; subst hw
    refine va_mmin hx hb (hml.trans hl.1.symm) hown kl30 km_s_min km_i km_c_min (Nat.le_trans (Nat.le_of_ble_eq_true rfl) hRf) (Nat.le_trans (Nat.le_of_ble_eq_true rfl) hRl) (Nat.zero_le _) (Nat.zero_le _) dX4_passMinute_66 ?_
    refine lv_isub hx hb dX4_passMinute_69 ?_
    refine va_put (D := G.1) (ci := 4) (v := .int ((sw - (flowI (kd pq.toNatClampNeg) (sz_ bq.toNatClampNeg) sw sh)) - (if (frostI (kd pq.toNatClampNeg) fu fd (if ¬ bq < 0 ∧ ¬ ns ≤ bq then 1 else 0)) < (sw - (flowI (kd pq.toNatClampNeg) (sz_ bq.toNatClampNeg) sw sh)) then (frostI (kd pq.toNatClampNeg) fu fd (if ¬ bq < 0 ∧ ¬ ns ≤ bq then 1 else 0)) else (sw - (flowI (kd pq.toNatClampNeg) (sz_ bq.toNatClampNeg) sw sh))))) (ty := .int) (C := RX4) (T := TX4) (N := 2) hx hb hts hinX4 tyX4 tyX4_ok nmX4 hown hKK.1 hP hD hS 0 rfl rfl 0 (by decide) kl7 (fun _ h9 => h9) rfl (by decide +kernel) rfl rfl (Nat.le_of_ble_eq_true rfl) dX4_passMinute_70 (fun H locs hP hD hS => ?_)
    have hP : va_P G.1 vwCl [(s0, .inr (4, [.int ((sw - (flowI (kd pq.toNatClampNeg) (sz_ bq.toNatClampNeg) sw sh)) - (if (frostI (kd pq.toNatClampNeg) fu fd (if ¬ bq < 0 ∧ ¬ ns ≤ bq then 1 else 0)) < (sw - (flowI (kd pq.toNatClampNeg) (sz_ bq.toNatClampNeg) sw sh)) then (frostI (kd pq.toNatClampNeg) fu fd (if ¬ bq < 0 ∧ ¬ ns ≤ bq then 1 else 0)) else (sw - (flowI (kd pq.toNatClampNeg) (sz_ bq.toNatClampNeg) sw sh)))), .int (sh + (flowI (kd pq.toNatClampNeg) (sz_ bq.toNatClampNeg) sw sh))])), (t, .inr (6, [.int ns, .int np, .int fu, .int fd, .int fi, .ref t1, .ref t2, .ref t3, .ref t4, .ref t5, .ref t6])), aI G t1 9 sz_, aI G t2 9 pt, aI G t3 9 fh, aI G t4 8 kd, aI G t5 8 nd, aI G t6 8 fw] H := hP
    have hD : va_D A [(s0, .inr (4, [.int ((sw - (flowI (kd pq.toNatClampNeg) (sz_ bq.toNatClampNeg) sw sh)) - (if (frostI (kd pq.toNatClampNeg) fu fd (if ¬ bq < 0 ∧ ¬ ns ≤ bq then 1 else 0)) < (sw - (flowI (kd pq.toNatClampNeg) (sz_ bq.toNatClampNeg) sw sh)) then (frostI (kd pq.toNatClampNeg) fu fd (if ¬ bq < 0 ∧ ¬ ns ≤ bq then 1 else 0)) else (sw - (flowI (kd pq.toNatClampNeg) (sz_ bq.toNatClampNeg) sw sh)))), .int (sh + (flowI (kd pq.toNatClampNeg) (sz_ bq.toNatClampNeg) sw sh))])), (t, .inr (6, [.int ns, .int np, .int fu, .int fd, .int fi, .ref t1, .ref t2, .ref t3, .ref t4, .ref t5, .ref t6])), aI G t1 9 sz_, aI G t2 9 pt, aI G t3 9 fh, aI G t4 8 kd, aI G t5 8 nd, aI G t6 8 fw] := hD
    exact x_vret (((sw - (flowI (kd pq.toNatClampNeg) (sz_ bq.toNatClampNeg) sw sh)) - (if (frostI (kd pq.toNatClampNeg) fu fd (if ¬ bq < 0 ∧ ¬ ns ≤ bq then 1 else 0)) < (sw - (flowI (kd pq.toNatClampNeg) (sz_ bq.toNatClampNeg) sw sh)) then (frostI (kd pq.toNatClampNeg) fu fd (if ¬ bq < 0 ∧ ¬ ns ≤ bq then 1 else 0)) else (sw - (flowI (kd pq.toNatClampNeg) (sz_ bq.toNatClampNeg) sw sh)))), (sh + (flowI (kd pq.toNatClampNeg) (sz_ bq.toNatClampNeg) sw sh))) hQ hx hb hr hlocks hS dX4_passMinute_73 hv hP hD
theorem v_X4_passMinute (l : Launch) (G : Gt) (s0 t t1 t2 t3 t4 t5 t6 : Nat) (sz : Nat) (sw : Int32) (sh : Int32) (ns : Int32) (np : Int32) (fu : Int32) (fd : Int32) (fi : Int32) (sz_ : Nat → Int32) (pt : Nat → Int32) (fh : Nat → Int32) (kd : Nat → Int32) (nd : Nat → Int32) (fw : Nat → Int32) (pq : Int32) (bq : Int32) (T : Nat → Nat → Int) (Ns : Nat) (Np : Nat) (ip : Nat) (xx : Int × Int) (hp : TOK T Ns Np ∧ CT T Ns Np ns np fu fd fi sz_ pt kd nd ∧ pq = nI ip ∧ ip < Np ∧ SOK T Ns bq.toInt xx ∧ sw.toInt = xx.1 ∧ sh.toInt = xx.2) : (¬ (¬ bq < 0 ∧ ¬ ns ≤ bq) → (vp_in pq 8) ∧ ((sw - (if (frostI (kd pq.toNatClampNeg) fu fd (if ¬ bq < 0 ∧ ¬ ns ≤ bq then 1 else 0)) < sw then (frostI (kd pq.toNatClampNeg) fu fd (if ¬ bq < 0 ∧ ¬ ns ≤ bq then 1 else 0)) else sw)).toInt = (zSt T ip bq.toInt xx).1 ∧ sh.toInt = (zSt T ip bq.toInt xx).2)) ∧ (¬ bq < 0 ∧ ¬ ns ≤ bq → (vp_in pq 8 ∧ vp_in bq 9) ∧ ((vp_in pq 8) ∧ (((sw - (flowI (kd pq.toNatClampNeg) (sz_ bq.toNatClampNeg) sw sh)) - (if (frostI (kd pq.toNatClampNeg) fu fd (if ¬ bq < 0 ∧ ¬ ns ≤ bq then 1 else 0)) < (sw - (flowI (kd pq.toNatClampNeg) (sz_ bq.toNatClampNeg) sw sh)) then (frostI (kd pq.toNatClampNeg) fu fd (if ¬ bq < 0 ∧ ¬ ns ≤ bq then 1 else 0)) else (sw - (flowI (kd pq.toNatClampNeg) (sz_ bq.toNatClampNeg) sw sh)))).toInt = (zSt T ip bq.toInt xx).1 ∧ (sh + (flowI (kd pq.toNatClampNeg) (sz_ bq.toNatClampNeg) sw sh)).toInt = (zSt T ip bq.toInt xx).2))) := by
  obtain ⟨hT, hC, rfl, hi, hS, hw, hh⟩ := hp
  have t1 := hT.1
  have t2 := hT.2.1
  have t5 := hT.2.2.2.2
  have cp : (nI ip).toNatClampNeg = ip := nI_clamp (by omega)
  have vo : vp_in (nI ip) 8 := vp_in_nI (by omega) (by omega)
  have hs_ := hs_iff (x := bq) hC.1 (by omega)
  have hk := (hC.2.2.2.1 ip hi).1
  obtain ⟨s1, s2, s3, s4, s5⟩ := hS
  simp only [cp]
  refine ⟨fun h => ⟨vo, ?_⟩, fun h => ?_⟩
  · have hn : bq.toInt < 0 := by
      have := mt hs_.mpr h
      omega
    have hF : (frostI (kd ip) fu fd (if ¬ bq < 0 ∧ ¬ ns ≤ bq then 1 else 0)).toInt = frostZ (T 2 ip) (T 4 0) (T 4 1) false := frostI_Z hk hC.2.2.2.2.1 hC.2.2.2.2.2.1 (by rw [if_neg h]; rfl) t5.1
    have fz := frostZ_bd (k := T 2 ip) (s := false) t5.1 t5.2.1 t5.2.2.1 t5.2.2.2.1
    have mb := minZ_bd (x := frostZ (T 2 ip) (T 4 0) (T 4 1) false) (y := xx.1) fz.1 s1
    rw [zSt_up hn]
    refine ⟨i_sub hw ?_ (by omega) (by omega), hh⟩
    rw [i_if (i_lt hF hw) hF hw]
    unfold minZ
    split <;> split <;> omega
  · have hb := hs_.mp h
    obtain ⟨b, hbn, rfl, hbi, hbt⟩ := in_nat hb (by omega)
    have cb : (nI b).toNatClampNeg = b := nI_clamp (by omega)
    have vb : vp_in (nI b) 9 := vp_in_nI (by omega) (by omega)
    simp only [cb]
    refine ⟨⟨vo, vb⟩, vo, ?_⟩
    have h6 := s5 hb.1
    rw [hbt] at h6
    have a3 := hT.2.2.1 b hbn
    have fb := flowZ_bd (k := T 2 ip) s1 s2 h6.1 h6.2 a3.2.1
    have hf : (flowI (kd ip) (sz_ b) sw sh).toInt = flowZ (T 2 ip) (T 0 b) xx.1 xx.2 := flowI_Z hk (hC.2.2.1 b hbn).1 hw hh s1 s2 h6.1 h6.2 a3.2.1
    have hF : (frostI (kd ip) fu fd (if ¬ nI b < 0 ∧ ¬ ns ≤ nI b then 1 else 0)).toInt = frostZ (T 2 ip) (T 4 0) (T 4 1) true := frostI_Z hk hC.2.2.2.2.1 hC.2.2.2.2.2.1 (by rw [if_pos h]; rfl) t5.1
    have fz := frostZ_bd (k := T 2 ip) (s := true) t5.1 t5.2.1 t5.2.2.1 t5.2.2.2.1
    have mb := minZ_bd (x := frostZ (T 2 ip) (T 4 0) (T 4 1) true) (y := xx.1 - flowZ (T 2 ip) (T 0 b) xx.1 xx.2) fz.1 fb.2.2.1
    rw [hbi, zSt_dn]
    have hw1 := i_sub hw hf (by omega) (by omega)
    refine ⟨i_sub hw1 ?_ (by omega) (by omega), i_add hh hf (by omega) (by omega)⟩
    rw [i_if (i_lt hF hw1) hF hw1]
    unfold minZ
    split <;> split <;> omega
theorem k_X4_passMinute (l : Launch) (G : Gt) (s0 t t1 t2 t3 t4 t5 t6 : Nat) (sz : Nat) (sw : Int32) (sh : Int32) (ns : Int32) (np : Int32) (fu : Int32) (fd : Int32) (fi : Int32) (sz_ : Nat → Int32) (pt : Nat → Int32) (fh : Nat → Int32) (kd : Nat → Int32) (nd : Nat → Int32) (fw : Nat → Int32) (pq : Int32) (bq : Int32) (T : Nat → Nat → Int) (Ns : Nat) (Np : Nat) (ip : Nat) (xx : Int × Int) (hp : TOK T Ns Np ∧ CT T Ns Np ns np fu fd fi sz_ pt kd nd ∧ pq = nI ip ∧ ip < Np ∧ SOK T Ns bq.toInt xx ∧ sw.toInt = xx.1 ∧ sh.toInt = xx.2) : MetV l yX4_passMinute wsX4_passMinute 2 45 G [.ref s0, .ref t, .int pq, .int bq] [(s0, .inr (4, [.int sw, .int sh])), (t, .inr (6, [.int ns, .int np, .int fu, .int fd, .int fi, .ref t1, .ref t2, .ref t3, .ref t4, .ref t5, .ref t6])), aI G t1 9 sz_, aI G t2 9 pt, aI G t3 9 fh, aI G t4 8 kd, aI G t5 8 nd, aI G t6 8 fw] sz (fun (u : (Int32) × (Int32)) => u.1.toInt = (zSt T ip bq.toInt xx).1 ∧ u.2.toInt = (zSt T ip bq.toInt xx).2) (fun (u : (Int32) × (Int32)) => [(s0, .inr (4, [.int u.1, .int u.2])), (t, .inr (6, [.int ns, .int np, .int fu, .int fd, .int fi, .ref t1, .ref t2, .ref t3, .ref t4, .ref t5, .ref t6])), aI G t1 9 sz_, aI G t2 9 pt, aI G t3 9 fh, aI G t4 8 kd, aI G t5 8 nd, aI G t6 8 fw]) :=
  c_X4_passMinute l G s0 t t1 t2 t3 t4 t5 t6 sz sw sh ns np fu fd fi sz_ pt fh kd nd fw pq bq T Ns Np ip xx (v_X4_passMinute l G s0 t t1 t2 t3 t4 t5 t6 sz sw sh ns np fu fd fi sz_ pt fh kd nd fw pq bq T Ns Np ip xx hp)

set_option maxHeartbeats 4000000 in
set_option maxRecDepth 100000 in
theorem c_X0_append (l : Launch) (G : Gt) (b0 b01 b02 : Nat) (sz : Nat) (en : Int32) (bs : Nat → Int32) (bh : Nat → Int32) (x : Int32) (y : Int32) (hv : (30 ≤ en → (en : Int32) = en + 1 ∧ ((bs : Nat → Int32) = upd bs en.toNatClampNeg x) ∧ ((bh : Nat → Int32) = upd bh en.toNatClampNeg y)) ∧ (¬ (30 ≤ en) → (vp_in en 30) ∧ ((vp_in en 30) ∧ (((en + 1) : Int32) = en + 1 ∧ (((upd bs en.toNatClampNeg x) : Nat → Int32) = upd bs en.toNatClampNeg x) ∧ (((upd bh en.toNatClampNeg y) : Nat → Int32) = upd bh en.toNatClampNeg y))))) : MetV l yX0_append wsX0_append 0 0 G [.ref b0, .int x, .int y] [(b0, .inr (0, [.ref b01, .ref b02, .int en])), aI G b01 30 bs, aI G b02 30 bh] sz (fun (u : (Int32) × (Nat → Int32) × (Nat → Int32)) => (u.1 : Int32) = en + 1 ∧ ((u.2.1 : Nat → Int32) = upd bs en.toNatClampNeg x) ∧ ((u.2.2 : Nat → Int32) = upd bh en.toNatClampNeg y)) (fun (u : (Int32) × (Nat → Int32) × (Nat → Int32)) => [(b0, .inr (0, [.ref b01, .ref b02, .int u.1])), aI G b01 30 u.2.1, aI G b02 30 u.2.2]) := by
  refine x_startV (cc := cX0_append) (maxL := 3) (ret := none) (by decide) rfl (Nat.le_of_ble_eq_true rfl) ?_
  intro p e s m args below meth c A R Q ls hRf hRl hQ C hP hD hS hA hSS hl
  obtain ⟨hx, hb, hr, hml, hown, hts, hlocks, hKK⟩ := C
  have hown : s.vm.findClass RX0 = some m.cls := hown
  have hl : lv_has ls 3 [(0, .ref b0), (1, .int x), (2, .int y)] := hl
  have hinX0 : ∀ w ∈ u_ws RX0 TX0 3, w ∈ wsX0_append := by decide +kernel
  have kl15 := hts (.fieldLink RX0 15 "WarmStones$Book" "heat" "[I") (by decide +kernel)
  have kl18 := hts (.fieldLink RX0 18 "WarmStones$Book" "entries" "I") (by decide +kernel)
  have kl9 := hts (.fieldLink RX0 9 "WarmStones$Book" "stone" "[I") (by decide +kernel)
  refine lv_aload_n hx hb dX0_append_0 rfl (lv_at hl 0 rfl) ?_
  refine va_get (D := G.1) (ci := 0) (v := .int en) (C := RX0) (T := TX0) (N := 3) hx hb hts hinX0 hown hKK.1 hP 0 rfl rfl 2 (by decide) kl18 (fun _ h9 => h9) rfl dX0_append_1 ?_
  refine lv_bipush (v := 30) hx hb dX0_append_4 (by decide) ?_
  refine lv_icmp_ge (tgt := 39) hx hb dX0_append_6 (by decide) (fun hc_1 => ?_) (fun hc_1 => ?_)
  · have hv := hv.1 hc_1
    exact x_vret (en, bs, bh) hQ hx hb hr hlocks hS dX0_append_39 hv hP hD
  · have hv := hv.2 hc_1
    refine lv_aload_n hx hb dX0_append_9 rfl (lv_at hl 0 rfl) ?_
    refine va_get (D := G.1) (ci := 0) (v := .ref b01) (C := RX0) (T := TX0) (N := 3) hx hb hts hinX0 hown hKK.1 hP 0 rfl rfl 0 (by decide) kl9 (fun _ h9 => h9) rfl dX0_append_10 ?_
    refine lv_aload_n hx hb dX0_append_13 rfl (lv_at hl 0 rfl) ?_
    refine va_get (D := G.1) (ci := 0) (v := .int en) (C := RX0) (T := TX0) (N := 3) hx hb hts hinX0 hown hKK.1 hP 0 rfl rfl 2 (by decide) kl18 (fun _ h9 => h9) rfl dX0_append_14 ?_
    refine lv_iload_n hx hb dX0_append_17 rfl (lv_at hl 1 rfl) ?_
    obtain ⟨hin, hv⟩ := hv
    refine va_iast hx hb hKK.1 hP hD hS 1 0 rfl rfl hin dX0_append_18 (fun H locs hP hD hS => ?_)
    have hP : va_P G.1 vwCl [(b0, .inr (0, [.ref b01, .ref b02, .int en])), aI G b01 30 (upd bs en.toNatClampNeg x), aI G b02 30 bh] H := hP
    have hD : va_D A [(b0, .inr (0, [.ref b01, .ref b02, .int en])), aI G b01 30 (upd bs en.toNatClampNeg x), aI G b02 30 bh] := hD
    refine lv_aload_n hx hb dX0_append_19 rfl (lv_at hl 0 rfl) ?_
    refine va_get (D := G.1) (ci := 0) (v := .ref b02) (C := RX0) (T := TX0) (N := 3) hx hb hts hinX0 hown hKK.1 hP 0 rfl rfl 1 (by decide) kl15 (fun _ h9 => h9) rfl dX0_append_20 ?_
    refine lv_aload_n hx hb dX0_append_23 rfl (lv_at hl 0 rfl) ?_
    refine va_get (D := G.1) (ci := 0) (v := .int en) (C := RX0) (T := TX0) (N := 3) hx hb hts hinX0 hown hKK.1 hP 0 rfl rfl 2 (by decide) kl18 (fun _ h9 => h9) rfl dX0_append_24 ?_
    refine lv_iload_n hx hb dX0_append_27 rfl (lv_at hl 2 rfl) ?_
    obtain ⟨hin, hv⟩ := hv
    refine va_iast hx hb hKK.1 hP hD hS 2 0 rfl rfl hin dX0_append_28 (fun H locs hP hD hS => ?_)
    have hP : va_P G.1 vwCl [(b0, .inr (0, [.ref b01, .ref b02, .int en])), aI G b01 30 (upd bs en.toNatClampNeg x), aI G b02 30 (upd bh en.toNatClampNeg y)] H := hP
    have hD : va_D A [(b0, .inr (0, [.ref b01, .ref b02, .int en])), aI G b01 30 (upd bs en.toNatClampNeg x), aI G b02 30 (upd bh en.toNatClampNeg y)] := hD
    refine lv_aload_n hx hb dX0_append_29 rfl (lv_at hl 0 rfl) ?_
    refine lv_dup hx hb dX0_append_30 rfl ?_
    refine va_get (D := G.1) (ci := 0) (v := .int en) (C := RX0) (T := TX0) (N := 3) hx hb hts hinX0 hown hKK.1 hP 0 rfl rfl 2 (by decide) kl18 (fun _ h9 => h9) rfl dX0_append_31 ?_
    refine lv_iconst (v := 1) hx hb dX0_append_34 (by decide) ?_
    refine lv_iadd hx hb dX0_append_35 ?_
    refine va_put (D := G.1) (ci := 0) (v := .int (en + 1)) (ty := .int) (C := RX0) (T := TX0) (N := 3) hx hb hts hinX0 tyX0 tyX0_ok nmX0 hown hKK.1 hP hD hS 0 rfl rfl 2 (by decide) kl18 (fun _ h9 => h9) rfl (by decide +kernel) rfl rfl (Nat.le_of_ble_eq_true rfl) dX0_append_36 (fun H locs hP hD hS => ?_)
    have hP : va_P G.1 vwCl [(b0, .inr (0, [.ref b01, .ref b02, .int (en + 1)])), aI G b01 30 (upd bs en.toNatClampNeg x), aI G b02 30 (upd bh en.toNatClampNeg y)] H := hP
    have hD : va_D A [(b0, .inr (0, [.ref b01, .ref b02, .int (en + 1)])), aI G b01 30 (upd bs en.toNatClampNeg x), aI G b02 30 (upd bh en.toNatClampNeg y)] := hD
    exact x_vret ((en + 1), (upd bs en.toNatClampNeg x), (upd bh en.toNatClampNeg y)) hQ hx hb hr hlocks hS dX0_append_39 hv hP hD
theorem v_X0_append (l : Launch) (G : Gt) (b0 b01 b02 : Nat) (sz : Nat) (en : Int32) (bs : Nat → Int32) (bh : Nat → Int32) (x : Int32) (y : Int32) (hp : vp_in en 30 ∧ en < 30) : (30 ≤ en → (en : Int32) = en + 1 ∧ ((bs : Nat → Int32) = upd bs en.toNatClampNeg x) ∧ ((bh : Nat → Int32) = upd bh en.toNatClampNeg y)) ∧ (¬ (30 ≤ en) → (vp_in en 30) ∧ ((vp_in en 30) ∧ (((en + 1) : Int32) = en + 1 ∧ (((upd bs en.toNatClampNeg x) : Nat → Int32) = upd bs en.toNatClampNeg x) ∧ (((upd bh en.toNatClampNeg y) : Nat → Int32) = upd bh en.toNatClampNeg y)))) := by
  simp_all
theorem k_X0_append (l : Launch) (G : Gt) (b0 b01 b02 : Nat) (sz : Nat) (en : Int32) (bs : Nat → Int32) (bh : Nat → Int32) (x : Int32) (y : Int32) (hp : vp_in en 30 ∧ en < 30) : MetV l yX0_append wsX0_append 0 0 G [.ref b0, .int x, .int y] [(b0, .inr (0, [.ref b01, .ref b02, .int en])), aI G b01 30 bs, aI G b02 30 bh] sz (fun (u : (Int32) × (Nat → Int32) × (Nat → Int32)) => (u.1 : Int32) = en + 1 ∧ ((u.2.1 : Nat → Int32) = upd bs en.toNatClampNeg x) ∧ ((u.2.2 : Nat → Int32) = upd bh en.toNatClampNeg y)) (fun (u : (Int32) × (Nat → Int32) × (Nat → Int32)) => [(b0, .inr (0, [.ref b01, .ref b02, .int u.1])), aI G b01 30 u.2.1, aI G b02 30 u.2.2]) :=
  c_X0_append l G b0 b01 b02 sz en bs bh x y (v_X0_append l G b0 b01 b02 sz en bs bh x y hp)

set_option maxHeartbeats 4000000 in
set_option maxRecDepth 100000 in
theorem c_X0_firstWrong (l : Launch) (G : Gt) (b0 b01 b02 t t1 t2 t3 t4 t5 t6 n n1 n2 n3 n4 n5 n6 n7 : Nat) (sz : Nat) (en : Int32) (bs : Nat → Int32) (bh : Nat → Int32) (ns : Int32) (np : Int32) (fu : Int32) (fd : Int32) (fi : Int32) (sz_ : Nat → Int32) (pt : Nat → Int32) (fh : Nat → Int32) (kd : Nat → Int32) (nd : Nat → Int32) (fw : Nat → Int32) (ht : Nat → Int32) (wm : Nat → Int32) (se : Nat → Int32) (cd : Nat → Int32) (sl : Nat → Int32) (od : Nat → Int32) (ow : Nat → Int32) (lo : Int32) (mi : Int32) (sd : Int32) (T : Nat → Nat → Int) (Ns : Nat) (Np : Nat) (v : Nat → Int) (M : Int) (ek : Nat) (hv : ∃ (I2_10 : (Nat → Int32) → (Nat → Int32) → (Nat → Int32) → (Nat → Int32) → (Nat → Int32) → (Nat → Int32) → Int32 → Int32 → Int32 → Prop) (μ2_11 : (Nat → Int32) → (Nat → Int32) → (Nat → Int32) → (Nat → Int32) → (Nat → Int32) → (Nat → Int32) → Int32 → Int32 → Int32 → Nat), I2_10 ht wm cd sl od ow lo mi 0 ∧ (∀ (fn1_1 : (Nat → Int32)) (fn2_2 : (Nat → Int32)) (fn4_3 : (Nat → Int32)) (fn5_4 : (Nat → Int32)) (fn6_5 : (Nat → Int32)) (fn7_6 : (Nat → Int32)) (gn7_7 : Int32) (gn8_8 : Int32) (x3_9 : Int32), I2_10 fn1_1 fn2_2 fn4_3 fn5_4 fn6_5 fn7_6 gn7_7 gn8_8 x3_9 → (en ≤ x3_9 → ((-1) : Int32).toInt = aJudge T Ns Np v bs bh ek) ∧ (¬ (en ≤ x3_9) → (vp_in x3_9 30) ∧ ((¬ (¬ (bs x3_9.toNatClampNeg) < 0 ∧ ¬ ns ≤ (bs x3_9.toNatClampNeg)) → x3_9.toInt = aJudge T Ns Np v bs bh ek) ∧ (¬ (bs x3_9.toNatClampNeg) < 0 ∧ ¬ ns ≤ (bs x3_9.toNatClampNeg) → (vp_in x3_9 30) ∧ ((vp_in (bs x3_9.toNatClampNeg) 9) ∧ ((vp_in x3_9 30) ∧ (((fn1_1 (bs x3_9.toNatClampNeg).toNatClampNeg) = (bh x3_9.toNatClampNeg) → ∃ (gT_18 : Nat → Nat → Int) (gNs_19 : Nat) (gNp_20 : Nat) (gv_21 : Nat → Int) (gM_22 : Int), ((TOK gT_18 gNs_19 gNp_20 ∧ CT gT_18 gNs_19 gNp_20 ns np fu fd fi sz_ pt kd nd ∧ CN gNs_19 gNp_20 gv_21 fn1_1 fn2_2 se fn4_3 fn5_4 fn6_5 fn7_6 gn7_7 gn8_8 sd ∧ NOK gT_18 gNs_19 gNp_20 (fun _ => 2 * gM_22) gM_22 gv_21 ∧ gM_22 ≤ 1000000) ∧ (∀ (r_23 : Int32) (ht2_24 : Nat → Int32) (wm2_25 : Nat → Int32) (cd2_26 : Nat → Int32) (sl2_27 : Nat → Int32) (od2_28 : Nat → Int32) (ow2_29 : Nat → Int32) (lo2_30 : Int32) (mi2_31 : Int32), (r_23 = nI (zCs gT_18 (zPass gT_18 gNs_19 gNp_20 gv_21) gNp_20) ∧ CN gNs_19 gNp_20 (zPass gT_18 gNs_19 gNp_20 gv_21) ht2_24 wm2_25 se cd2_26 sl2_27 od2_28 ow2_29 lo2_30 mi2_31 sd) → (I2_10 ht2_24 wm2_25 cd2_26 sl2_27 od2_28 ow2_29 lo2_30 mi2_31 (x3_9 + 1) ∧ μ2_11 ht2_24 wm2_25 cd2_26 sl2_27 od2_28 ow2_29 lo2_30 mi2_31 (x3_9 + 1) < μ2_11 fn1_1 fn2_2 fn4_3 fn5_4 fn6_5 fn7_6 gn7_7 gn8_8 x3_9)))) ∧ (¬ ((fn1_1 (bs x3_9.toNatClampNeg).toNatClampNeg) = (bh x3_9.toNatClampNeg)) → x3_9.toInt = aJudge T Ns Np v bs bh ek))))))))) : MetI l yX0_firstWrong wsX0_firstWrong 4 95 G [.ref b0, .ref t, .ref n] [(b0, .inr (0, [.ref b01, .ref b02, .int en])), aI G b01 30 bs, aI G b02 30 bh, (t, .inr (6, [.int ns, .int np, .int fu, .int fd, .int fi, .ref t1, .ref t2, .ref t3, .ref t4, .ref t5, .ref t6])), aI G t1 9 sz_, aI G t2 9 pt, aI G t3 9 fh, aI G t4 8 kd, aI G t5 8 nd, aI G t6 8 fw, (n, .inr (1, [.ref n1, .ref n2, .ref n3, .ref n4, .ref n5, .ref n6, .ref n7, .int lo, .int mi, .int sd])), aI G n1 9 ht, aI G n2 8 wm, aI G n3 8 se, aI G n4 8 cd, aI G n5 8 sl, aI G n6 8 od, aI G n7 72 ow] sz (fun (r : Int32) (u : (Nat → Int32) × (Nat → Int32) × (Nat → Int32) × (Nat → Int32) × (Nat → Int32) × (Nat → Int32) × (Int32) × (Int32)) => r.toInt = aJudge T Ns Np v bs bh ek) (fun (u : (Nat → Int32) × (Nat → Int32) × (Nat → Int32) × (Nat → Int32) × (Nat → Int32) × (Nat → Int32) × (Int32) × (Int32)) => [(b0, .inr (0, [.ref b01, .ref b02, .int en])), aI G b01 30 bs, aI G b02 30 bh, (t, .inr (6, [.int ns, .int np, .int fu, .int fd, .int fi, .ref t1, .ref t2, .ref t3, .ref t4, .ref t5, .ref t6])), aI G t1 9 sz_, aI G t2 9 pt, aI G t3 9 fh, aI G t4 8 kd, aI G t5 8 nd, aI G t6 8 fw, (n, .inr (1, [.ref n1, .ref n2, .ref n3, .ref n4, .ref n5, .ref n6, .ref n7, .int u.2.2.2.2.2.2.1, .int u.2.2.2.2.2.2.2, .int sd])), aI G n1 9 u.1, aI G n2 8 u.2.1, aI G n3 8 se, aI G n4 8 u.2.2.1, aI G n5 8 u.2.2.2.1, aI G n6 8 u.2.2.2.2.1, aI G n7 72 u.2.2.2.2.2.1]) := by
  refine x_startI (cc := cX0_firstWrong) (maxL := 4) (ret := (some .int)) (by decide) rfl (Nat.le_of_ble_eq_true rfl) ?_
  intro p e s m args below meth c A R Q ls hRf hRl hQ C hP hD hS hA hSS hl
  obtain ⟨hx, hb, hr, hml, hown, hts, hlocks, hKK⟩ := C
  have hown : s.vm.findClass RX0 = some m.cls := hown
  have hl : lv_has ls 4 [(0, .ref b0), (1, .ref t), (2, .ref n)] := hl
  have hinX0 : ∀ w ∈ u_ws RX0 TX0 3, w ∈ wsX0_firstWrong := by decide +kernel
  have hinX1 : ∀ w ∈ u_ws RX1 TX1 10, w ∈ wsX0_firstWrong := by decide +kernel
  have kl15 := hts (.fieldLink RX0 15 "WarmStones$Book" "heat" "[I") (by decide +kernel)
  have kl18 := hts (.fieldLink RX0 18 "WarmStones$Book" "entries" "I") (by decide +kernel)
  have kl28 := hts (.fieldLink RX0 28 "WarmStones$Night" "heat" "[I") (by decide +kernel)
  have kl9 := hts (.fieldLink RX0 9 "WarmStones$Book" "stone" "[I") (by decide +kernel)
  refine lv_iconst (v := 0) hx hb dX0_firstWrong_0 (by decide) ?_
  refine lv_istore_n (lv' := [(3, .int 0), (0, .ref b0), (1, .ref t), (2, .ref n)]) hx hb dX0_firstWrong_1 rfl hl (by decide) rfl (fun ls hl => ?_)
  obtain ⟨I2_10, μ2_11, hi0, hs_32⟩ := hv
  have Lm_34 : ∀ (n_33 : Nat) (fn1_1 : (Nat → Int32)) (fn2_2 : (Nat → Int32)) (fn4_3 : (Nat → Int32)) (fn5_4 : (Nat → Int32)) (fn6_5 : (Nat → Int32)) (fn7_6 : (Nat → Int32)) (gn7_7 : Int32) (gn8_8 : Int32) (x3_9 : Int32) (H : Heap) (locs : List Loc) (ls : Array Slot), μ2_11 fn1_1 fn2_2 fn4_3 fn5_4 fn6_5 fn7_6 gn7_7 gn8_8 x3_9 < n_33 → I2_10 fn1_1 fn2_2 fn4_3 fn5_4 fn6_5 fn7_6 gn7_7 gn8_8 x3_9 → va_P G.1 vwCl [(b0, .inr (0, [.ref b01, .ref b02, .int en])), aI G b01 30 bs, aI G b02 30 bh, (t, .inr (6, [.int ns, .int np, .int fu, .int fd, .int fi, .ref t1, .ref t2, .ref t3, .ref t4, .ref t5, .ref t6])), aI G t1 9 sz_, aI G t2 9 pt, aI G t3 9 fh, aI G t4 8 kd, aI G t5 8 nd, aI G t6 8 fw, (n, .inr (1, [.ref n1, .ref n2, .ref n3, .ref n4, .ref n5, .ref n6, .ref n7, .int gn7_7, .int gn8_8, .int sd])), aI G n1 9 fn1_1, aI G n2 8 fn2_2, aI G n3 8 se, aI G n4 8 fn4_3, aI G n5 8 fn5_4, aI G n6 8 fn6_5, aI G n7 72 fn7_6] H → va_D A [(b0, .inr (0, [.ref b01, .ref b02, .int en])), aI G b01 30 bs, aI G b02 30 bh, (t, .inr (6, [.int ns, .int np, .int fu, .int fd, .int fi, .ref t1, .ref t2, .ref t3, .ref t4, .ref t5, .ref t6])), aI G t1 9 sz_, aI G t2 9 pt, aI G t3 9 fh, aI G t4 8 kd, aI G t5 8 nd, aI G t6 8 fw, (n, .inr (1, [.ref n1, .ref n2, .ref n3, .ref n4, .ref n5, .ref n6, .ref n7, .int gn7_7, .int gn8_8, .int sd])), aI G n1 9 fn1_1, aI G n2 8 fn2_2, aI G n3 8 se, aI G n4 8 fn4_3, aI G n5 8 fn5_4, aI G n6 8 fn6_5, aI G n7 72 fn7_6] → va_S A s.heap H locs → lv_has ls 4 [(3, .int x3_9), (0, .ref b0), (1, .ref t), (2, .ref n)] → W p l e R s m args below meth c H locs 0 0 Q (F0 m 2 ls []) := by
    intro n_33
    induction n_33 with
    | zero => intro fn1_1 fn2_2 fn4_3 fn5_4 fn6_5 fn7_6 gn7_7 gn8_8 x3_9 H locs ls hm; exact absurd hm (Nat.not_lt_zero _)
    | succ n_33 ih_12 =>
      intro fn1_1 fn2_2 fn4_3 fn5_4 fn6_5 fn7_6 gn7_7 gn8_8 x3_9 H locs ls hI_13 hi hP hD hS hl
      have hv := hs_32 fn1_1 fn2_2 fn4_3 fn5_4 fn6_5 fn7_6 gn7_7 gn8_8 x3_9 hi
      refine lv_iload_n hx hb dX0_firstWrong_2 rfl (lv_at hl 0 rfl) ?_
      refine lv_aload_n hx hb dX0_firstWrong_3 rfl (lv_at hl 1 rfl) ?_
      refine va_get (D := G.1) (ci := 0) (v := .int en) (C := RX0) (T := TX0) (N := 3) hx hb hts hinX0 hown hKK.1 hP 0 rfl rfl 2 (by decide) kl18 (fun _ h9 => h9) rfl dX0_firstWrong_4 ?_
      refine lv_icmp_ge (tgt := 57) hx hb dX0_firstWrong_7 (by decide) (fun hc_14 => ?_) (fun hc_14 => ?_)
      · have hv := hv.1 hc_14
        refine lv_iconst (v := (-1)) hx hb dX0_firstWrong_57 (by decide) ?_
        exact x_iret (v := (-1)) (fn1_1, fn2_2, fn4_3, fn5_4, fn6_5, fn7_6, gn7_7, gn8_8) hQ hx hb hr hlocks hS dX0_firstWrong_58 hv hP hD
      · have hv := hv.2 hc_14
        refine lv_aload_n hx hb dX0_firstWrong_10 rfl (lv_at hl 2 rfl) ?_
        refine lv_aload_n hx hb dX0_firstWrong_11 rfl (lv_at hl 1 rfl) ?_
        refine va_get (D := G.1) (ci := 0) (v := .ref b01) (C := RX0) (T := TX0) (N := 3) hx hb hts hinX0 hown hKK.1 hP 0 rfl rfl 0 (by decide) kl9 (fun _ h9 => h9) rfl dX0_firstWrong_12 ?_
        refine lv_iload_n hx hb dX0_firstWrong_15 rfl (lv_at hl 0 rfl) ?_
        obtain ⟨hin, hv⟩ := hv
        refine va_iald hx hb hKK.1 hP 1 0 rfl rfl hin dX0_firstWrong_16 ?_
        refine x_calliR (x_runV (As := [.int (bs x3_9.toNatClampNeg)]) (rest := []) (n := 1) (C := RX6) (ci := 6) ⟨hx, hb, hml, hown, hts⟩ (k_X6_hasStone l G t t1 t2 t3 t4 t5 t6 _ ns np fu fd fi sz_ pt fh kd nd fw (bs x3_9.toNatClampNeg)) gX0_firstWrong_X6_hasStone rfl (by decide +kernel) ⟨Nat.le_trans (Nat.le_of_ble_eq_true rfl) hRf, Nat.le_trans (Nat.le_of_ble_eq_true rfl) hRl⟩ hKK hSS hS hA hP hD [3, 4, 5, 6, 7, 8, 9] (by decide) rfl rfl rfl 3 rfl rfl hl.1 rfl (Nat.le_of_ble_eq_true rfl) dX0_firstWrong_17) hP hD hS hA [3, 4, 5, 6, 7, 8, 9] rfl (fun r_15 _ H locs hw hP hS => ?_)
        replace hw := hw.symm; subst hw
        refine lv_if_eq (tgt := 43) hx hb dX0_firstWrong_20 (by decide) (fun hc_16 => ?_) (fun hc_16 => ?_)
        · have hv := hv.1 (tv_eq.mp hc_16)
          refine lv_iload_n hx hb dX0_firstWrong_43 rfl (lv_at hl 0 rfl) ?_
          exact x_iret (v := x3_9) (fn1_1, fn2_2, fn4_3, fn5_4, fn6_5, fn7_6, gn7_7, gn8_8) hQ hx hb hr hlocks hS dX0_firstWrong_44 hv hP hD
        · have hv := hv.2 (tv_eqn.mp hc_16)
          refine lv_aload_n hx hb dX0_firstWrong_23 rfl (lv_at hl 3 rfl) ?_
          refine va_get (D := G.1) (ci := 1) (v := .ref n1) (C := RX1) (T := TX1) (N := 10) hx hb hts hinX1 hown hKK.1 hP 10 rfl rfl 0 (by decide) kl28 (fun _ h9 => h9) rfl dX0_firstWrong_24 ?_
          refine lv_aload_n hx hb dX0_firstWrong_27 rfl (lv_at hl 1 rfl) ?_
          refine va_get (D := G.1) (ci := 0) (v := .ref b01) (C := RX0) (T := TX0) (N := 3) hx hb hts hinX0 hown hKK.1 hP 0 rfl rfl 0 (by decide) kl9 (fun _ h9 => h9) rfl dX0_firstWrong_28 ?_
          refine lv_iload_n hx hb dX0_firstWrong_31 rfl (lv_at hl 0 rfl) ?_
          obtain ⟨hin, hv⟩ := hv
          refine va_iald hx hb hKK.1 hP 1 0 rfl rfl hin dX0_firstWrong_32 ?_
          obtain ⟨hin, hv⟩ := hv
          refine va_iald hx hb hKK.1 hP 11 0 rfl rfl hin dX0_firstWrong_33 ?_
          refine lv_aload_n hx hb dX0_firstWrong_34 rfl (lv_at hl 1 rfl) ?_
          refine va_get (D := G.1) (ci := 0) (v := .ref b02) (C := RX0) (T := TX0) (N := 3) hx hb hts hinX0 hown hKK.1 hP 0 rfl rfl 1 (by decide) kl15 (fun _ h9 => h9) rfl dX0_firstWrong_35 ?_
          refine lv_iload_n hx hb dX0_firstWrong_38 rfl (lv_at hl 0 rfl) ?_
          obtain ⟨hin, hv⟩ := hv
          refine va_iald hx hb hKK.1 hP 2 0 rfl rfl hin dX0_firstWrong_39 ?_
          refine lv_icmp_eq (tgt := 45) hx hb dX0_firstWrong_40 (by decide) (fun hc_17 => ?_) (fun hc_17 => ?_)
          · have hv := hv.1 hc_17
            refine lv_aload_n hx hb dX0_firstWrong_45 rfl (lv_at hl 3 rfl) ?_
            refine lv_aload_n hx hb dX0_firstWrong_46 rfl (lv_at hl 2 rfl) ?_
            obtain ⟨gT_18, gNs_19, gNp_20, gv_21, gM_22, hv⟩ := hv
            obtain ⟨hp, hv⟩ := hv
            refine x_calli (wr := [(b0, .inr (0, [.ref b01, .ref b02, .int en])), aI G b01 30 bs, aI G b02 30 bh]) (w' := fun (u : (Nat → Int32) × (Nat → Int32) × (Nat → Int32) × (Nat → Int32) × (Nat → Int32) × (Nat → Int32) × (Int32) × (Int32)) => [(b0, .inr (0, [.ref b01, .ref b02, .int en])), aI G b01 30 bs, aI G b02 30 bh, (t, .inr (6, [.int ns, .int np, .int fu, .int fd, .int fi, .ref t1, .ref t2, .ref t3, .ref t4, .ref t5, .ref t6])), aI G t1 9 sz_, aI G t2 9 pt, aI G t3 9 fh, aI G t4 8 kd, aI G t5 8 nd, aI G t6 8 fw, (n, .inr (1, [.ref n1, .ref n2, .ref n3, .ref n4, .ref n5, .ref n6, .ref n7, .int u.2.2.2.2.2.2.1, .int u.2.2.2.2.2.2.2, .int sd])), aI G n1 9 u.1, aI G n2 8 u.2.1, aI G n3 8 se, aI G n4 8 u.2.2.1, aI G n5 8 u.2.2.2.1, aI G n6 8 u.2.2.2.2.1, aI G n7 72 u.2.2.2.2.2.1]) (x_runV (As := [.ref t]) (rest := []) (n := 1) (C := RX1) (ci := 1) ⟨hx, hb, hml, hown, hts⟩ (k_X1_passMinute l G n n1 n2 n3 n4 n5 n6 n7 t t1 t2 t3 t4 t5 t6 _ fn1_1 fn2_2 se fn4_3 fn5_4 fn6_5 fn7_6 gn7_7 gn8_8 sd ns np fu fd fi sz_ pt fh kd nd fw gT_18 gNs_19 gNp_20 gv_21 gM_22 hp) gX0_firstWrong_X1_passMinute rfl (by decide +kernel) ⟨Nat.le_trans (Nat.le_of_ble_eq_true rfl) hRf, Nat.le_trans (Nat.le_of_ble_eq_true rfl) hRl⟩ hKK hSS hS hA hP hD [10, 11, 12, 13, 14, 15, 16, 17, 3, 4, 5, 6, 7, 8, 9] (by decide) rfl rfl rfl 10 rfl rfl hl.1 rfl (Nat.le_of_ble_eq_true rfl) dX0_firstWrong_47) hP hD hS hA [10, 11, 12, 13, 14, 15, 16, 17, 3, 4, 5, 6, 7, 8, 9] [0, 1, 2] [0, 1, 2, 11, 12, 13, 14, 15, 16, 17, 3, 4, 5, 6, 7, 8, 9, 10] rfl rfl (by decide) (by decide) (by decide) (fun _ => rfl) (fun r_23 u H locs hw hP hD hS => ?_)
            obtain ⟨ht2_24, wm2_25, cd2_26, sl2_27, od2_28, ow2_29, lo2_30, mi2_31⟩ := u
            have hP : va_P G.1 vwCl [(b0, .inr (0, [.ref b01, .ref b02, .int en])), aI G b01 30 bs, aI G b02 30 bh, (t, .inr (6, [.int ns, .int np, .int fu, .int fd, .int fi, .ref t1, .ref t2, .ref t3, .ref t4, .ref t5, .ref t6])), aI G t1 9 sz_, aI G t2 9 pt, aI G t3 9 fh, aI G t4 8 kd, aI G t5 8 nd, aI G t6 8 fw, (n, .inr (1, [.ref n1, .ref n2, .ref n3, .ref n4, .ref n5, .ref n6, .ref n7, .int lo2_30, .int mi2_31, .int sd])), aI G n1 9 ht2_24, aI G n2 8 wm2_25, aI G n3 8 se, aI G n4 8 cd2_26, aI G n5 8 sl2_27, aI G n6 8 od2_28, aI G n7 72 ow2_29] H := hP
            have hD : va_D A [(b0, .inr (0, [.ref b01, .ref b02, .int en])), aI G b01 30 bs, aI G b02 30 bh, (t, .inr (6, [.int ns, .int np, .int fu, .int fd, .int fi, .ref t1, .ref t2, .ref t3, .ref t4, .ref t5, .ref t6])), aI G t1 9 sz_, aI G t2 9 pt, aI G t3 9 fh, aI G t4 8 kd, aI G t5 8 nd, aI G t6 8 fw, (n, .inr (1, [.ref n1, .ref n2, .ref n3, .ref n4, .ref n5, .ref n6, .ref n7, .int lo2_30, .int mi2_31, .int sd])), aI G n1 9 ht2_24, aI G n2 8 wm2_25, aI G n3 8 se, aI G n4 8 cd2_26, aI G n5 8 sl2_27, aI G n6 8 od2_28, aI G n7 72 ow2_29] := hD
            have hv := hv r_23 ht2_24 wm2_25 cd2_26 sl2_27 od2_28 ow2_29 lo2_30 mi2_31 hw
            refine lv_pop hx hb dX0_firstWrong_50 rfl ?_
            refine lv_iinc (v := (x3_9 + 1)) (lv' := [(3, .int (x3_9 + 1)), (0, .ref b0), (1, .ref t), (2, .ref n)]) hx hb dX0_firstWrong_51 hl (k := 0) rfl rfl (by decide) rfl (fun ls hl => ?_)
            refine lv_goto (tgt := 2) hx hb dX0_firstWrong_54 (by decide) ?_
            exact ih_12 _ _ _ _ _ _ _ _ _ _ _ _ (Nat.lt_of_lt_of_le hv.2 (Nat.le_of_lt_succ hI_13)) hv.1 hP hD hS hl
          · have hv := hv.2 hc_17
            refine lv_iload_n hx hb dX0_firstWrong_43 rfl (lv_at hl 0 rfl) ?_
            exact x_iret (v := x3_9) (fn1_1, fn2_2, fn4_3, fn5_4, fn6_5, fn7_6, gn7_7, gn8_8) hQ hx hb hr hlocks hS dX0_firstWrong_44 hv hP hD
  exact Lm_34 _ _ _ _ _ _ _ _ _ _ _ _ _ (Nat.lt_succ_self _) hi0 hP hD hS hl
theorem v_X0_firstWrong (l : Launch) (G : Gt) (b0 b01 b02 t t1 t2 t3 t4 t5 t6 n n1 n2 n3 n4 n5 n6 n7 : Nat) (sz : Nat) (en : Int32) (bs : Nat → Int32) (bh : Nat → Int32) (ns : Int32) (np : Int32) (fu : Int32) (fd : Int32) (fi : Int32) (sz_ : Nat → Int32) (pt : Nat → Int32) (fh : Nat → Int32) (kd : Nat → Int32) (nd : Nat → Int32) (fw : Nat → Int32) (ht : Nat → Int32) (wm : Nat → Int32) (se : Nat → Int32) (cd : Nat → Int32) (sl : Nat → Int32) (od : Nat → Int32) (ow : Nat → Int32) (lo : Int32) (mi : Int32) (sd : Int32) (T : Nat → Nat → Int) (Ns : Nat) (Np : Nat) (v : Nat → Int) (M : Int) (ek : Nat) (hp : TOK T Ns Np ∧ CT T Ns Np ns np fu fd fi sz_ pt kd nd ∧ CN Ns Np v ht wm se cd sl od ow lo mi sd ∧ NOK T Ns Np (fun _ => 2 * M) M v ∧ M ≤ 900000 ∧ en = nI ek ∧ ek ≤ 30 ∧ (∀ j, j < ek → 0 ≤ (bs j).toInt ∧ (bs j).toInt < Ns)) : ∃ (I2_10 : (Nat → Int32) → (Nat → Int32) → (Nat → Int32) → (Nat → Int32) → (Nat → Int32) → (Nat → Int32) → Int32 → Int32 → Int32 → Prop) (μ2_11 : (Nat → Int32) → (Nat → Int32) → (Nat → Int32) → (Nat → Int32) → (Nat → Int32) → (Nat → Int32) → Int32 → Int32 → Int32 → Nat), I2_10 ht wm cd sl od ow lo mi 0 ∧ (∀ (fn1_1 : (Nat → Int32)) (fn2_2 : (Nat → Int32)) (fn4_3 : (Nat → Int32)) (fn5_4 : (Nat → Int32)) (fn6_5 : (Nat → Int32)) (fn7_6 : (Nat → Int32)) (gn7_7 : Int32) (gn8_8 : Int32) (x3_9 : Int32), I2_10 fn1_1 fn2_2 fn4_3 fn5_4 fn6_5 fn7_6 gn7_7 gn8_8 x3_9 → (en ≤ x3_9 → ((-1) : Int32).toInt = aJudge T Ns Np v bs bh ek) ∧ (¬ (en ≤ x3_9) → (vp_in x3_9 30) ∧ ((¬ (¬ (bs x3_9.toNatClampNeg) < 0 ∧ ¬ ns ≤ (bs x3_9.toNatClampNeg)) → x3_9.toInt = aJudge T Ns Np v bs bh ek) ∧ (¬ (bs x3_9.toNatClampNeg) < 0 ∧ ¬ ns ≤ (bs x3_9.toNatClampNeg) → (vp_in x3_9 30) ∧ ((vp_in (bs x3_9.toNatClampNeg) 9) ∧ ((vp_in x3_9 30) ∧ (((fn1_1 (bs x3_9.toNatClampNeg).toNatClampNeg) = (bh x3_9.toNatClampNeg) → ∃ (gT_18 : Nat → Nat → Int) (gNs_19 : Nat) (gNp_20 : Nat) (gv_21 : Nat → Int) (gM_22 : Int), ((TOK gT_18 gNs_19 gNp_20 ∧ CT gT_18 gNs_19 gNp_20 ns np fu fd fi sz_ pt kd nd ∧ CN gNs_19 gNp_20 gv_21 fn1_1 fn2_2 se fn4_3 fn5_4 fn6_5 fn7_6 gn7_7 gn8_8 sd ∧ NOK gT_18 gNs_19 gNp_20 (fun _ => 2 * gM_22) gM_22 gv_21 ∧ gM_22 ≤ 1000000) ∧ (∀ (r_23 : Int32) (ht2_24 : Nat → Int32) (wm2_25 : Nat → Int32) (cd2_26 : Nat → Int32) (sl2_27 : Nat → Int32) (od2_28 : Nat → Int32) (ow2_29 : Nat → Int32) (lo2_30 : Int32) (mi2_31 : Int32), (r_23 = nI (zCs gT_18 (zPass gT_18 gNs_19 gNp_20 gv_21) gNp_20) ∧ CN gNs_19 gNp_20 (zPass gT_18 gNs_19 gNp_20 gv_21) ht2_24 wm2_25 se cd2_26 sl2_27 od2_28 ow2_29 lo2_30 mi2_31 sd) → (I2_10 ht2_24 wm2_25 cd2_26 sl2_27 od2_28 ow2_29 lo2_30 mi2_31 (x3_9 + 1) ∧ μ2_11 ht2_24 wm2_25 cd2_26 sl2_27 od2_28 ow2_29 lo2_30 mi2_31 (x3_9 + 1) < μ2_11 fn1_1 fn2_2 fn4_3 fn5_4 fn6_5 fn7_6 gn7_7 gn8_8 x3_9)))) ∧ (¬ ((fn1_1 (bs x3_9.toNatClampNeg).toNatClampNeg) = (bh x3_9.toNatClampNeg)) → x3_9.toInt = aJudge T Ns Np v bs bh ek)))))))) := by
  obtain ⟨hT, hC, hN, hO, hM, rfl, hen, hbk⟩ := hp
  have t1 := hT.1
  have t2 := hT.2.1
  have hns : ns = nI Ns := hC.1
  refine ⟨fun f1 f2 f4 f5 f6 f7 g7 g8 z => ∃ i, i ≤ ek ∧ z = nI i ∧ zJudge T Ns Np v bs bh i = i ∧ CN Ns Np (zGo T Ns Np v i) f1 f2 se f4 f5 f6 f7 g7 g8 sd, fun _ _ _ _ _ _ _ _ z => 30 - z.toNatClampNeg, ⟨0, by omega, rfl, rfl, hN⟩, ?_⟩
  rintro f1 f2 f4 f5 f6 f7 g7 g8 z ⟨i, hi, rfl, hs, hNi⟩
  have ei : (nI i).toNatClampNeg = i := nI_clamp (by omega)
  have ei1 : nI i + 1 = nI (i + 1) := nI_1 i
  have ej : (nI (i + 1)).toNatClampNeg = i + 1 := nI_clamp (by omega)
  simp only [ei, ei1, ej]
  refine ⟨fun h => ?_, fun h => ?_⟩
  · have e : ek = i := by have := (nI_leI (a := ek) (b := i) (by omega) (by omega)).mp h; omega
    subst e
    rw [aJudge, if_pos hs]; rfl
  · have hlt : i < ek := by
      rcases Nat.lt_or_ge i ek with q | q
      · exact q
      · exact absurd ((nI_leI (by omega) (by omega)).mpr q) h
    have hb := hbk i hlt
    have hs_ := (hs_iff (x := bs i) hns (by omega)).mpr hb
    have v30 : vp_in (nI i) 30 := vp_in_nI (by omega) (by omega)
    obtain ⟨c, hc, hbc, hbi, hbt⟩ := in_nat hb (by omega)
    have cb : (bs i).toNatClampNeg = c := by rw [hbc]; exact nI_clamp (by omega)
    have heq : f1 c = bh i ↔ zGo T Ns Np v i c = (bh i).toInt := i_eq (hNi.h t1 hc) rfl
    refine ⟨v30, fun q => absurd hs_ q, fun _ => ⟨v30, by rw [hbc]; exact vp_in_nI (by omega) (by omega), v30, ?_⟩⟩
    rw [cb, heq]
    refine ⟨fun q => ⟨T, Ns, Np, _, M + i, ⟨hT, hC, hNi, zGo_ok hT hO i, by omega⟩, fun r a1 a2 a3 a4 a5 a6 a7 a8 hw => ⟨⟨i + 1, by omega, rfl, ?_, hw.2⟩, by omega⟩⟩, fun q => ?_⟩
    · rw [zJudge, if_pos ⟨hs, by rw [hbt]; exact q⟩]
    · have e := zJudge_stop hs (by rw [hbt]; exact q) ek hlt
      rw [aJudge, if_neg (by omega), e, nI_toInt (by omega)]
theorem k_X0_firstWrong (l : Launch) (G : Gt) (b0 b01 b02 t t1 t2 t3 t4 t5 t6 n n1 n2 n3 n4 n5 n6 n7 : Nat) (sz : Nat) (en : Int32) (bs : Nat → Int32) (bh : Nat → Int32) (ns : Int32) (np : Int32) (fu : Int32) (fd : Int32) (fi : Int32) (sz_ : Nat → Int32) (pt : Nat → Int32) (fh : Nat → Int32) (kd : Nat → Int32) (nd : Nat → Int32) (fw : Nat → Int32) (ht : Nat → Int32) (wm : Nat → Int32) (se : Nat → Int32) (cd : Nat → Int32) (sl : Nat → Int32) (od : Nat → Int32) (ow : Nat → Int32) (lo : Int32) (mi : Int32) (sd : Int32) (T : Nat → Nat → Int) (Ns : Nat) (Np : Nat) (v : Nat → Int) (M : Int) (ek : Nat) (hp : TOK T Ns Np ∧ CT T Ns Np ns np fu fd fi sz_ pt kd nd ∧ CN Ns Np v ht wm se cd sl od ow lo mi sd ∧ NOK T Ns Np (fun _ => 2 * M) M v ∧ M ≤ 900000 ∧ en = nI ek ∧ ek ≤ 30 ∧ (∀ j, j < ek → 0 ≤ (bs j).toInt ∧ (bs j).toInt < Ns)) : MetI l yX0_firstWrong wsX0_firstWrong 4 95 G [.ref b0, .ref t, .ref n] [(b0, .inr (0, [.ref b01, .ref b02, .int en])), aI G b01 30 bs, aI G b02 30 bh, (t, .inr (6, [.int ns, .int np, .int fu, .int fd, .int fi, .ref t1, .ref t2, .ref t3, .ref t4, .ref t5, .ref t6])), aI G t1 9 sz_, aI G t2 9 pt, aI G t3 9 fh, aI G t4 8 kd, aI G t5 8 nd, aI G t6 8 fw, (n, .inr (1, [.ref n1, .ref n2, .ref n3, .ref n4, .ref n5, .ref n6, .ref n7, .int lo, .int mi, .int sd])), aI G n1 9 ht, aI G n2 8 wm, aI G n3 8 se, aI G n4 8 cd, aI G n5 8 sl, aI G n6 8 od, aI G n7 72 ow] sz (fun (r : Int32) (u : (Nat → Int32) × (Nat → Int32) × (Nat → Int32) × (Nat → Int32) × (Nat → Int32) × (Nat → Int32) × (Int32) × (Int32)) => r.toInt = aJudge T Ns Np v bs bh ek) (fun (u : (Nat → Int32) × (Nat → Int32) × (Nat → Int32) × (Nat → Int32) × (Nat → Int32) × (Nat → Int32) × (Int32) × (Int32)) => [(b0, .inr (0, [.ref b01, .ref b02, .int en])), aI G b01 30 bs, aI G b02 30 bh, (t, .inr (6, [.int ns, .int np, .int fu, .int fd, .int fi, .ref t1, .ref t2, .ref t3, .ref t4, .ref t5, .ref t6])), aI G t1 9 sz_, aI G t2 9 pt, aI G t3 9 fh, aI G t4 8 kd, aI G t5 8 nd, aI G t6 8 fw, (n, .inr (1, [.ref n1, .ref n2, .ref n3, .ref n4, .ref n5, .ref n6, .ref n7, .int u.2.2.2.2.2.2.1, .int u.2.2.2.2.2.2.2, .int sd])), aI G n1 9 u.1, aI G n2 8 u.2.1, aI G n3 8 se, aI G n4 8 u.2.2.1, aI G n5 8 u.2.2.2.1, aI G n6 8 u.2.2.2.2.1, aI G n7 72 u.2.2.2.2.2.1]) :=
  c_X0_firstWrong l G b0 b01 b02 t t1 t2 t3 t4 t5 t6 n n1 n2 n3 n4 n5 n6 n7 sz en bs bh ns np fu fd fi sz_ pt fh kd nd fw ht wm se cd sl od ow lo mi sd T Ns Np v M ek (v_X0_firstWrong l G b0 b01 b02 t t1 t2 t3 t4 t5 t6 n n1 n2 n3 n4 n5 n6 n7 sz en bs bh ns np fu fd fi sz_ pt fh kd nd fw ht wm se cd sl od ow lo mi sd T Ns Np v M ek hp)

set_option maxHeartbeats 4000000 in
set_option maxRecDepth 100000 in
theorem c_X3_seatAt (l : Launch) (G : Gt) (sz : Nat) (x : Int32) (y : Int32) (hv : ((((x * 10) + y) + 1) : Int32) = x * 10 + y + 1) : MetI l yX3_seatAt wsX3_seatAt 0 0 G [.int x, .int y] [] sz (fun (r : Int32) (_ : Unit) => (r : Int32) = x * 10 + y + 1) (fun (_ : Unit) => []) := by
  refine x_startI (cc := cX3_seatAt) (maxL := 2) (ret := (some .int)) (by decide) rfl (Nat.le_of_ble_eq_true rfl) ?_
  intro p e s m args below meth c A R Q ls hRf hRl hQ C hP hD hS hA hSS hl
  obtain ⟨hx, hb, hr, hml, hown, hts, hlocks, hKK⟩ := C
  have hown : s.vm.findClass RX3 = some m.cls := hown
  have hl : lv_has ls 2 [(0, .int x), (1, .int y)] := hl
  refine lv_iload_n hx hb dX3_seatAt_0 rfl (lv_at hl 0 rfl) ?_
  refine lv_bipush (v := 10) hx hb dX3_seatAt_1 (by decide) ?_
  refine lv_imul hx hb dX3_seatAt_3 ?_
  refine lv_iload_n hx hb dX3_seatAt_4 rfl (lv_at hl 1 rfl) ?_
  refine lv_iadd hx hb dX3_seatAt_5 ?_
  refine lv_iconst (v := 1) hx hb dX3_seatAt_6 (by decide) ?_
  refine lv_iadd hx hb dX3_seatAt_7 ?_
  exact x_iret (v := (((x * 10) + y) + 1)) () hQ hx hb hr hlocks hS dX3_seatAt_8 hv hP hD
theorem v_X3_seatAt (l : Launch) (G : Gt) (sz : Nat) (x : Int32) (y : Int32) : ((((x * 10) + y) + 1) : Int32) = x * 10 + y + 1 := by
  rfl
theorem k_X3_seatAt (l : Launch) (G : Gt) (sz : Nat) (x : Int32) (y : Int32) : MetI l yX3_seatAt wsX3_seatAt 0 0 G [.int x, .int y] [] sz (fun (r : Int32) (_ : Unit) => (r : Int32) = x * 10 + y + 1) (fun (_ : Unit) => []) :=
  c_X3_seatAt l G  sz x y (v_X3_seatAt l G  sz x y)

set_option maxHeartbeats 4000000 in
set_option maxRecDepth 100000 in
theorem c_X3_weigh (l : Launch) (G : Gt) (q q1 q2 q3 q4 : Nat) (sz : Nat) (s0 : Nat) (bc : Int32) (bl : Int32) (co : Nat → Int32) (wo : Nat → Int32) (ch : Nat → Int32) (be : Nat → Int32) (x : Int32) (y : Int32) (hv : (x < bc → ((x : Int32) = (if x < bc ∨ (x = bc ∧ bl < y) then x else bc)) ∧ ((y : Int32) = (if x < bc ∨ (x = bc ∧ bl < y) then y else bl)) ∧ (((va_cpy ch be 0 0 4) : Nat → Int32) = (if x < bc ∨ (x = bc ∧ bl < y) then va_cpy ch be 0 0 4 else be))) ∧ (¬ (x < bc) → (¬ x = bc → ((bc : Int32) = (if x < bc ∨ (x = bc ∧ bl < y) then x else bc)) ∧ ((bl : Int32) = (if x < bc ∨ (x = bc ∧ bl < y) then y else bl)) ∧ ((be : Nat → Int32) = (if x < bc ∨ (x = bc ∧ bl < y) then va_cpy ch be 0 0 4 else be))) ∧ (x = bc → (y ≤ bl → ((bc : Int32) = (if x < bc ∨ (x = bc ∧ bl < y) then x else bc)) ∧ ((bl : Int32) = (if x < bc ∨ (x = bc ∧ bl < y) then y else bl)) ∧ ((be : Nat → Int32) = (if x < bc ∨ (x = bc ∧ bl < y) then va_cpy ch be 0 0 4 else be))) ∧ (¬ (y ≤ bl) → ((x : Int32) = (if x < bc ∨ (x = bc ∧ bl < y) then x else bc)) ∧ ((y : Int32) = (if x < bc ∨ (x = bc ∧ bl < y) then y else bl)) ∧ (((va_cpy ch be 0 0 4) : Nat → Int32) = (if x < bc ∨ (x = bc ∧ bl < y) then va_cpy ch be 0 0 4 else be)))))) : MetV l yX3_weigh wsX3_weigh 1 30 G [.ref q, .int x, .int y] [(q, .inr (3, [.ref s0, .ref q1, .ref q2, .ref q3, .ref q4, .int bc, .int bl])), aI G q1 40 co, aI G q2 40 wo, aI G q3 4 ch, aI G q4 4 be] sz (fun (u : (Int32) × (Int32) × (Nat → Int32)) => ((u.1 : Int32) = (if x < bc ∨ (x = bc ∧ bl < y) then x else bc)) ∧ ((u.2.1 : Int32) = (if x < bc ∨ (x = bc ∧ bl < y) then y else bl)) ∧ ((u.2.2 : Nat → Int32) = (if x < bc ∨ (x = bc ∧ bl < y) then va_cpy ch be 0 0 4 else be))) (fun (u : (Int32) × (Int32) × (Nat → Int32)) => [(q, .inr (3, [.ref s0, .ref q1, .ref q2, .ref q3, .ref q4, .int u.1, .int u.2.1])), aI G q1 40 co, aI G q2 40 wo, aI G q3 4 ch, aI G q4 4 u.2.2]) := by
  refine x_startV (cc := cX3_weigh) (maxL := 3) (ret := none) (by decide) rfl (Nat.le_of_ble_eq_true rfl) ?_
  intro p e s m args below meth c A R Q ls hRf hRl hQ C hP hD hS hA hSS hl
  obtain ⟨hx, hb, hr, hml, hown, hts, hlocks, hKK⟩ := C
  have hown : s.vm.findClass RX3 = some m.cls := hown
  have hl : lv_has ls 3 [(0, .ref q), (1, .int x), (2, .int y)] := hl
  have hinX3 : ∀ w ∈ u_ws RX3 TX3 7, w ∈ wsX3_weigh := by decide +kernel
  have ka_i := hts (.initialized "java/lang/System") (by decide +kernel)
  have ka_n := hts (.native arraycopyName) (by decide +kernel)
  have ka_s := hts (.static arraycopyName) (by decide +kernel)
  have kl25 := hts (.fieldLink RX3 25 "WarmStones$Seating" "chosen" "[I") (by decide +kernel)
  have kl28 := hts (.fieldLink RX3 28 "WarmStones$Seating" "best" "[I") (by decide +kernel)
  have kl44 := hts (.fieldLink RX3 44 "WarmStones$Seating" "bestCold" "I") (by decide +kernel)
  have kl51 := hts (.fieldLink RX3 51 "WarmStones$Seating" "bestLeast" "I") (by decide +kernel)
  have kl92 := hts (.methodLink RX3 92 arraycopyName) (by decide +kernel)
  refine lv_iload_n hx hb dX3_weigh_0 rfl (lv_at hl 1 rfl) ?_
  refine lv_aload_n hx hb dX3_weigh_1 rfl (lv_at hl 0 rfl) ?_
  refine va_get (D := G.1) (ci := 3) (v := .int bc) (C := RX3) (T := TX3) (N := 7) hx hb hts hinX3 hown hKK.1 hP 0 rfl rfl 5 (by decide) kl44 (fun _ h9 => h9) rfl dX3_weigh_2 ?_
  refine lv_icmp_lt (tgt := 24) hx hb dX3_weigh_5 (by decide) (fun hc_1 => ?_) (fun hc_1 => ?_)
  · have hv := hv.1 hc_1
    refine lv_aload_n hx hb dX3_weigh_24 rfl (lv_at hl 0 rfl) ?_
    refine lv_iload_n hx hb dX3_weigh_25 rfl (lv_at hl 1 rfl) ?_
    refine va_put (D := G.1) (ci := 3) (v := .int x) (ty := .int) (C := RX3) (T := TX3) (N := 7) hx hb hts hinX3 tyX3 tyX3_ok nmX3 hown hKK.1 hP hD hS 0 rfl rfl 5 (by decide) kl44 (fun _ h9 => h9) rfl (by decide +kernel) rfl rfl (Nat.le_of_ble_eq_true rfl) dX3_weigh_26 (fun H locs hP hD hS => ?_)
    have hP : va_P G.1 vwCl [(q, .inr (3, [.ref s0, .ref q1, .ref q2, .ref q3, .ref q4, .int x, .int bl])), aI G q1 40 co, aI G q2 40 wo, aI G q3 4 ch, aI G q4 4 be] H := hP
    have hD : va_D A [(q, .inr (3, [.ref s0, .ref q1, .ref q2, .ref q3, .ref q4, .int x, .int bl])), aI G q1 40 co, aI G q2 40 wo, aI G q3 4 ch, aI G q4 4 be] := hD
    refine lv_aload_n hx hb dX3_weigh_29 rfl (lv_at hl 0 rfl) ?_
    refine lv_iload_n hx hb dX3_weigh_30 rfl (lv_at hl 2 rfl) ?_
    refine va_put (D := G.1) (ci := 3) (v := .int y) (ty := .int) (C := RX3) (T := TX3) (N := 7) hx hb hts hinX3 tyX3 tyX3_ok nmX3 hown hKK.1 hP hD hS 0 rfl rfl 6 (by decide) kl51 (fun _ h9 => h9) rfl (by decide +kernel) rfl rfl (Nat.le_of_ble_eq_true rfl) dX3_weigh_31 (fun H locs hP hD hS => ?_)
    have hP : va_P G.1 vwCl [(q, .inr (3, [.ref s0, .ref q1, .ref q2, .ref q3, .ref q4, .int x, .int y])), aI G q1 40 co, aI G q2 40 wo, aI G q3 4 ch, aI G q4 4 be] H := hP
    have hD : va_D A [(q, .inr (3, [.ref s0, .ref q1, .ref q2, .ref q3, .ref q4, .int x, .int y])), aI G q1 40 co, aI G q2 40 wo, aI G q3 4 ch, aI G q4 4 be] := hD
    refine lv_aload_n hx hb dX3_weigh_34 rfl (lv_at hl 0 rfl) ?_
    refine va_get (D := G.1) (ci := 3) (v := .ref q3) (C := RX3) (T := TX3) (N := 7) hx hb hts hinX3 hown hKK.1 hP 0 rfl rfl 3 (by decide) kl25 (fun _ h9 => h9) rfl dX3_weigh_35 ?_
    refine lv_iconst (v := 0) hx hb dX3_weigh_38 (by decide) ?_
    refine lv_aload_n hx hb dX3_weigh_39 rfl (lv_at hl 0 rfl) ?_
    refine va_get (D := G.1) (ci := 3) (v := .ref q4) (C := RX3) (T := TX3) (N := 7) hx hb hts hinX3 hown hKK.1 hP 0 rfl rfl 4 (by decide) kl28 (fun _ h9 => h9) rfl dX3_weigh_40 ?_
    refine lv_iconst (v := 0) hx hb dX3_weigh_43 (by decide) ?_
    refine lv_iconst (v := 4) hx hb dX3_weigh_44 (by decide) ?_
    refine va_copyi (ty := .int) hx hb (hml.trans hl.1.symm) hown kl92 ka_n ka_s ka_i hKK.1 hP hD hS 3 4 0 0 rfl rfl rfl rfl rfl (by decide) (by decide) (by decide) (by decide) (by decide) (fun _ _ => rfl) (Nat.le_trans (Nat.le_of_ble_eq_true rfl) hRf) (Nat.le_trans (by decide) hRl) dX3_weigh_45 (fun H locs hP hD hS => ?_)
    have hP : va_P G.1 vwCl [(q, .inr (3, [.ref s0, .ref q1, .ref q2, .ref q3, .ref q4, .int x, .int y])), aI G q1 40 co, aI G q2 40 wo, aI G q3 4 ch, aI G q4 4 (va_cpy ch be 0 0 4)] H := hP
    have hD : va_D A [(q, .inr (3, [.ref s0, .ref q1, .ref q2, .ref q3, .ref q4, .int x, .int y])), aI G q1 40 co, aI G q2 40 wo, aI G q3 4 ch, aI G q4 4 (va_cpy ch be 0 0 4)] := hD
    exact x_vret (x, y, (va_cpy ch be 0 0 4)) hQ hx hb hr hlocks hS dX3_weigh_48 hv hP hD
  · have hv := hv.2 hc_1
    refine lv_iload_n hx hb dX3_weigh_8 rfl (lv_at hl 1 rfl) ?_
    refine lv_aload_n hx hb dX3_weigh_9 rfl (lv_at hl 0 rfl) ?_
    refine va_get (D := G.1) (ci := 3) (v := .int bc) (C := RX3) (T := TX3) (N := 7) hx hb hts hinX3 hown hKK.1 hP 0 rfl rfl 5 (by decide) kl44 (fun _ h9 => h9) rfl dX3_weigh_10 ?_
    refine lv_icmp_ne (tgt := 48) hx hb dX3_weigh_13 (by decide) (fun hc_2 => ?_) (fun hc_2 => ?_)
    · have hv := hv.1 hc_2
      exact x_vret (bc, bl, be) hQ hx hb hr hlocks hS dX3_weigh_48 hv hP hD
    · have hv := hv.2 hc_2
      refine lv_iload_n hx hb dX3_weigh_16 rfl (lv_at hl 2 rfl) ?_
      refine lv_aload_n hx hb dX3_weigh_17 rfl (lv_at hl 0 rfl) ?_
      refine va_get (D := G.1) (ci := 3) (v := .int bl) (C := RX3) (T := TX3) (N := 7) hx hb hts hinX3 hown hKK.1 hP 0 rfl rfl 6 (by decide) kl51 (fun _ h9 => h9) rfl dX3_weigh_18 ?_
      refine lv_icmp_le (tgt := 48) hx hb dX3_weigh_21 (by decide) (fun hc_3 => ?_) (fun hc_3 => ?_)
      · have hv := hv.1 hc_3
        exact x_vret (bc, bl, be) hQ hx hb hr hlocks hS dX3_weigh_48 hv hP hD
      · have hv := hv.2 hc_3
        refine lv_aload_n hx hb dX3_weigh_24 rfl (lv_at hl 0 rfl) ?_
        refine lv_iload_n hx hb dX3_weigh_25 rfl (lv_at hl 1 rfl) ?_
        refine va_put (D := G.1) (ci := 3) (v := .int x) (ty := .int) (C := RX3) (T := TX3) (N := 7) hx hb hts hinX3 tyX3 tyX3_ok nmX3 hown hKK.1 hP hD hS 0 rfl rfl 5 (by decide) kl44 (fun _ h9 => h9) rfl (by decide +kernel) rfl rfl (Nat.le_of_ble_eq_true rfl) dX3_weigh_26 (fun H locs hP hD hS => ?_)
        have hP : va_P G.1 vwCl [(q, .inr (3, [.ref s0, .ref q1, .ref q2, .ref q3, .ref q4, .int x, .int bl])), aI G q1 40 co, aI G q2 40 wo, aI G q3 4 ch, aI G q4 4 be] H := hP
        have hD : va_D A [(q, .inr (3, [.ref s0, .ref q1, .ref q2, .ref q3, .ref q4, .int x, .int bl])), aI G q1 40 co, aI G q2 40 wo, aI G q3 4 ch, aI G q4 4 be] := hD
        refine lv_aload_n hx hb dX3_weigh_29 rfl (lv_at hl 0 rfl) ?_
        refine lv_iload_n hx hb dX3_weigh_30 rfl (lv_at hl 2 rfl) ?_
        refine va_put (D := G.1) (ci := 3) (v := .int y) (ty := .int) (C := RX3) (T := TX3) (N := 7) hx hb hts hinX3 tyX3 tyX3_ok nmX3 hown hKK.1 hP hD hS 0 rfl rfl 6 (by decide) kl51 (fun _ h9 => h9) rfl (by decide +kernel) rfl rfl (Nat.le_of_ble_eq_true rfl) dX3_weigh_31 (fun H locs hP hD hS => ?_)
        have hP : va_P G.1 vwCl [(q, .inr (3, [.ref s0, .ref q1, .ref q2, .ref q3, .ref q4, .int x, .int y])), aI G q1 40 co, aI G q2 40 wo, aI G q3 4 ch, aI G q4 4 be] H := hP
        have hD : va_D A [(q, .inr (3, [.ref s0, .ref q1, .ref q2, .ref q3, .ref q4, .int x, .int y])), aI G q1 40 co, aI G q2 40 wo, aI G q3 4 ch, aI G q4 4 be] := hD
        refine lv_aload_n hx hb dX3_weigh_34 rfl (lv_at hl 0 rfl) ?_
        refine va_get (D := G.1) (ci := 3) (v := .ref q3) (C := RX3) (T := TX3) (N := 7) hx hb hts hinX3 hown hKK.1 hP 0 rfl rfl 3 (by decide) kl25 (fun _ h9 => h9) rfl dX3_weigh_35 ?_
        refine lv_iconst (v := 0) hx hb dX3_weigh_38 (by decide) ?_
        refine lv_aload_n hx hb dX3_weigh_39 rfl (lv_at hl 0 rfl) ?_
        refine va_get (D := G.1) (ci := 3) (v := .ref q4) (C := RX3) (T := TX3) (N := 7) hx hb hts hinX3 hown hKK.1 hP 0 rfl rfl 4 (by decide) kl28 (fun _ h9 => h9) rfl dX3_weigh_40 ?_
        refine lv_iconst (v := 0) hx hb dX3_weigh_43 (by decide) ?_
        refine lv_iconst (v := 4) hx hb dX3_weigh_44 (by decide) ?_
        refine va_copyi (ty := .int) hx hb (hml.trans hl.1.symm) hown kl92 ka_n ka_s ka_i hKK.1 hP hD hS 3 4 0 0 rfl rfl rfl rfl rfl (by decide) (by decide) (by decide) (by decide) (by decide) (fun _ _ => rfl) (Nat.le_trans (Nat.le_of_ble_eq_true rfl) hRf) (Nat.le_trans (by decide) hRl) dX3_weigh_45 (fun H locs hP hD hS => ?_)
        have hP : va_P G.1 vwCl [(q, .inr (3, [.ref s0, .ref q1, .ref q2, .ref q3, .ref q4, .int x, .int y])), aI G q1 40 co, aI G q2 40 wo, aI G q3 4 ch, aI G q4 4 (va_cpy ch be 0 0 4)] H := hP
        have hD : va_D A [(q, .inr (3, [.ref s0, .ref q1, .ref q2, .ref q3, .ref q4, .int x, .int y])), aI G q1 40 co, aI G q2 40 wo, aI G q3 4 ch, aI G q4 4 (va_cpy ch be 0 0 4)] := hD
        exact x_vret (x, y, (va_cpy ch be 0 0 4)) hQ hx hb hr hlocks hS dX3_weigh_48 hv hP hD
theorem v_X3_weigh (l : Launch) (G : Gt) (q q1 q2 q3 q4 : Nat) (sz : Nat) (s0 : Nat) (bc : Int32) (bl : Int32) (co : Nat → Int32) (wo : Nat → Int32) (ch : Nat → Int32) (be : Nat → Int32) (x : Int32) (y : Int32) : (x < bc → ((x : Int32) = (if x < bc ∨ (x = bc ∧ bl < y) then x else bc)) ∧ ((y : Int32) = (if x < bc ∨ (x = bc ∧ bl < y) then y else bl)) ∧ (((va_cpy ch be 0 0 4) : Nat → Int32) = (if x < bc ∨ (x = bc ∧ bl < y) then va_cpy ch be 0 0 4 else be))) ∧ (¬ (x < bc) → (¬ x = bc → ((bc : Int32) = (if x < bc ∨ (x = bc ∧ bl < y) then x else bc)) ∧ ((bl : Int32) = (if x < bc ∨ (x = bc ∧ bl < y) then y else bl)) ∧ ((be : Nat → Int32) = (if x < bc ∨ (x = bc ∧ bl < y) then va_cpy ch be 0 0 4 else be))) ∧ (x = bc → (y ≤ bl → ((bc : Int32) = (if x < bc ∨ (x = bc ∧ bl < y) then x else bc)) ∧ ((bl : Int32) = (if x < bc ∨ (x = bc ∧ bl < y) then y else bl)) ∧ ((be : Nat → Int32) = (if x < bc ∨ (x = bc ∧ bl < y) then va_cpy ch be 0 0 4 else be))) ∧ (¬ (y ≤ bl) → ((x : Int32) = (if x < bc ∨ (x = bc ∧ bl < y) then x else bc)) ∧ ((y : Int32) = (if x < bc ∨ (x = bc ∧ bl < y) then y else bl)) ∧ (((va_cpy ch be 0 0 4) : Nat → Int32) = (if x < bc ∨ (x = bc ∧ bl < y) then va_cpy ch be 0 0 4 else be))))) := by
  refine ⟨fun h => ?_, fun h => ⟨fun h2 => ?_, fun h2 => ⟨fun h3 => ?_, fun h3 => ?_⟩⟩⟩
  · have c : x < bc ∨ (x = bc ∧ bl < y) := Or.inl h
    rw [if_pos c, if_pos c, if_pos c]; exact ⟨rfl, rfl, rfl⟩
  · have c : ¬ (x < bc ∨ (x = bc ∧ bl < y)) := fun z => z.elim h (fun z => h2 z.1)
    rw [if_neg c, if_neg c, if_neg c]; exact ⟨rfl, rfl, rfl⟩
  · have c : ¬ (x < bc ∨ (x = bc ∧ bl < y)) := fun z => z.elim h (fun z => (Int32.not_lt.mpr h3) z.2)
    rw [if_neg c, if_neg c, if_neg c]; exact ⟨rfl, rfl, rfl⟩
  · have c : x < bc ∨ (x = bc ∧ bl < y) := Or.inr ⟨h2, Int32.not_le.mp h3⟩
    rw [if_pos c, if_pos c, if_pos c]; exact ⟨rfl, rfl, rfl⟩
theorem k_X3_weigh (l : Launch) (G : Gt) (q q1 q2 q3 q4 : Nat) (sz : Nat) (s0 : Nat) (bc : Int32) (bl : Int32) (co : Nat → Int32) (wo : Nat → Int32) (ch : Nat → Int32) (be : Nat → Int32) (x : Int32) (y : Int32) : MetV l yX3_weigh wsX3_weigh 1 30 G [.ref q, .int x, .int y] [(q, .inr (3, [.ref s0, .ref q1, .ref q2, .ref q3, .ref q4, .int bc, .int bl])), aI G q1 40 co, aI G q2 40 wo, aI G q3 4 ch, aI G q4 4 be] sz (fun (u : (Int32) × (Int32) × (Nat → Int32)) => ((u.1 : Int32) = (if x < bc ∨ (x = bc ∧ bl < y) then x else bc)) ∧ ((u.2.1 : Int32) = (if x < bc ∨ (x = bc ∧ bl < y) then y else bl)) ∧ ((u.2.2 : Nat → Int32) = (if x < bc ∨ (x = bc ∧ bl < y) then va_cpy ch be 0 0 4 else be))) (fun (u : (Int32) × (Int32) × (Nat → Int32)) => [(q, .inr (3, [.ref s0, .ref q1, .ref q2, .ref q3, .ref q4, .int u.1, .int u.2.1])), aI G q1 40 co, aI G q2 40 wo, aI G q3 4 ch, aI G q4 4 u.2.2]) :=
  c_X3_weigh l G q q1 q2 q3 q4 sz s0 bc bl co wo ch be x y (v_X3_weigh l G q q1 q2 q3 q4 sz s0 bc bl co wo ch be x y)

set_option maxHeartbeats 4000000 in
set_option maxRecDepth 100000 in
theorem c_X3_answer (l : Launch) (G : Gt) (q q1 q2 q3 q4 : Nat) (sz : Nat) (s0 : Nat) (bc : Int32) (bl : Int32) (co : Nat → Int32) (wo : Nat → Int32) (ch : Nat → Int32) (be : Nat → Int32) (x : Int32) (hv : (¬ x = 0 → (¬ x = 1 → (¬ (¬ (x - 2) < 0 ∧ ¬ 3 < (x - 2)) → ((-1000000002) : Int32) = (if x = 0 then bc else if x = 1 then bl else if ¬ x - 2 < 0 ∧ ¬ 3 < x - 2 then be (x - 2).toNatClampNeg else (-1000000002))) ∧ (¬ (x - 2) < 0 ∧ ¬ 3 < (x - 2) → (vp_in (x - 2) 4) ∧ (((be (x - 2).toNatClampNeg) : Int32) = (if x = 0 then bc else if x = 1 then bl else if ¬ x - 2 < 0 ∧ ¬ 3 < x - 2 then be (x - 2).toNatClampNeg else (-1000000002))))) ∧ (x = 1 → (bl : Int32) = (if x = 0 then bc else if x = 1 then bl else if ¬ x - 2 < 0 ∧ ¬ 3 < x - 2 then be (x - 2).toNatClampNeg else (-1000000002)))) ∧ (x = 0 → (bc : Int32) = (if x = 0 then bc else if x = 1 then bl else if ¬ x - 2 < 0 ∧ ¬ 3 < x - 2 then be (x - 2).toNatClampNeg else (-1000000002)))) : MetI l yX3_answer wsX3_answer 1 22 G [.ref q, .int x] [(q, .inr (3, [.ref s0, .ref q1, .ref q2, .ref q3, .ref q4, .int bc, .int bl])), aI G q1 40 co, aI G q2 40 wo, aI G q3 4 ch, aI G q4 4 be] sz (fun (r : Int32) (_ : Unit) => (r : Int32) = (if x = 0 then bc else if x = 1 then bl else if ¬ x - 2 < 0 ∧ ¬ 3 < x - 2 then be (x - 2).toNatClampNeg else (-1000000002))) (fun (_ : Unit) => [(q, .inr (3, [.ref s0, .ref q1, .ref q2, .ref q3, .ref q4, .int bc, .int bl])), aI G q1 40 co, aI G q2 40 wo, aI G q3 4 ch, aI G q4 4 be]) := by
  refine x_startI (cc := cX3_answer) (maxL := 2) (ret := (some .int)) (by decide) rfl (Nat.le_of_ble_eq_true rfl) ?_
  intro p e s m args below meth c A R Q ls hRf hRl hQ C hP hD hS hA hSS hl
  obtain ⟨hx, hb, hr, hml, hown, hts, hlocks, hKK⟩ := C
  have hown : s.vm.findClass RX3 = some m.cls := hown
  have hl : lv_has ls 2 [(0, .ref q), (1, .int x)] := hl
  have hinX3 : ∀ w ∈ u_ws RX3 TX3 7, w ∈ wsX3_answer := by decide +kernel
  have kl28 := hts (.fieldLink RX3 28 "WarmStones$Seating" "best" "[I") (by decide +kernel)
  have kl44 := hts (.fieldLink RX3 44 "WarmStones$Seating" "bestCold" "I") (by decide +kernel)
  have kl51 := hts (.fieldLink RX3 51 "WarmStones$Seating" "bestLeast" "I") (by decide +kernel)
  have kl58 := hts (.constant RX3 58 (-1000000002)) (by decide +kernel)
  have kn_iRX7 := hts (.initialized RX7) (by decide +kernel)
  have kn_sX7_within := hts (.static yX7_within) (by decide +kernel)
  refine lv_iload_n hx hb dX3_answer_0 rfl (lv_at hl 1 rfl) ?_
  refine lv_if_ne (tgt := 9) hx hb dX3_answer_1 (by decide) (fun hc_1 => ?_) (fun hc_1 => ?_)
  · have hv := hv.1 hc_1
    refine lv_iload_n hx hb dX3_answer_9 rfl (lv_at hl 1 rfl) ?_
    refine lv_iconst (v := 1) hx hb dX3_answer_10 (by decide) ?_
    refine lv_icmp_ne (tgt := 19) hx hb dX3_answer_11 (by decide) (fun hc_2 => ?_) (fun hc_2 => ?_)
    · have hv := hv.1 hc_2
      refine lv_iload_n hx hb dX3_answer_19 rfl (lv_at hl 1 rfl) ?_
      refine lv_iconst (v := 2) hx hb dX3_answer_20 (by decide) ?_
      refine lv_isub hx hb dX3_answer_21 ?_
      refine lv_iconst (v := 0) hx hb dX3_answer_22 (by decide) ?_
      refine lv_iconst (v := 3) hx hb dX3_answer_23 (by decide) ?_
      refine x_calliR (x_runSN (As := [.int (x - 2), .int 0, .int 3]) (rest := []) (n := 3) ⟨hx, hb, hml, hown, hts⟩ (k_X7_within l G  _ (x - 2) 0 3) gX3_answer_X7_within_n54 rfl kn_iRX7 kn_sX7_within (by decide) (by decide +kernel) ⟨Nat.le_trans (Nat.le_of_ble_eq_true rfl) hRf, Nat.le_trans (Nat.le_of_ble_eq_true rfl) hRl⟩ hKK hSS hS hA hP hD [] (by decide) rfl rfl hl.1 rfl (Nat.le_of_ble_eq_true rfl) dX3_answer_24) hP hD hS hA [] rfl (fun r_3 _ H locs hw hP hS => ?_)
      replace hw := hw.symm; subst hw
      refine lv_if_eq (tgt := 41) hx hb dX3_answer_27 (by decide) (fun hc_4 => ?_) (fun hc_4 => ?_)
      · have hv := hv.1 (tv_eq.mp hc_4)
        refine lv_ldc (v := (-1000000002)) hx hb hown kl58 dX3_answer_41 ?_
        exact x_iret (v := (-1000000002)) () hQ hx hb hr hlocks hS dX3_answer_43 hv hP hD
      · have hv := hv.2 (tv_eqn.mp hc_4)
        refine lv_aload_n hx hb dX3_answer_30 rfl (lv_at hl 0 rfl) ?_
        refine va_get (D := G.1) (ci := 3) (v := .ref q4) (C := RX3) (T := TX3) (N := 7) hx hb hts hinX3 hown hKK.1 hP 0 rfl rfl 4 (by decide) kl28 (fun _ h9 => h9) rfl dX3_answer_31 ?_
        refine lv_iload_n hx hb dX3_answer_34 rfl (lv_at hl 1 rfl) ?_
        refine lv_iconst (v := 2) hx hb dX3_answer_35 (by decide) ?_
        refine lv_isub hx hb dX3_answer_36 ?_
        obtain ⟨hin, hv⟩ := hv
        refine va_iald hx hb hKK.1 hP 4 0 rfl rfl hin dX3_answer_37 ?_
        refine lv_goto (tgt := 43) hx hb dX3_answer_38 (by decide) ?_
        exact x_iret (v := (be (x - 2).toNatClampNeg)) () hQ hx hb hr hlocks hS dX3_answer_43 hv hP hD
    · have hv := hv.2 hc_2
      refine lv_aload_n hx hb dX3_answer_14 rfl (lv_at hl 0 rfl) ?_
      refine va_get (D := G.1) (ci := 3) (v := .int bl) (C := RX3) (T := TX3) (N := 7) hx hb hts hinX3 hown hKK.1 hP 0 rfl rfl 6 (by decide) kl51 (fun _ h9 => h9) rfl dX3_answer_15 ?_
      exact x_iret (v := bl) () hQ hx hb hr hlocks hS dX3_answer_18 hv hP hD
  · have hv := hv.2 hc_1
    refine lv_aload_n hx hb dX3_answer_4 rfl (lv_at hl 0 rfl) ?_
    refine va_get (D := G.1) (ci := 3) (v := .int bc) (C := RX3) (T := TX3) (N := 7) hx hb hts hinX3 hown hKK.1 hP 0 rfl rfl 5 (by decide) kl44 (fun _ h9 => h9) rfl dX3_answer_5 ?_
    exact x_iret (v := bc) () hQ hx hb hr hlocks hS dX3_answer_8 hv hP hD
theorem v_X3_answer (l : Launch) (G : Gt) (q q1 q2 q3 q4 : Nat) (sz : Nat) (s0 : Nat) (bc : Int32) (bl : Int32) (co : Nat → Int32) (wo : Nat → Int32) (ch : Nat → Int32) (be : Nat → Int32) (x : Int32) : (¬ x = 0 → (¬ x = 1 → (¬ (¬ (x - 2) < 0 ∧ ¬ 3 < (x - 2)) → ((-1000000002) : Int32) = (if x = 0 then bc else if x = 1 then bl else if ¬ x - 2 < 0 ∧ ¬ 3 < x - 2 then be (x - 2).toNatClampNeg else (-1000000002))) ∧ (¬ (x - 2) < 0 ∧ ¬ 3 < (x - 2) → (vp_in (x - 2) 4) ∧ (((be (x - 2).toNatClampNeg) : Int32) = (if x = 0 then bc else if x = 1 then bl else if ¬ x - 2 < 0 ∧ ¬ 3 < x - 2 then be (x - 2).toNatClampNeg else (-1000000002))))) ∧ (x = 1 → (bl : Int32) = (if x = 0 then bc else if x = 1 then bl else if ¬ x - 2 < 0 ∧ ¬ 3 < x - 2 then be (x - 2).toNatClampNeg else (-1000000002)))) ∧ (x = 0 → (bc : Int32) = (if x = 0 then bc else if x = 1 then bl else if ¬ x - 2 < 0 ∧ ¬ 3 < x - 2 then be (x - 2).toNatClampNeg else (-1000000002))) := by
  refine ⟨fun h0 => ⟨fun h1 => ⟨fun h2 => ?_, fun h2 => ⟨?_, ?_⟩⟩, fun h1 => ?_⟩, fun h0 => ?_⟩
  · rw [if_neg h0, if_neg h1, if_neg h2]
  · have := (wi_iff (x := x - 2) (y := 0) (z := 3) (a := 0) (b := 3) rfl rfl).mp h2
    exact vp_of rfl this.1 (by omega)
  · rw [if_neg h0, if_neg h1, if_pos h2]
  · rw [if_neg h0, if_pos h1]
  · rw [if_pos h0]
theorem k_X3_answer (l : Launch) (G : Gt) (q q1 q2 q3 q4 : Nat) (sz : Nat) (s0 : Nat) (bc : Int32) (bl : Int32) (co : Nat → Int32) (wo : Nat → Int32) (ch : Nat → Int32) (be : Nat → Int32) (x : Int32) : MetI l yX3_answer wsX3_answer 1 22 G [.ref q, .int x] [(q, .inr (3, [.ref s0, .ref q1, .ref q2, .ref q3, .ref q4, .int bc, .int bl])), aI G q1 40 co, aI G q2 40 wo, aI G q3 4 ch, aI G q4 4 be] sz (fun (r : Int32) (_ : Unit) => (r : Int32) = (if x = 0 then bc else if x = 1 then bl else if ¬ x - 2 < 0 ∧ ¬ 3 < x - 2 then be (x - 2).toNatClampNeg else (-1000000002))) (fun (_ : Unit) => [(q, .inr (3, [.ref s0, .ref q1, .ref q2, .ref q3, .ref q4, .int bc, .int bl])), aI G q1 40 co, aI G q2 40 wo, aI G q3 4 ch, aI G q4 4 be]) :=
  c_X3_answer l G q q1 q2 q3 q4 sz s0 bc bl co wo ch be x (v_X3_answer l G q q1 q2 q3 q4 sz s0 bc bl co wo ch be x)

set_option maxHeartbeats 4000000 in
set_option maxRecDepth 100000 in
theorem c_X3_trySeat (l : Launch) (G : Gt) (q q1 q2 q3 q4 s0 t t1 t2 t3 t4 t5 t6 n n1 n2 n3 n4 n5 n6 n7 : Nat) (sz : Nat) (bc : Int32) (bl : Int32) (co : Nat → Int32) (wo : Nat → Int32) (ch : Nat → Int32) (be : Nat → Int32) (sw : Int32) (sh : Int32) (ns : Int32) (np : Int32) (fu : Int32) (fd : Int32) (fi : Int32) (sz_ : Nat → Int32) (pt : Nat → Int32) (fh : Nat → Int32) (kd : Nat → Int32) (nd : Nat → Int32) (fw : Nat → Int32) (ht : Nat → Int32) (wm : Nat → Int32) (se : Nat → Int32) (cd : Nat → Int32) (sl : Nat → Int32) (od : Nat → Int32) (ow : Nat → Int32) (lo : Int32) (mi : Int32) (sd : Int32) (mm : Int32) (pq : Int32) (bq : Int32) (T : Nat → Nat → Int) (Ns : Nat) (Np : Nat) (v : Nat → Int) (kk : Nat → Int) (M : Int) (mq : Nat) (ip : Nat) (dd : Nat) (hv : (vp_in pq 8) ∧ (∃ (J28_2 : Int32 → Prop), ((¬ bq = (-1) → (vp_in bq 9) ∧ (J28_2 (ht bq.toNatClampNeg))) ∧ (bq = (-1) → J28_2 0)) ∧ (∀ (t0_1 : Int32), J28_2 t0_1 → ∃ (I37_12 : Int32 → Int32 → Int32 → Int32 → Prop) (μ37_13 : Int32 → Int32 → Int32 → Int32 → Nat), I37_12 (wm pq.toNatClampNeg) t0_1 0 0 ∧ (∀ (gs00_8 : Int32) (gs01_9 : Int32) (x6_10 : Int32) (x7_11 : Int32), I37_12 gs00_8 gs01_9 x6_10 x7_11 → (mm ≤ x7_11 → (vp_in (pq * 10 + bq + 1) 40) ∧ ((vp_in (pq * 10 + bq + 1) 40) ∧ ((∃ (c_ w_ : Int32), c_.toInt = sGc T v mq ip dd ∧ w_.toInt = sGw T v mq ip dd ∧ (upd co ((pq * 10 + bq + 1).toNatClampNeg) x6_10) = upd co (10 * ip + dd) c_ ∧ (upd wo ((pq * 10 + bq + 1).toNatClampNeg) gs00_8) = upd wo (10 * ip + dd) w_)))) ∧ (¬ (mm ≤ x7_11) → ∃ (gT_19 : Nat → Nat → Int) (gNs_20 : Nat) (gNp_21 : Nat) (gip_22 : Nat) (gxx_23 : Int × Int), ((TOK gT_19 gNs_20 gNp_21 ∧ CT gT_19 gNs_20 gNp_21 ns np fu fd fi sz_ pt kd nd ∧ pq = nI gip_22 ∧ gip_22 < gNp_21 ∧ SOK gT_19 gNs_20 bq.toInt gxx_23 ∧ gs00_8.toInt = gxx_23.1 ∧ gs01_9.toInt = gxx_23.2) ∧ (∀ (sw2_25 : Int32) (sh2_26 : Int32), (sw2_25.toInt = (zSt gT_19 gip_22 bq.toInt gxx_23).1 ∧ sh2_26.toInt = (zSt gT_19 gip_22 bq.toInt gxx_23).2) → ((vp_in pq 8) ∧ (((nd pq.toNatClampNeg) ≤ sw2_25 → I37_12 sw2_25 sh2_26 x6_10 (x7_11 + 1) ∧ μ37_13 sw2_25 sh2_26 x6_10 (x7_11 + 1) < μ37_13 gs00_8 gs01_9 x6_10 x7_11) ∧ (¬ ((nd pq.toNatClampNeg) ≤ sw2_25) → I37_12 sw2_25 sh2_26 (x6_10 + 1) (x7_11 + 1) ∧ μ37_13 sw2_25 sh2_26 (x6_10 + 1) (x7_11 + 1) < μ37_13 gs00_8 gs01_9 x6_10 x7_11)))))))))) : MetV l yX3_trySeat wsX3_trySeat 3 70 G [.ref q, .ref t, .ref n, .int mm, .int pq, .int bq] [(q, .inr (3, [.ref s0, .ref q1, .ref q2, .ref q3, .ref q4, .int bc, .int bl])), aI G q1 40 co, aI G q2 40 wo, aI G q3 4 ch, aI G q4 4 be, (s0, .inr (4, [.int sw, .int sh])), (t, .inr (6, [.int ns, .int np, .int fu, .int fd, .int fi, .ref t1, .ref t2, .ref t3, .ref t4, .ref t5, .ref t6])), aI G t1 9 sz_, aI G t2 9 pt, aI G t3 9 fh, aI G t4 8 kd, aI G t5 8 nd, aI G t6 8 fw, (n, .inr (1, [.ref n1, .ref n2, .ref n3, .ref n4, .ref n5, .ref n6, .ref n7, .int lo, .int mi, .int sd])), aI G n1 9 ht, aI G n2 8 wm, aI G n3 8 se, aI G n4 8 cd, aI G n5 8 sl, aI G n6 8 od, aI G n7 72 ow] sz (fun (u : (Nat → Int32) × (Nat → Int32) × (Int32) × (Int32)) => (∃ (c_ w_ : Int32), c_.toInt = sGc T v mq ip dd ∧ w_.toInt = sGw T v mq ip dd ∧ u.1 = upd co (10 * ip + dd) c_ ∧ u.2.1 = upd wo (10 * ip + dd) w_)) (fun (u : (Nat → Int32) × (Nat → Int32) × (Int32) × (Int32)) => [(q, .inr (3, [.ref s0, .ref q1, .ref q2, .ref q3, .ref q4, .int bc, .int bl])), aI G q1 40 u.1, aI G q2 40 u.2.1, aI G q3 4 ch, aI G q4 4 be, (s0, .inr (4, [.int u.2.2.1, .int u.2.2.2])), (t, .inr (6, [.int ns, .int np, .int fu, .int fd, .int fi, .ref t1, .ref t2, .ref t3, .ref t4, .ref t5, .ref t6])), aI G t1 9 sz_, aI G t2 9 pt, aI G t3 9 fh, aI G t4 8 kd, aI G t5 8 nd, aI G t6 8 fw, (n, .inr (1, [.ref n1, .ref n2, .ref n3, .ref n4, .ref n5, .ref n6, .ref n7, .int lo, .int mi, .int sd])), aI G n1 9 ht, aI G n2 8 wm, aI G n3 8 se, aI G n4 8 cd, aI G n5 8 sl, aI G n6 8 od, aI G n7 72 ow]) := by
  refine x_startV (cc := cX3_trySeat) (maxL := 8) (ret := none) (by decide) rfl (Nat.le_of_ble_eq_true rfl) ?_
  intro p e s m args below meth c A R Q ls hRf hRl hQ C hP hD hS hA hSS hl
  obtain ⟨hx, hb, hr, hml, hown, hts, hlocks, hKK⟩ := C
  have hown : s.vm.findClass RX3 = some m.cls := hown
  have hl : lv_has ls 8 [(0, .ref q), (1, .ref t), (2, .ref n), (3, .int mm), (4, .int pq), (5, .int bq)] := hl
  have hinX1 : ∀ w ∈ u_ws RX1 TX1 10, w ∈ wsX3_trySeat := by decide +kernel
  have hinX3 : ∀ w ∈ u_ws RX3 TX3 7, w ∈ wsX3_trySeat := by decide +kernel
  have hinX4 : ∀ w ∈ u_ws RX4 TX4 2, w ∈ wsX3_trySeat := by decide +kernel
  have hinX6 : ∀ w ∈ u_ws RX6 TX6 11, w ∈ wsX3_trySeat := by decide +kernel
  have kl12 := hts (.fieldLink RX3 12 "WarmStones$Seating" "sitting" "LWarmStones$Sitting;") (by decide +kernel)
  have kl18 := hts (.fieldLink RX3 18 "WarmStones$Seating" "coldOn" "[I") (by decide +kernel)
  have kl22 := hts (.fieldLink RX3 22 "WarmStones$Seating" "warmthOn" "[I") (by decide +kernel)
  have kl59 := hts (.fieldLink RX3 59 "WarmStones$Night" "warmth" "[I") (by decide +kernel)
  have kl64 := hts (.fieldLink RX3 64 "WarmStones$Night" "heat" "[I") (by decide +kernel)
  have kl75 := hts (.fieldLink RX3 75 "WarmStones$Sitting" "warmth" "I") (by decide +kernel)
  have kl77 := hts (.fieldLink RX3 77 "WarmStones$Town" "need" "[I") (by decide +kernel)
  refine lv_aload_n hx hb dX3_trySeat_0 rfl (lv_at hl 0 rfl) ?_
  refine va_get (D := G.1) (ci := 3) (v := .ref s0) (C := RX3) (T := TX3) (N := 7) hx hb hts hinX3 hown hKK.1 hP 0 rfl rfl 0 (by decide) kl12 (fun _ h9 => h9) rfl dX3_trySeat_1 ?_
  refine lv_aload_n hx hb dX3_trySeat_4 rfl (lv_at hl 2 rfl) ?_
  refine va_get (D := G.1) (ci := 1) (v := .ref n2) (C := RX1) (T := TX1) (N := 10) hx hb hts hinX1 hown hKK.1 hP 13 rfl rfl 1 (by decide) kl59 (fun _ h9 => h9) rfl dX3_trySeat_5 ?_
  refine lv_iload hx hb dX3_trySeat_8 (lv_at hl 4 rfl) ?_
  obtain ⟨hin, hv⟩ := hv
  refine va_iald hx hb hKK.1 hP 15 0 rfl rfl hin dX3_trySeat_10 ?_
  refine lv_iload hx hb dX3_trySeat_11 (lv_at hl 5 rfl) ?_
  refine lv_iconst (v := (-1)) hx hb dX3_trySeat_13 (by decide) ?_
  obtain ⟨J28_2, hv, hj_31⟩ := hv
  have K_3 : ∀ (t0_1 : Int32) (H : Heap) (locs : List Loc) (ls : Array Slot), J28_2 t0_1 → va_P G.1 vwCl [(q, .inr (3, [.ref s0, .ref q1, .ref q2, .ref q3, .ref q4, .int bc, .int bl])), aI G q1 40 co, aI G q2 40 wo, aI G q3 4 ch, aI G q4 4 be, (s0, .inr (4, [.int sw, .int sh])), (t, .inr (6, [.int ns, .int np, .int fu, .int fd, .int fi, .ref t1, .ref t2, .ref t3, .ref t4, .ref t5, .ref t6])), aI G t1 9 sz_, aI G t2 9 pt, aI G t3 9 fh, aI G t4 8 kd, aI G t5 8 nd, aI G t6 8 fw, (n, .inr (1, [.ref n1, .ref n2, .ref n3, .ref n4, .ref n5, .ref n6, .ref n7, .int lo, .int mi, .int sd])), aI G n1 9 ht, aI G n2 8 wm, aI G n3 8 se, aI G n4 8 cd, aI G n5 8 sl, aI G n6 8 od, aI G n7 72 ow] H → va_D A [(q, .inr (3, [.ref s0, .ref q1, .ref q2, .ref q3, .ref q4, .int bc, .int bl])), aI G q1 40 co, aI G q2 40 wo, aI G q3 4 ch, aI G q4 4 be, (s0, .inr (4, [.int sw, .int sh])), (t, .inr (6, [.int ns, .int np, .int fu, .int fd, .int fi, .ref t1, .ref t2, .ref t3, .ref t4, .ref t5, .ref t6])), aI G t1 9 sz_, aI G t2 9 pt, aI G t3 9 fh, aI G t4 8 kd, aI G t5 8 nd, aI G t6 8 fw, (n, .inr (1, [.ref n1, .ref n2, .ref n3, .ref n4, .ref n5, .ref n6, .ref n7, .int lo, .int mi, .int sd])), aI G n1 9 ht, aI G n2 8 wm, aI G n3 8 se, aI G n4 8 cd, aI G n5 8 sl, aI G n6 8 od, aI G n7 72 ow] → va_S A s.heap H locs → lv_has ls 8 [(0, .ref q), (1, .ref t), (2, .ref n), (3, .int mm), (4, .int pq), (5, .int bq)] → W p l e R s m args below meth c H locs 0 0 Q (F0 m 28 ls [.int t0_1, .int (wm pq.toNatClampNeg), .ref s0]) := by
    intro t0_1 H locs ls hi hP hD hS hl
    have hv := hj_31 t0_1 hi
    refine x_callv (wr := [(q, .inr (3, [.ref s0, .ref q1, .ref q2, .ref q3, .ref q4, .int bc, .int bl])), aI G q1 40 co, aI G q2 40 wo, aI G q3 4 ch, aI G q4 4 be, (t, .inr (6, [.int ns, .int np, .int fu, .int fd, .int fi, .ref t1, .ref t2, .ref t3, .ref t4, .ref t5, .ref t6])), aI G t1 9 sz_, aI G t2 9 pt, aI G t3 9 fh, aI G t4 8 kd, aI G t5 8 nd, aI G t6 8 fw, (n, .inr (1, [.ref n1, .ref n2, .ref n3, .ref n4, .ref n5, .ref n6, .ref n7, .int lo, .int mi, .int sd])), aI G n1 9 ht, aI G n2 8 wm, aI G n3 8 se, aI G n4 8 cd, aI G n5 8 sl, aI G n6 8 od, aI G n7 72 ow]) (w' := fun (u : (Int32) × (Int32)) => [(q, .inr (3, [.ref s0, .ref q1, .ref q2, .ref q3, .ref q4, .int bc, .int bl])), aI G q1 40 co, aI G q2 40 wo, aI G q3 4 ch, aI G q4 4 be, (s0, .inr (4, [.int u.1, .int u.2])), (t, .inr (6, [.int ns, .int np, .int fu, .int fd, .int fi, .ref t1, .ref t2, .ref t3, .ref t4, .ref t5, .ref t6])), aI G t1 9 sz_, aI G t2 9 pt, aI G t3 9 fh, aI G t4 8 kd, aI G t5 8 nd, aI G t6 8 fw, (n, .inr (1, [.ref n1, .ref n2, .ref n3, .ref n4, .ref n5, .ref n6, .ref n7, .int lo, .int mi, .int sd])), aI G n1 9 ht, aI G n2 8 wm, aI G n3 8 se, aI G n4 8 cd, aI G n5 8 sl, aI G n6 8 od, aI G n7 72 ow]) (x_runV (As := [.int (wm pq.toNatClampNeg), .int t0_1]) (rest := []) (n := 2) (C := RX4) (ci := 4) ⟨hx, hb, hml, hown, hts⟩ (k_X4_begin l G s0 _ sw sh (wm pq.toNatClampNeg) t0_1) gX3_trySeat_X4_begin rfl (by decide +kernel) ⟨Nat.le_trans (Nat.le_of_ble_eq_true rfl) hRf, Nat.le_trans (Nat.le_of_ble_eq_true rfl) hRl⟩ hKK hSS hS hA hP hD [5] (by decide) rfl rfl rfl 5 rfl rfl hl.1 rfl (Nat.le_of_ble_eq_true rfl) dX3_trySeat_28) hP hD hS hA [5] [0, 1, 2, 3, 4, 6, 7, 8, 9, 10, 11, 12, 13, 14, 15, 16, 17, 18, 19, 20] [0, 1, 2, 3, 4, 20, 5, 6, 7, 8, 9, 10, 11, 12, 13, 14, 15, 16, 17, 18, 19] rfl rfl (by decide) (by decide) (by decide) (fun _ => rfl) (fun  u H locs hw hP hD hS => ?_)
    obtain ⟨sw2_6, sh2_7⟩ := u
    obtain ⟨hw0, hw1⟩ := hw
    replace hw0 := hw0.symm; subst hw0
    replace hw1 := hw1.symm; subst hw1
    have hP : va_P G.1 vwCl [(q, .inr (3, [.ref s0, .ref q1, .ref q2, .ref q3, .ref q4, .int bc, .int bl])), aI G q1 40 co, aI G q2 40 wo, aI G q3 4 ch, aI G q4 4 be, (s0, .inr (4, [.int (wm pq.toNatClampNeg), .int t0_1])), (t, .inr (6, [.int ns, .int np, .int fu, .int fd, .int fi, .ref t1, .ref t2, .ref t3, .ref t4, .ref t5, .ref t6])), aI G t1 9 sz_, aI G t2 9 pt, aI G t3 9 fh, aI G t4 8 kd, aI G t5 8 nd, aI G t6 8 fw, (n, .inr (1, [.ref n1, .ref n2, .ref n3, .ref n4, .ref n5, .ref n6, .ref n7, .int lo, .int mi, .int sd])), aI G n1 9 ht, aI G n2 8 wm, aI G n3 8 se, aI G n4 8 cd, aI G n5 8 sl, aI G n6 8 od, aI G n7 72 ow] H := hP
    have hD : va_D A [(q, .inr (3, [.ref s0, .ref q1, .ref q2, .ref q3, .ref q4, .int bc, .int bl])), aI G q1 40 co, aI G q2 40 wo, aI G q3 4 ch, aI G q4 4 be, (s0, .inr (4, [.int (wm pq.toNatClampNeg), .int t0_1])), (t, .inr (6, [.int ns, .int np, .int fu, .int fd, .int fi, .ref t1, .ref t2, .ref t3, .ref t4, .ref t5, .ref t6])), aI G t1 9 sz_, aI G t2 9 pt, aI G t3 9 fh, aI G t4 8 kd, aI G t5 8 nd, aI G t6 8 fw, (n, .inr (1, [.ref n1, .ref n2, .ref n3, .ref n4, .ref n5, .ref n6, .ref n7, .int lo, .int mi, .int sd])), aI G n1 9 ht, aI G n2 8 wm, aI G n3 8 se, aI G n4 8 cd, aI G n5 8 sl, aI G n6 8 od, aI G n7 72 ow] := hD
    refine lv_iconst (v := 0) hx hb dX3_trySeat_31 (by decide) ?_
    refine lv_istore (lv' := [(6, .int 0), (0, .ref q), (1, .ref t), (2, .ref n), (3, .int mm), (4, .int pq), (5, .int bq)]) hx hb dX3_trySeat_32 hl (by decide) rfl (fun ls hl => ?_)
    refine lv_iconst (v := 0) hx hb dX3_trySeat_34 (by decide) ?_
    refine lv_istore (lv' := [(7, .int 0), (6, .int 0), (0, .ref q), (1, .ref t), (2, .ref n), (3, .int mm), (4, .int pq), (5, .int bq)]) hx hb dX3_trySeat_35 hl (by decide) rfl (fun ls hl => ?_)
    obtain ⟨I37_12, μ37_13, hi0, hs_28⟩ := hv
    have Lm_30 : ∀ (n_29 : Nat) (gs00_8 : Int32) (gs01_9 : Int32) (x6_10 : Int32) (x7_11 : Int32) (H : Heap) (locs : List Loc) (ls : Array Slot), μ37_13 gs00_8 gs01_9 x6_10 x7_11 < n_29 → I37_12 gs00_8 gs01_9 x6_10 x7_11 → va_P G.1 vwCl [(q, .inr (3, [.ref s0, .ref q1, .ref q2, .ref q3, .ref q4, .int bc, .int bl])), aI G q1 40 co, aI G q2 40 wo, aI G q3 4 ch, aI G q4 4 be, (s0, .inr (4, [.int gs00_8, .int gs01_9])), (t, .inr (6, [.int ns, .int np, .int fu, .int fd, .int fi, .ref t1, .ref t2, .ref t3, .ref t4, .ref t5, .ref t6])), aI G t1 9 sz_, aI G t2 9 pt, aI G t3 9 fh, aI G t4 8 kd, aI G t5 8 nd, aI G t6 8 fw, (n, .inr (1, [.ref n1, .ref n2, .ref n3, .ref n4, .ref n5, .ref n6, .ref n7, .int lo, .int mi, .int sd])), aI G n1 9 ht, aI G n2 8 wm, aI G n3 8 se, aI G n4 8 cd, aI G n5 8 sl, aI G n6 8 od, aI G n7 72 ow] H → va_D A [(q, .inr (3, [.ref s0, .ref q1, .ref q2, .ref q3, .ref q4, .int bc, .int bl])), aI G q1 40 co, aI G q2 40 wo, aI G q3 4 ch, aI G q4 4 be, (s0, .inr (4, [.int gs00_8, .int gs01_9])), (t, .inr (6, [.int ns, .int np, .int fu, .int fd, .int fi, .ref t1, .ref t2, .ref t3, .ref t4, .ref t5, .ref t6])), aI G t1 9 sz_, aI G t2 9 pt, aI G t3 9 fh, aI G t4 8 kd, aI G t5 8 nd, aI G t6 8 fw, (n, .inr (1, [.ref n1, .ref n2, .ref n3, .ref n4, .ref n5, .ref n6, .ref n7, .int lo, .int mi, .int sd])), aI G n1 9 ht, aI G n2 8 wm, aI G n3 8 se, aI G n4 8 cd, aI G n5 8 sl, aI G n6 8 od, aI G n7 72 ow] → va_S A s.heap H locs → lv_has ls 8 [(7, .int x7_11), (6, .int x6_10), (0, .ref q), (1, .ref t), (2, .ref n), (3, .int mm), (4, .int pq), (5, .int bq)] → W p l e R s m args below meth c H locs 0 0 Q (F0 m 37 ls []) := by
      intro n_29
      induction n_29 with
      | zero => intro gs00_8 gs01_9 x6_10 x7_11 H locs ls hm; exact absurd hm (Nat.not_lt_zero _)
      | succ n_29 ih_14 =>
        intro gs00_8 gs01_9 x6_10 x7_11 H locs ls hI_15 hi hP hD hS hl
        have hv := hs_28 gs00_8 gs01_9 x6_10 x7_11 hi
        refine lv_iload hx hb dX3_trySeat_37 (lv_at hl 0 rfl) ?_
        refine lv_iload_n hx hb dX3_trySeat_39 rfl (lv_at hl 5 rfl) ?_
        refine lv_icmp_ge (tgt := 81) hx hb dX3_trySeat_40 (by decide) (fun hc_16 => ?_) (fun hc_16 => ?_)
        · have hv := hv.1 hc_16
          refine lv_aload_n hx hb dX3_trySeat_81 rfl (lv_at hl 2 rfl) ?_
          refine va_get (D := G.1) (ci := 3) (v := .ref q1) (C := RX3) (T := TX3) (N := 7) hx hb hts hinX3 hown hKK.1 hP 0 rfl rfl 1 (by decide) kl18 (fun _ h9 => h9) rfl dX3_trySeat_82 ?_
          refine lv_iload hx hb dX3_trySeat_85 (lv_at hl 6 rfl) ?_
          refine lv_iload hx hb dX3_trySeat_87 (lv_at hl 7 rfl) ?_
          refine x_calliR (x_runS (As := [.int pq, .int bq]) (rest := [.ref q1]) (n := 2) ⟨hx, hb, hml, hown, hts⟩ (k_X3_seatAt l G  _ pq bq) gX3_trySeat_X3_seatAt rfl (by decide +kernel) ⟨Nat.le_trans (Nat.le_of_ble_eq_true rfl) hRf, Nat.le_trans (Nat.le_of_ble_eq_true rfl) hRl⟩ hKK hSS hS hA hP hD [] (by decide) rfl rfl hl.1 rfl (Nat.le_of_ble_eq_true rfl) dX3_trySeat_89) hP hD hS hA [] rfl (fun r_17 _ H locs hw hP hS => ?_)
          replace hw := hw.symm; subst hw
          refine lv_iload hx hb dX3_trySeat_92 (lv_at hl 1 rfl) ?_
          obtain ⟨hin, hv⟩ := hv
          refine va_iast hx hb hKK.1 hP hD hS 1 0 rfl rfl hin dX3_trySeat_94 (fun H locs hP hD hS => ?_)
          have hP : va_P G.1 vwCl [(q, .inr (3, [.ref s0, .ref q1, .ref q2, .ref q3, .ref q4, .int bc, .int bl])), aI G q1 40 (upd co ((pq * 10 + bq + 1).toNatClampNeg) x6_10), aI G q2 40 wo, aI G q3 4 ch, aI G q4 4 be, (s0, .inr (4, [.int gs00_8, .int gs01_9])), (t, .inr (6, [.int ns, .int np, .int fu, .int fd, .int fi, .ref t1, .ref t2, .ref t3, .ref t4, .ref t5, .ref t6])), aI G t1 9 sz_, aI G t2 9 pt, aI G t3 9 fh, aI G t4 8 kd, aI G t5 8 nd, aI G t6 8 fw, (n, .inr (1, [.ref n1, .ref n2, .ref n3, .ref n4, .ref n5, .ref n6, .ref n7, .int lo, .int mi, .int sd])), aI G n1 9 ht, aI G n2 8 wm, aI G n3 8 se, aI G n4 8 cd, aI G n5 8 sl, aI G n6 8 od, aI G n7 72 ow] H := hP
          have hD : va_D A [(q, .inr (3, [.ref s0, .ref q1, .ref q2, .ref q3, .ref q4, .int bc, .int bl])), aI G q1 40 (upd co ((pq * 10 + bq + 1).toNatClampNeg) x6_10), aI G q2 40 wo, aI G q3 4 ch, aI G q4 4 be, (s0, .inr (4, [.int gs00_8, .int gs01_9])), (t, .inr (6, [.int ns, .int np, .int fu, .int fd, .int fi, .ref t1, .ref t2, .ref t3, .ref t4, .ref t5, .ref t6])), aI G t1 9 sz_, aI G t2 9 pt, aI G t3 9 fh, aI G t4 8 kd, aI G t5 8 nd, aI G t6 8 fw, (n, .inr (1, [.ref n1, .ref n2, .ref n3, .ref n4, .ref n5, .ref n6, .ref n7, .int lo, .int mi, .int sd])), aI G n1 9 ht, aI G n2 8 wm, aI G n3 8 se, aI G n4 8 cd, aI G n5 8 sl, aI G n6 8 od, aI G n7 72 ow] := hD
          refine lv_aload_n hx hb dX3_trySeat_95 rfl (lv_at hl 2 rfl) ?_
          refine va_get (D := G.1) (ci := 3) (v := .ref q2) (C := RX3) (T := TX3) (N := 7) hx hb hts hinX3 hown hKK.1 hP 0 rfl rfl 2 (by decide) kl22 (fun _ h9 => h9) rfl dX3_trySeat_96 ?_
          refine lv_iload hx hb dX3_trySeat_99 (lv_at hl 6 rfl) ?_
          refine lv_iload hx hb dX3_trySeat_101 (lv_at hl 7 rfl) ?_
          refine x_calliR (x_runS (As := [.int pq, .int bq]) (rest := [.ref q2]) (n := 2) ⟨hx, hb, hml, hown, hts⟩ (k_X3_seatAt l G  _ pq bq) gX3_trySeat_X3_seatAt rfl (by decide +kernel) ⟨Nat.le_trans (Nat.le_of_ble_eq_true rfl) hRf, Nat.le_trans (Nat.le_of_ble_eq_true rfl) hRl⟩ hKK hSS hS hA hP hD [] (by decide) rfl rfl hl.1 rfl (Nat.le_of_ble_eq_true rfl) dX3_trySeat_103) hP hD hS hA [] rfl (fun r_18 _ H locs hw hP hS => ?_)
          replace hw := hw.symm; subst hw
          refine lv_aload_n hx hb dX3_trySeat_106 rfl (lv_at hl 2 rfl) ?_
          refine va_get (D := G.1) (ci := 3) (v := .ref s0) (C := RX3) (T := TX3) (N := 7) hx hb hts hinX3 hown hKK.1 hP 0 rfl rfl 0 (by decide) kl12 (fun _ h9 => h9) rfl dX3_trySeat_107 ?_
          refine va_get (D := G.1) (ci := 4) (v := .int gs00_8) (C := RX4) (T := TX4) (N := 2) hx hb hts hinX4 hown hKK.1 hP 5 rfl rfl 0 (by decide) kl75 (fun _ h9 => h9) rfl dX3_trySeat_110 ?_
          obtain ⟨hin, hv⟩ := hv
          refine va_iast hx hb hKK.1 hP hD hS 2 0 rfl rfl hin dX3_trySeat_113 (fun H locs hP hD hS => ?_)
          have hP : va_P G.1 vwCl [(q, .inr (3, [.ref s0, .ref q1, .ref q2, .ref q3, .ref q4, .int bc, .int bl])), aI G q1 40 (upd co ((pq * 10 + bq + 1).toNatClampNeg) x6_10), aI G q2 40 (upd wo ((pq * 10 + bq + 1).toNatClampNeg) gs00_8), aI G q3 4 ch, aI G q4 4 be, (s0, .inr (4, [.int gs00_8, .int gs01_9])), (t, .inr (6, [.int ns, .int np, .int fu, .int fd, .int fi, .ref t1, .ref t2, .ref t3, .ref t4, .ref t5, .ref t6])), aI G t1 9 sz_, aI G t2 9 pt, aI G t3 9 fh, aI G t4 8 kd, aI G t5 8 nd, aI G t6 8 fw, (n, .inr (1, [.ref n1, .ref n2, .ref n3, .ref n4, .ref n5, .ref n6, .ref n7, .int lo, .int mi, .int sd])), aI G n1 9 ht, aI G n2 8 wm, aI G n3 8 se, aI G n4 8 cd, aI G n5 8 sl, aI G n6 8 od, aI G n7 72 ow] H := hP
          have hD : va_D A [(q, .inr (3, [.ref s0, .ref q1, .ref q2, .ref q3, .ref q4, .int bc, .int bl])), aI G q1 40 (upd co ((pq * 10 + bq + 1).toNatClampNeg) x6_10), aI G q2 40 (upd wo ((pq * 10 + bq + 1).toNatClampNeg) gs00_8), aI G q3 4 ch, aI G q4 4 be, (s0, .inr (4, [.int gs00_8, .int gs01_9])), (t, .inr (6, [.int ns, .int np, .int fu, .int fd, .int fi, .ref t1, .ref t2, .ref t3, .ref t4, .ref t5, .ref t6])), aI G t1 9 sz_, aI G t2 9 pt, aI G t3 9 fh, aI G t4 8 kd, aI G t5 8 nd, aI G t6 8 fw, (n, .inr (1, [.ref n1, .ref n2, .ref n3, .ref n4, .ref n5, .ref n6, .ref n7, .int lo, .int mi, .int sd])), aI G n1 9 ht, aI G n2 8 wm, aI G n3 8 se, aI G n4 8 cd, aI G n5 8 sl, aI G n6 8 od, aI G n7 72 ow] := hD
          exact x_vret ((upd co ((pq * 10 + bq + 1).toNatClampNeg) x6_10), (upd wo ((pq * 10 + bq + 1).toNatClampNeg) gs00_8), gs00_8, gs01_9) hQ hx hb hr hlocks hS dX3_trySeat_114 hv hP hD
        · have hv := hv.2 hc_16
          refine lv_aload_n hx hb dX3_trySeat_43 rfl (lv_at hl 2 rfl) ?_
          refine va_get (D := G.1) (ci := 3) (v := .ref s0) (C := RX3) (T := TX3) (N := 7) hx hb hts hinX3 hown hKK.1 hP 0 rfl rfl 0 (by decide) kl12 (fun _ h9 => h9) rfl dX3_trySeat_44 ?_
          refine lv_aload_n hx hb dX3_trySeat_47 rfl (lv_at hl 3 rfl) ?_
          refine lv_iload hx hb dX3_trySeat_48 (lv_at hl 6 rfl) ?_
          refine lv_iload hx hb dX3_trySeat_50 (lv_at hl 7 rfl) ?_
          obtain ⟨gT_19, gNs_20, gNp_21, gip_22, gxx_23, hv⟩ := hv
          obtain ⟨hp, hv⟩ := hv
          refine x_callv (wr := [(q, .inr (3, [.ref s0, .ref q1, .ref q2, .ref q3, .ref q4, .int bc, .int bl])), aI G q1 40 co, aI G q2 40 wo, aI G q3 4 ch, aI G q4 4 be, (n, .inr (1, [.ref n1, .ref n2, .ref n3, .ref n4, .ref n5, .ref n6, .ref n7, .int lo, .int mi, .int sd])), aI G n1 9 ht, aI G n2 8 wm, aI G n3 8 se, aI G n4 8 cd, aI G n5 8 sl, aI G n6 8 od, aI G n7 72 ow]) (w' := fun (u : (Int32) × (Int32)) => [(q, .inr (3, [.ref s0, .ref q1, .ref q2, .ref q3, .ref q4, .int bc, .int bl])), aI G q1 40 co, aI G q2 40 wo, aI G q3 4 ch, aI G q4 4 be, (s0, .inr (4, [.int u.1, .int u.2])), (t, .inr (6, [.int ns, .int np, .int fu, .int fd, .int fi, .ref t1, .ref t2, .ref t3, .ref t4, .ref t5, .ref t6])), aI G t1 9 sz_, aI G t2 9 pt, aI G t3 9 fh, aI G t4 8 kd, aI G t5 8 nd, aI G t6 8 fw, (n, .inr (1, [.ref n1, .ref n2, .ref n3, .ref n4, .ref n5, .ref n6, .ref n7, .int lo, .int mi, .int sd])), aI G n1 9 ht, aI G n2 8 wm, aI G n3 8 se, aI G n4 8 cd, aI G n5 8 sl, aI G n6 8 od, aI G n7 72 ow]) (x_runV (As := [.ref t, .int pq, .int bq]) (rest := []) (n := 3) (C := RX4) (ci := 4) ⟨hx, hb, hml, hown, hts⟩ (k_X4_passMinute l G s0 t t1 t2 t3 t4 t5 t6 _ gs00_8 gs01_9 ns np fu fd fi sz_ pt fh kd nd fw pq bq gT_19 gNs_20 gNp_21 gip_22 gxx_23 hp) gX3_trySeat_X4_passMinute rfl (by decide +kernel) ⟨Nat.le_trans (Nat.le_of_ble_eq_true rfl) hRf, Nat.le_trans (Nat.le_of_ble_eq_true rfl) hRl⟩ hKK hSS hS hA hP hD [5, 6, 7, 8, 9, 10, 11, 12] (by decide) rfl rfl rfl 5 rfl rfl hl.1 rfl (Nat.le_of_ble_eq_true rfl) dX3_trySeat_52) hP hD hS hA [5, 6, 7, 8, 9, 10, 11, 12] [0, 1, 2, 3, 4, 13, 14, 15, 16, 17, 18, 19, 20] [0, 1, 2, 3, 4, 13, 14, 15, 16, 17, 18, 19, 20, 5, 6, 7, 8, 9, 10, 11, 12] rfl rfl (by decide) (by decide) (by decide) (fun _ => rfl) (fun  u H locs hw hP hD hS => ?_)
          obtain ⟨sw2_25, sh2_26⟩ := u
          have hP : va_P G.1 vwCl [(q, .inr (3, [.ref s0, .ref q1, .ref q2, .ref q3, .ref q4, .int bc, .int bl])), aI G q1 40 co, aI G q2 40 wo, aI G q3 4 ch, aI G q4 4 be, (s0, .inr (4, [.int sw2_25, .int sh2_26])), (t, .inr (6, [.int ns, .int np, .int fu, .int fd, .int fi, .ref t1, .ref t2, .ref t3, .ref t4, .ref t5, .ref t6])), aI G t1 9 sz_, aI G t2 9 pt, aI G t3 9 fh, aI G t4 8 kd, aI G t5 8 nd, aI G t6 8 fw, (n, .inr (1, [.ref n1, .ref n2, .ref n3, .ref n4, .ref n5, .ref n6, .ref n7, .int lo, .int mi, .int sd])), aI G n1 9 ht, aI G n2 8 wm, aI G n3 8 se, aI G n4 8 cd, aI G n5 8 sl, aI G n6 8 od, aI G n7 72 ow] H := hP
          have hD : va_D A [(q, .inr (3, [.ref s0, .ref q1, .ref q2, .ref q3, .ref q4, .int bc, .int bl])), aI G q1 40 co, aI G q2 40 wo, aI G q3 4 ch, aI G q4 4 be, (s0, .inr (4, [.int sw2_25, .int sh2_26])), (t, .inr (6, [.int ns, .int np, .int fu, .int fd, .int fi, .ref t1, .ref t2, .ref t3, .ref t4, .ref t5, .ref t6])), aI G t1 9 sz_, aI G t2 9 pt, aI G t3 9 fh, aI G t4 8 kd, aI G t5 8 nd, aI G t6 8 fw, (n, .inr (1, [.ref n1, .ref n2, .ref n3, .ref n4, .ref n5, .ref n6, .ref n7, .int lo, .int mi, .int sd])), aI G n1 9 ht, aI G n2 8 wm, aI G n3 8 se, aI G n4 8 cd, aI G n5 8 sl, aI G n6 8 od, aI G n7 72 ow] := hD
          have hv := hv sw2_25 sh2_26 hw
          refine lv_aload_n hx hb dX3_trySeat_55 rfl (lv_at hl 2 rfl) ?_
          refine va_get (D := G.1) (ci := 3) (v := .ref s0) (C := RX3) (T := TX3) (N := 7) hx hb hts hinX3 hown hKK.1 hP 0 rfl rfl 0 (by decide) kl12 (fun _ h9 => h9) rfl dX3_trySeat_56 ?_
          refine va_get (D := G.1) (ci := 4) (v := .int sw2_25) (C := RX4) (T := TX4) (N := 2) hx hb hts hinX4 hown hKK.1 hP 5 rfl rfl 0 (by decide) kl75 (fun _ h9 => h9) rfl dX3_trySeat_59 ?_
          refine lv_aload_n hx hb dX3_trySeat_62 rfl (lv_at hl 3 rfl) ?_
          refine va_get (D := G.1) (ci := 6) (v := .ref t5) (C := RX6) (T := TX6) (N := 11) hx hb hts hinX6 hown hKK.1 hP 6 rfl rfl 9 (by decide) kl77 (fun _ h9 => h9) rfl dX3_trySeat_63 ?_
          refine lv_iload hx hb dX3_trySeat_66 (lv_at hl 6 rfl) ?_
          obtain ⟨hin, hv⟩ := hv
          refine va_iald hx hb hKK.1 hP 11 0 rfl rfl hin dX3_trySeat_68 ?_
          refine lv_icmp_ge (tgt := 75) hx hb dX3_trySeat_69 (by decide) (fun hc_27 => ?_) (fun hc_27 => ?_)
          · have hv := hv.1 hc_27
            refine lv_iinc (v := (x7_11 + 1)) (lv' := [(7, .int (x7_11 + 1)), (6, .int x6_10), (0, .ref q), (1, .ref t), (2, .ref n), (3, .int mm), (4, .int pq), (5, .int bq)]) hx hb dX3_trySeat_75 hl (k := 0) rfl rfl (by decide) rfl (fun ls hl => ?_)
            refine lv_goto (tgt := 37) hx hb dX3_trySeat_78 (by decide) ?_
            exact ih_14 _ _ _ _ _ _ _ (Nat.lt_of_lt_of_le hv.2 (Nat.le_of_lt_succ hI_15)) hv.1 hP hD hS hl
          · have hv := hv.2 hc_27
            refine lv_iinc (v := (x6_10 + 1)) (lv' := [(6, .int (x6_10 + 1)), (7, .int x7_11), (0, .ref q), (1, .ref t), (2, .ref n), (3, .int mm), (4, .int pq), (5, .int bq)]) hx hb dX3_trySeat_72 hl (k := 1) rfl rfl (by decide) rfl (fun ls hl => ?_)
            refine lv_iinc (v := (x7_11 + 1)) (lv' := [(7, .int (x7_11 + 1)), (6, .int (x6_10 + 1)), (0, .ref q), (1, .ref t), (2, .ref n), (3, .int mm), (4, .int pq), (5, .int bq)]) hx hb dX3_trySeat_75 hl (k := 1) rfl rfl (by decide) rfl (fun ls hl => ?_)
            refine lv_goto (tgt := 37) hx hb dX3_trySeat_78 (by decide) ?_
            exact ih_14 _ _ _ _ _ _ _ (Nat.lt_of_lt_of_le hv.2 (Nat.le_of_lt_succ hI_15)) hv.1 hP hD hS hl
    exact Lm_30 _ _ _ _ _ _ _ _ (Nat.lt_succ_self _) hi0 hP hD hS hl
  refine lv_icmp_ne (tgt := 21) hx hb dX3_trySeat_14 (by decide) (fun hc_4 => ?_) (fun hc_4 => ?_)
  · have hv := hv.1 hc_4
    refine lv_aload_n hx hb dX3_trySeat_21 rfl (lv_at hl 2 rfl) ?_
    refine va_get (D := G.1) (ci := 1) (v := .ref n1) (C := RX1) (T := TX1) (N := 10) hx hb hts hinX1 hown hKK.1 hP 13 rfl rfl 0 (by decide) kl64 (fun _ h9 => h9) rfl dX3_trySeat_22 ?_
    refine lv_iload hx hb dX3_trySeat_25 (lv_at hl 5 rfl) ?_
    obtain ⟨hin, hv⟩ := hv
    refine va_iald hx hb hKK.1 hP 14 0 rfl rfl hin dX3_trySeat_27 ?_
    exact K_3 _ _ _ _ hv hP hD hS hl
  · have hv := hv.2 hc_4
    refine lv_iconst (v := 0) hx hb dX3_trySeat_17 (by decide) ?_
    refine lv_goto (tgt := 28) hx hb dX3_trySeat_18 (by decide) ?_
    exact K_3 _ _ _ _ hv hP hD hS hl
theorem v_X3_trySeat (l : Launch) (G : Gt) (q q1 q2 q3 q4 s0 t t1 t2 t3 t4 t5 t6 n n1 n2 n3 n4 n5 n6 n7 : Nat) (sz : Nat) (bc : Int32) (bl : Int32) (co : Nat → Int32) (wo : Nat → Int32) (ch : Nat → Int32) (be : Nat → Int32) (sw : Int32) (sh : Int32) (ns : Int32) (np : Int32) (fu : Int32) (fd : Int32) (fi : Int32) (sz_ : Nat → Int32) (pt : Nat → Int32) (fh : Nat → Int32) (kd : Nat → Int32) (nd : Nat → Int32) (fw : Nat → Int32) (ht : Nat → Int32) (wm : Nat → Int32) (se : Nat → Int32) (cd : Nat → Int32) (sl : Nat → Int32) (od : Nat → Int32) (ow : Nat → Int32) (lo : Int32) (mi : Int32) (sd : Int32) (mm : Int32) (pq : Int32) (bq : Int32) (T : Nat → Nat → Int) (Ns : Nat) (Np : Nat) (v : Nat → Int) (kk : Nat → Int) (M : Int) (mq : Nat) (ip : Nat) (dd : Nat) (hp : TOK T Ns Np ∧ CT T Ns Np ns np fu fd fi sz_ pt kd nd ∧ CN Ns Np v ht wm se cd sl od ow lo mi sd ∧ NOK T Ns Np kk M v ∧ mm = nI mq ∧ mq ≤ 60 ∧ pq = nI ip ∧ ip < Np ∧ ip < 4 ∧ bq = nI dd - 1 ∧ dd ≤ Ns) : (vp_in pq 8) ∧ (∃ (J28_2 : Int32 → Prop), ((¬ bq = (-1) → (vp_in bq 9) ∧ (J28_2 (ht bq.toNatClampNeg))) ∧ (bq = (-1) → J28_2 0)) ∧ (∀ (t0_1 : Int32), J28_2 t0_1 → ∃ (I37_12 : Int32 → Int32 → Int32 → Int32 → Prop) (μ37_13 : Int32 → Int32 → Int32 → Int32 → Nat), I37_12 (wm pq.toNatClampNeg) t0_1 0 0 ∧ (∀ (gs00_8 : Int32) (gs01_9 : Int32) (x6_10 : Int32) (x7_11 : Int32), I37_12 gs00_8 gs01_9 x6_10 x7_11 → (mm ≤ x7_11 → (vp_in (pq * 10 + bq + 1) 40) ∧ ((vp_in (pq * 10 + bq + 1) 40) ∧ ((∃ (c_ w_ : Int32), c_.toInt = sGc T v mq ip dd ∧ w_.toInt = sGw T v mq ip dd ∧ (upd co ((pq * 10 + bq + 1).toNatClampNeg) x6_10) = upd co (10 * ip + dd) c_ ∧ (upd wo ((pq * 10 + bq + 1).toNatClampNeg) gs00_8) = upd wo (10 * ip + dd) w_)))) ∧ (¬ (mm ≤ x7_11) → ∃ (gT_19 : Nat → Nat → Int) (gNs_20 : Nat) (gNp_21 : Nat) (gip_22 : Nat) (gxx_23 : Int × Int), ((TOK gT_19 gNs_20 gNp_21 ∧ CT gT_19 gNs_20 gNp_21 ns np fu fd fi sz_ pt kd nd ∧ pq = nI gip_22 ∧ gip_22 < gNp_21 ∧ SOK gT_19 gNs_20 bq.toInt gxx_23 ∧ gs00_8.toInt = gxx_23.1 ∧ gs01_9.toInt = gxx_23.2) ∧ (∀ (sw2_25 : Int32) (sh2_26 : Int32), (sw2_25.toInt = (zSt gT_19 gip_22 bq.toInt gxx_23).1 ∧ sh2_26.toInt = (zSt gT_19 gip_22 bq.toInt gxx_23).2) → ((vp_in pq 8) ∧ (((nd pq.toNatClampNeg) ≤ sw2_25 → I37_12 sw2_25 sh2_26 x6_10 (x7_11 + 1) ∧ μ37_13 sw2_25 sh2_26 x6_10 (x7_11 + 1) < μ37_13 gs00_8 gs01_9 x6_10 x7_11) ∧ (¬ ((nd pq.toNatClampNeg) ≤ sw2_25) → I37_12 sw2_25 sh2_26 (x6_10 + 1) (x7_11 + 1) ∧ μ37_13 sw2_25 sh2_26 (x6_10 + 1) (x7_11 + 1) < μ37_13 gs00_8 gs01_9 x6_10 x7_11))))))))) := by
  obtain ⟨hT, hC, hN, hO, rfl, hm, rfl, hi, hi4, rfl, hd⟩ := hp
  have t1 := hT.1
  have t2 := hT.2.1
  have cp : (nI ip).toNatClampNeg = ip := nI_clamp (by omega)
  have vo : vp_in (nI ip) 8 := vp_in_nI (by omega) (by omega)
  have hb := nm_i (d := dd) (by omega)
  have hS := sSOK hT hO hi hd
  have ex : nI ip * 10 + (nI dd - 1) + 1 = nI (10 * ip + dd) := by
    rw [← Int32.toInt_inj, i_add (i_add (i_mul (nI_toInt (by omega)) (show (10 : Int32).toInt = 10 from rfl) (by omega) (by omega)) hb (by omega) (by omega)) i32_1 (by omega) (by omega), nI_toInt (by omega)]
    omega
  have cx : (nI (10 * ip + dd)).toNatClampNeg = 10 * ip + dd := nI_clamp (by omega)
  have vx : vp_in (nI (10 * ip + dd)) 40 := vp_in_nI (by omega) (by omega)
  have h1 : nI dd - 1 = -1 ↔ dd = 0 := by
    rw [i_eq hb (show (-1 : Int32).toInt = -1 from rfl)]; omega
  simp only [cp, ex, cx, hb]
  rw [h1]
  refine ⟨vo, fun t => t.toInt = sH v dd, ⟨fun q => ?_, fun q => ?_⟩, fun t ht => ?_⟩
  · rw [nm_s (by omega) q, nI_clamp (by omega)]
    refine ⟨vp_in_nI (by omega) (by omega), ?_⟩
    unfold sH; rw [if_neg q]; exact hN.h t1 (by omega)
  · unfold sH; rw [if_pos q]; rfl
  refine ⟨fun sw sh c z => ∃ i, i ≤ mq ∧ z = nI i ∧ sw.toInt = (zSts T ip ((dd : Int) - 1) (v (10 + ip), sH v dd) i).1 ∧ sh.toInt = (zSts T ip ((dd : Int) - 1) (v (10 + ip), sH v dd) i).2 ∧ c.toInt = zCm T ip ((dd : Int) - 1) (v (10 + ip), sH v dd) i, fun _ _ _ z => 60 - z.toNatClampNeg, ⟨0, by omega, rfl, hN.w t2 hi, ht, rfl⟩, ?_⟩
  rintro sw sh c z ⟨i, hi2, rfl, hsw, hsh, hc⟩
  have ei : (nI i).toNatClampNeg = i := nI_clamp (by omega)
  have ei1 : nI i + 1 = nI (i + 1) := nI_1 i
  have ej : (nI (i + 1)).toNatClampNeg = i + 1 := nI_clamp (by omega)
  simp only [ei, ei1, ej]
  have hmi : nI mq ≤ nI i ↔ mq ≤ i := nI_leI (by omega) (by omega)
  rw [hmi]
  refine ⟨fun q => ?_, fun q => ?_⟩
  · have e : i = mq := by omega
    subst e
    exact ⟨vx, vx, c, sw, hc, hsw, rfl, rfl⟩
  · have hcb := zCm_bd (T := T) (p := ip) (x := (dd : Int) - 1) (a := (v (10 + ip), sH v dd)) i
    refine ⟨T, Ns, Np, ip, _, ⟨hT, hC, rfl, hi, zSts_ok hT hi hS i, hsw, hsh⟩, fun sw2 sh2 h2 => ⟨vo, ?_⟩⟩
    have hcmp : nd ip ≤ sw2 ↔ T 3 ip ≤ (zSts T ip ((dd : Int) - 1) (v (10 + ip), sH v dd) (i + 1)).1 := i_le (hC.2.2.2.1 ip hi).2 h2.1
    rw [hcmp]
    refine ⟨fun g => ⟨⟨i + 1, by omega, rfl, h2.1, h2.2, ?_⟩, by omega⟩, fun g => ⟨⟨i + 1, by omega, rfl, h2.1, h2.2, ?_⟩, by omega⟩⟩
    · rw [zCm, if_neg (by omega), hc]; omega
    · rw [zCm, if_pos (by omega)]; exact i_add hc i32_1 (by omega) (by omega)
theorem k_X3_trySeat (l : Launch) (G : Gt) (q q1 q2 q3 q4 s0 t t1 t2 t3 t4 t5 t6 n n1 n2 n3 n4 n5 n6 n7 : Nat) (sz : Nat) (bc : Int32) (bl : Int32) (co : Nat → Int32) (wo : Nat → Int32) (ch : Nat → Int32) (be : Nat → Int32) (sw : Int32) (sh : Int32) (ns : Int32) (np : Int32) (fu : Int32) (fd : Int32) (fi : Int32) (sz_ : Nat → Int32) (pt : Nat → Int32) (fh : Nat → Int32) (kd : Nat → Int32) (nd : Nat → Int32) (fw : Nat → Int32) (ht : Nat → Int32) (wm : Nat → Int32) (se : Nat → Int32) (cd : Nat → Int32) (sl : Nat → Int32) (od : Nat → Int32) (ow : Nat → Int32) (lo : Int32) (mi : Int32) (sd : Int32) (mm : Int32) (pq : Int32) (bq : Int32) (T : Nat → Nat → Int) (Ns : Nat) (Np : Nat) (v : Nat → Int) (kk : Nat → Int) (M : Int) (mq : Nat) (ip : Nat) (dd : Nat) (hp : TOK T Ns Np ∧ CT T Ns Np ns np fu fd fi sz_ pt kd nd ∧ CN Ns Np v ht wm se cd sl od ow lo mi sd ∧ NOK T Ns Np kk M v ∧ mm = nI mq ∧ mq ≤ 60 ∧ pq = nI ip ∧ ip < Np ∧ ip < 4 ∧ bq = nI dd - 1 ∧ dd ≤ Ns) : MetV l yX3_trySeat wsX3_trySeat 3 70 G [.ref q, .ref t, .ref n, .int mm, .int pq, .int bq] [(q, .inr (3, [.ref s0, .ref q1, .ref q2, .ref q3, .ref q4, .int bc, .int bl])), aI G q1 40 co, aI G q2 40 wo, aI G q3 4 ch, aI G q4 4 be, (s0, .inr (4, [.int sw, .int sh])), (t, .inr (6, [.int ns, .int np, .int fu, .int fd, .int fi, .ref t1, .ref t2, .ref t3, .ref t4, .ref t5, .ref t6])), aI G t1 9 sz_, aI G t2 9 pt, aI G t3 9 fh, aI G t4 8 kd, aI G t5 8 nd, aI G t6 8 fw, (n, .inr (1, [.ref n1, .ref n2, .ref n3, .ref n4, .ref n5, .ref n6, .ref n7, .int lo, .int mi, .int sd])), aI G n1 9 ht, aI G n2 8 wm, aI G n3 8 se, aI G n4 8 cd, aI G n5 8 sl, aI G n6 8 od, aI G n7 72 ow] sz (fun (u : (Nat → Int32) × (Nat → Int32) × (Int32) × (Int32)) => (∃ (c_ w_ : Int32), c_.toInt = sGc T v mq ip dd ∧ w_.toInt = sGw T v mq ip dd ∧ u.1 = upd co (10 * ip + dd) c_ ∧ u.2.1 = upd wo (10 * ip + dd) w_)) (fun (u : (Nat → Int32) × (Nat → Int32) × (Int32) × (Int32)) => [(q, .inr (3, [.ref s0, .ref q1, .ref q2, .ref q3, .ref q4, .int bc, .int bl])), aI G q1 40 u.1, aI G q2 40 u.2.1, aI G q3 4 ch, aI G q4 4 be, (s0, .inr (4, [.int u.2.2.1, .int u.2.2.2])), (t, .inr (6, [.int ns, .int np, .int fu, .int fd, .int fi, .ref t1, .ref t2, .ref t3, .ref t4, .ref t5, .ref t6])), aI G t1 9 sz_, aI G t2 9 pt, aI G t3 9 fh, aI G t4 8 kd, aI G t5 8 nd, aI G t6 8 fw, (n, .inr (1, [.ref n1, .ref n2, .ref n3, .ref n4, .ref n5, .ref n6, .ref n7, .int lo, .int mi, .int sd])), aI G n1 9 ht, aI G n2 8 wm, aI G n3 8 se, aI G n4 8 cd, aI G n5 8 sl, aI G n6 8 od, aI G n7 72 ow]) :=
  c_X3_trySeat l G q q1 q2 q3 q4 s0 t t1 t2 t3 t4 t5 t6 n n1 n2 n3 n4 n5 n6 n7 sz bc bl co wo ch be sw sh ns np fu fd fi sz_ pt fh kd nd fw ht wm se cd sl od ow lo mi sd mm pq bq T Ns Np v kk M mq ip dd (v_X3_trySeat l G q q1 q2 q3 q4 s0 t t1 t2 t3 t4 t5 t6 n n1 n2 n3 n4 n5 n6 n7 sz bc bl co wo ch be sw sh ns np fu fd fi sz_ pt fh kd nd fw ht wm se cd sl od ow lo mi sd mm pq bq T Ns Np v kk M mq ip dd hp)

set_option maxHeartbeats 4000000 in
set_option maxRecDepth 100000 in
theorem c_X3_choose (l : Launch) (G : Gt) (q q1 q2 q3 q4 t t1 t2 t3 t4 t5 t6 : Nat) (sz : Nat) (s0 : Nat) (bc : Int32) (bl : Int32) (co : Nat → Int32) (wo : Nat → Int32) (ch : Nat → Int32) (be : Nat → Int32) (ns : Int32) (np : Int32) (fu : Int32) (fd : Int32) (fi : Int32) (sz_ : Nat → Int32) (pt : Nat → Int32) (fh : Nat → Int32) (kd : Nat → Int32) (nd : Nat → Int32) (fw : Nat → Int32) (pq : Int32) (tk : Int32) (x : Int32) (y : Int32) (T : Nat → Nat → Int) (Ns : Nat) (Np : Nat) (v : Nat → Int) (kk : Nat → Int) (M : Int) (mq : Nat) (S : Option (Int × Int × Nat)) (pc : Nat) (pn : Nat) (d fr_ lo_ : Nat) (hfr : 2 ≤ fr_) (hlo : 52 ≤ lo_) (hrec : ∀ (sz : Nat) (s0 : Nat) (bc : Int32) (bl : Int32) (co : Nat → Int32) (wo : Nat → Int32) (ch : Nat → Int32) (be : Nat → Int32) (ns : Int32) (np : Int32) (fu : Int32) (fd : Int32) (fi : Int32) (sz_ : Nat → Int32) (pt : Nat → Int32) (fh : Nat → Int32) (kd : Nat → Int32) (nd : Nat → Int32) (fw : Nat → Int32) (pq : Int32) (tk : Int32) (x : Int32) (y : Int32) (T : Nat → Nat → Int) (Ns : Nat) (Np : Nat) (v : Nat → Int) (kk : Nat → Int) (M : Int) (mq : Nat) (S : Option (Int × Int × Nat)) (pc : Nat) (pn : Nat), TOK T Ns Np ∧ CT T Ns Np ns np fu fd fi sz_ pt kd nd ∧ NOK T Ns Np kk M v ∧ Np ≤ 4 ∧ mq ≤ 60 ∧ sTab T v mq Ns Np co wo ∧ pq = nI pn ∧ pn ≤ Np ∧ pc < 10 ^ pn ∧ okB Ns (dg pn pc) pn = true ∧ (∀ b, b < 9 → bt tk b = usd (dg pn pc) (b + 1) pn) ∧ x.toInt = sCo T v mq (dg pn pc) pn ∧ y.toInt = sLe T v mq (dg pn pc) pn ∧ (∀ q, q < pn → (ch q).toInt = (dg pn pc q : Int) - 1) ∧ SRel Np S bc bl be ∧ Np + 1 ≤ pn + d → MetV l yX3_choose wsX3_choose fr_ lo_ G [.ref q, .ref t, .int pq, .int tk, .int x, .int y] [(q, .inr (3, [.ref s0, .ref q1, .ref q2, .ref q3, .ref q4, .int bc, .int bl])), aI G q1 40 co, aI G q2 40 wo, aI G q3 4 ch, aI G q4 4 be, (t, .inr (6, [.int ns, .int np, .int fu, .int fd, .int fi, .ref t1, .ref t2, .ref t3, .ref t4, .ref t5, .ref t6])), aI G t1 9 sz_, aI G t2 9 pt, aI G t3 9 fh, aI G t4 8 kd, aI G t5 8 nd, aI G t6 8 fw] sz (fun (u : (Nat → Int32) × (Nat → Int32) × (Int32) × (Int32)) => (SRel Np (sF T v mq Ns Np S (pc * 10 ^ (Np - pn)) (10 ^ (Np - pn))) u.2.2.1 u.2.2.2 u.2.1 ∧ (∀ q, q < pn → u.1 q = ch q))) (fun (u : (Nat → Int32) × (Nat → Int32) × (Int32) × (Int32)) => [(q, .inr (3, [.ref s0, .ref q1, .ref q2, .ref q3, .ref q4, .int u.2.2.1, .int u.2.2.2])), aI G q1 40 co, aI G q2 40 wo, aI G q3 4 u.1, aI G q4 4 u.2.1, (t, .inr (6, [.int ns, .int np, .int fu, .int fd, .int fi, .ref t1, .ref t2, .ref t3, .ref t4, .ref t5, .ref t6])), aI G t1 9 sz_, aI G t2 9 pt, aI G t3 9 fh, aI G t4 8 kd, aI G t5 8 nd, aI G t6 8 fw])) (hv : (np ≤ pq → (SRel Np (sF T v mq Ns Np S (pc * 10 ^ (Np - pn)) (10 ^ (Np - pn))) (if x < bc ∨ (x = bc ∧ bl < y) then x else bc) (if x < bc ∨ (x = bc ∧ bl < y) then y else bl) (if x < bc ∨ (x = bc ∧ bl < y) then va_cpy ch be 0 0 4 else be) ∧ (∀ q, q < pn → ch q = ch q))) ∧ (¬ (np ≤ pq) → (pq < 4 → ∃ (I25_12 : (Nat → Int32) → (Nat → Int32) → Int32 → Int32 → Int32 → Prop) (μ25_13 : (Nat → Int32) → (Nat → Int32) → Int32 → Int32 → Int32 → Nat), I25_12 ch be bc bl (-1) ∧ (∀ (fq3_7 : (Nat → Int32)) (fq4_8 : (Nat → Int32)) (gq5_9 : Int32) (gq6_10 : Int32) (x6_11 : Int32), I25_12 fq3_7 fq4_8 gq5_9 gq6_10 x6_11 → (ns ≤ x6_11 → (SRel Np (sF T v mq Ns Np S (pc * 10 ^ (Np - pn)) (10 ^ (Np - pn))) gq5_9 gq6_10 fq4_8 ∧ (∀ q, q < pn → fq3_7 q = ch q))) ∧ (¬ (ns ≤ x6_11) → ∃ (J48_18 : Int32 → Prop), ((¬ x6_11 = (-1) → J48_18 ((1 : Int32) <<< (x6_11 &&& 31))) ∧ (x6_11 = (-1) → J48_18 0)) ∧ (∀ (t0_17 : Int32), J48_18 t0_17 → (¬ (tk &&& t0_17) = 0 → I25_12 fq3_7 fq4_8 gq5_9 gq6_10 (x6_11 + 1) ∧ μ25_13 fq3_7 fq4_8 gq5_9 gq6_10 (x6_11 + 1) < μ25_13 fq3_7 fq4_8 gq5_9 gq6_10 x6_11) ∧ ((tk &&& t0_17) = 0 → (vp_in pq 4) ∧ ((vp_in (pq * 10 + x6_11 + 1) 40) ∧ ((vp_in (pq * 10 + x6_11 + 1) 40) ∧ (∃ (gT_23 : Nat → Nat → Int) (gNs_24 : Nat) (gNp_25 : Nat) (gv_26 : Nat → Int) (gkk_27 : Nat → Int) (gM_28 : Int) (gmq_29 : Nat) (gS_30 : Option (Int × Int × Nat)) (gpc_31 : Nat) (gpn_32 : Nat), ((TOK gT_23 gNs_24 gNp_25 ∧ CT gT_23 gNs_24 gNp_25 ns np fu fd fi sz_ pt kd nd ∧ NOK gT_23 gNs_24 gNp_25 gkk_27 gM_28 gv_26 ∧ gNp_25 ≤ 4 ∧ gmq_29 ≤ 60 ∧ sTab gT_23 gv_26 gmq_29 gNs_24 gNp_25 co wo ∧ (pq + 1) = nI gpn_32 ∧ gpn_32 ≤ gNp_25 ∧ gpc_31 < 10 ^ gpn_32 ∧ okB gNs_24 (dg gpn_32 gpc_31) gpn_32 = true ∧ (∀ b, b < 9 → bt (tk ||| t0_17) b = usd (dg gpn_32 gpc_31) (b + 1) gpn_32) ∧ (x + (co (pq * 10 + x6_11 + 1).toNatClampNeg)).toInt = sCo gT_23 gv_26 gmq_29 (dg gpn_32 gpc_31) gpn_32 ∧ ((if (wo (pq * 10 + x6_11 + 1).toNatClampNeg) < y then (wo (pq * 10 + x6_11 + 1).toNatClampNeg) else y) : Int32).toInt = sLe gT_23 gv_26 gmq_29 (dg gpn_32 gpc_31) gpn_32 ∧ (∀ q, q < gpn_32 → ((upd fq3_7 pq.toNatClampNeg x6_11) q).toInt = (dg gpn_32 gpc_31 q : Int) - 1) ∧ SRel gNp_25 gS_30 gq5_9 gq6_10 fq4_8 ∧ gNp_25 + 1 ≤ gpn_32 + d) ∧ (∀ (ch2_34 : Nat → Int32) (be2_35 : Nat → Int32) (bc2_36 : Int32) (bl2_37 : Int32), ((SRel gNp_25 (sF gT_23 gv_26 gmq_29 gNs_24 gNp_25 gS_30 (gpc_31 * 10 ^ (gNp_25 - gpn_32)) (10 ^ (gNp_25 - gpn_32))) bc2_36 bl2_37 be2_35 ∧ (∀ q, q < gpn_32 → ch2_34 q = (upd fq3_7 pq.toNatClampNeg x6_11) q))) → (I25_12 ch2_34 be2_35 bc2_36 bl2_37 (x6_11 + 1) ∧ μ25_13 ch2_34 be2_35 bc2_36 bl2_37 (x6_11 + 1) < μ25_13 fq3_7 fq4_8 gq5_9 gq6_10 x6_11))))))))))) ∧ (¬ (pq < 4) → (SRel Np (sF T v mq Ns Np S (pc * 10 ^ (Np - pn)) (10 ^ (Np - pn))) (if x < bc ∨ (x = bc ∧ bl < y) then x else bc) (if x < bc ∨ (x = bc ∧ bl < y) then y else bl) (if x < bc ∨ (x = bc ∧ bl < y) then va_cpy ch be 0 0 4 else be) ∧ (∀ q, q < pn → ch q = ch q))))) : MetV l yX3_choose wsX3_choose (fr_ + 1) (lo_ + 28) G [.ref q, .ref t, .int pq, .int tk, .int x, .int y] [(q, .inr (3, [.ref s0, .ref q1, .ref q2, .ref q3, .ref q4, .int bc, .int bl])), aI G q1 40 co, aI G q2 40 wo, aI G q3 4 ch, aI G q4 4 be, (t, .inr (6, [.int ns, .int np, .int fu, .int fd, .int fi, .ref t1, .ref t2, .ref t3, .ref t4, .ref t5, .ref t6])), aI G t1 9 sz_, aI G t2 9 pt, aI G t3 9 fh, aI G t4 8 kd, aI G t5 8 nd, aI G t6 8 fw] sz (fun (u : (Nat → Int32) × (Nat → Int32) × (Int32) × (Int32)) => (SRel Np (sF T v mq Ns Np S (pc * 10 ^ (Np - pn)) (10 ^ (Np - pn))) u.2.2.1 u.2.2.2 u.2.1 ∧ (∀ q, q < pn → u.1 q = ch q))) (fun (u : (Nat → Int32) × (Nat → Int32) × (Int32) × (Int32)) => [(q, .inr (3, [.ref s0, .ref q1, .ref q2, .ref q3, .ref q4, .int u.2.2.1, .int u.2.2.2])), aI G q1 40 co, aI G q2 40 wo, aI G q3 4 u.1, aI G q4 4 u.2.1, (t, .inr (6, [.int ns, .int np, .int fu, .int fd, .int fi, .ref t1, .ref t2, .ref t3, .ref t4, .ref t5, .ref t6])), aI G t1 9 sz_, aI G t2 9 pt, aI G t3 9 fh, aI G t4 8 kd, aI G t5 8 nd, aI G t6 8 fw]) := by
  refine x_startV (cc := cX3_choose) (maxL := 9) (ret := none) (by decide) rfl (Nat.le_of_ble_eq_true rfl) ?_
  intro p e s m args below meth c A R Q ls hRf hRl hQ C hP hD hS hA hSS hl
  obtain ⟨hx, hb, hr, hml, hown, hts, hlocks, hKK⟩ := C
  have hown : s.vm.findClass RX3 = some m.cls := hown
  have hl : lv_has ls 9 [(0, .ref q), (1, .ref t), (2, .int pq), (3, .int tk), (4, .int x), (5, .int y)] := hl
  have hinX3 : ∀ w ∈ u_ws RX3 TX3 7, w ∈ wsX3_choose := by decide +kernel
  have hinX6 : ∀ w ∈ u_ws RX6 TX6 11, w ∈ wsX3_choose := by decide +kernel
  have kl18 := hts (.fieldLink RX3 18 "WarmStones$Seating" "coldOn" "[I") (by decide +kernel)
  have kl22 := hts (.fieldLink RX3 22 "WarmStones$Seating" "warmthOn" "[I") (by decide +kernel)
  have kl25 := hts (.fieldLink RX3 25 "WarmStones$Seating" "chosen" "[I") (by decide +kernel)
  have kl31 := hts (.fieldLink RX3 31 "WarmStones$Town" "persons" "I") (by decide +kernel)
  have kl37 := hts (.fieldLink RX3 37 "WarmStones$Town" "stones" "I") (by decide +kernel)
  have kl87 := hts (.methodLink RX3 87 Lib.Math.min.name) (by decide +kernel)
  have km_c_min := hts (.code Lib.Math.min.name Lib.Math.min.code 2 (some .int)) (by decide +kernel)
  have km_i := hts (.initialized "java/lang/Math") (by decide +kernel)
  have km_s_min := hts (.static Lib.Math.min.name) (by decide +kernel)
  refine lv_iload_n hx hb dX3_choose_0 rfl (lv_at hl 2 rfl) ?_
  refine lv_aload_n hx hb dX3_choose_1 rfl (lv_at hl 1 rfl) ?_
  refine va_get (D := G.1) (ci := 6) (v := .int np) (C := RX6) (T := TX6) (N := 11) hx hb hts hinX6 hown hKK.1 hP 5 rfl rfl 1 (by decide) kl31 (fun _ h9 => h9) rfl dX3_choose_2 ?_
  refine lv_icmp_ge (tgt := 13) hx hb dX3_choose_5 (by decide) (fun hc_1 => ?_) (fun hc_1 => ?_)
  · have hv := hv.1 hc_1
    refine lv_aload_n hx hb dX3_choose_13 rfl (lv_at hl 0 rfl) ?_
    refine lv_iload hx hb dX3_choose_14 (lv_at hl 4 rfl) ?_
    refine lv_iload hx hb dX3_choose_16 (lv_at hl 5 rfl) ?_
    refine x_callv (wr := [(t, .inr (6, [.int ns, .int np, .int fu, .int fd, .int fi, .ref t1, .ref t2, .ref t3, .ref t4, .ref t5, .ref t6])), aI G t1 9 sz_, aI G t2 9 pt, aI G t3 9 fh, aI G t4 8 kd, aI G t5 8 nd, aI G t6 8 fw]) (w' := fun (u : (Int32) × (Int32) × (Nat → Int32)) => [(q, .inr (3, [.ref s0, .ref q1, .ref q2, .ref q3, .ref q4, .int u.1, .int u.2.1])), aI G q1 40 co, aI G q2 40 wo, aI G q3 4 ch, aI G q4 4 u.2.2, (t, .inr (6, [.int ns, .int np, .int fu, .int fd, .int fi, .ref t1, .ref t2, .ref t3, .ref t4, .ref t5, .ref t6])), aI G t1 9 sz_, aI G t2 9 pt, aI G t3 9 fh, aI G t4 8 kd, aI G t5 8 nd, aI G t6 8 fw]) (x_runV (As := [.int x, .int y]) (rest := []) (n := 2) (C := RX3) (ci := 3) ⟨hx, hb, hml, hown, hts⟩ (k_X3_weigh l G q q1 q2 q3 q4 _ s0 bc bl co wo ch be x y) gX3_choose_X3_weigh rfl (by decide +kernel) ⟨by omega, by omega⟩ hKK hSS hS hA hP hD [0, 1, 2, 3, 4] (by decide) rfl rfl rfl 0 rfl rfl hl.1 rfl (Nat.le_of_ble_eq_true rfl) dX3_choose_18) hP hD hS hA [0, 1, 2, 3, 4] [5, 6, 7, 8, 9, 10, 11] [7, 8, 9, 10, 11, 0, 1, 2, 3, 4, 5, 6] rfl rfl (by decide) (by decide) (by decide) (fun _ => rfl) (fun  u H locs hw hP hD hS => ?_)
    obtain ⟨bc2_3, bl2_4, be2_5⟩ := u
    obtain ⟨hw0, hw1, hw2⟩ := hw
    replace hw0 := hw0.symm; subst hw0
    replace hw1 := hw1.symm; subst hw1
    replace hw2 := hw2.symm; subst hw2
    have hP : va_P G.1 vwCl [(q, .inr (3, [.ref s0, .ref q1, .ref q2, .ref q3, .ref q4, .int (if x < bc ∨ (x = bc ∧ bl < y) then x else bc), .int (if x < bc ∨ (x = bc ∧ bl < y) then y else bl)])), aI G q1 40 co, aI G q2 40 wo, aI G q3 4 ch, aI G q4 4 (if x < bc ∨ (x = bc ∧ bl < y) then va_cpy ch be 0 0 4 else be), (t, .inr (6, [.int ns, .int np, .int fu, .int fd, .int fi, .ref t1, .ref t2, .ref t3, .ref t4, .ref t5, .ref t6])), aI G t1 9 sz_, aI G t2 9 pt, aI G t3 9 fh, aI G t4 8 kd, aI G t5 8 nd, aI G t6 8 fw] H := hP
    have hD : va_D A [(q, .inr (3, [.ref s0, .ref q1, .ref q2, .ref q3, .ref q4, .int (if x < bc ∨ (x = bc ∧ bl < y) then x else bc), .int (if x < bc ∨ (x = bc ∧ bl < y) then y else bl)])), aI G q1 40 co, aI G q2 40 wo, aI G q3 4 ch, aI G q4 4 (if x < bc ∨ (x = bc ∧ bl < y) then va_cpy ch be 0 0 4 else be), (t, .inr (6, [.int ns, .int np, .int fu, .int fd, .int fi, .ref t1, .ref t2, .ref t3, .ref t4, .ref t5, .ref t6])), aI G t1 9 sz_, aI G t2 9 pt, aI G t3 9 fh, aI G t4 8 kd, aI G t5 8 nd, aI G t6 8 fw] := hD
    exact x_vret (ch, (if x < bc ∨ (x = bc ∧ bl < y) then va_cpy ch be 0 0 4 else be), (if x < bc ∨ (x = bc ∧ bl < y) then x else bc), (if x < bc ∨ (x = bc ∧ bl < y) then y else bl)) hQ hx hb hr hlocks hS dX3_choose_21 hv hP hD
  · have hv := hv.2 hc_1
    refine lv_iload_n hx hb dX3_choose_8 rfl (lv_at hl 2 rfl) ?_
    refine lv_iconst (v := 4) hx hb dX3_choose_9 (by decide) ?_
    refine lv_icmp_lt (tgt := 22) hx hb dX3_choose_10 (by decide) (fun hc_6 => ?_) (fun hc_6 => ?_)
    · have hv := hv.1 hc_6
      refine lv_iconst (v := (-1)) hx hb dX3_choose_22 (by decide) ?_
      refine lv_istore (lv' := [(6, .int (-1)), (0, .ref q), (1, .ref t), (2, .int pq), (3, .int tk), (4, .int x), (5, .int y)]) hx hb dX3_choose_23 hl (by decide) rfl (fun ls hl => ?_)
      obtain ⟨I25_12, μ25_13, hi0, hs_39⟩ := hv
      have Lm_41 : ∀ (n_40 : Nat) (fq3_7 : (Nat → Int32)) (fq4_8 : (Nat → Int32)) (gq5_9 : Int32) (gq6_10 : Int32) (x6_11 : Int32) (H : Heap) (locs : List Loc) (ls : Array Slot), μ25_13 fq3_7 fq4_8 gq5_9 gq6_10 x6_11 < n_40 → I25_12 fq3_7 fq4_8 gq5_9 gq6_10 x6_11 → va_P G.1 vwCl [(q, .inr (3, [.ref s0, .ref q1, .ref q2, .ref q3, .ref q4, .int gq5_9, .int gq6_10])), aI G q1 40 co, aI G q2 40 wo, aI G q3 4 fq3_7, aI G q4 4 fq4_8, (t, .inr (6, [.int ns, .int np, .int fu, .int fd, .int fi, .ref t1, .ref t2, .ref t3, .ref t4, .ref t5, .ref t6])), aI G t1 9 sz_, aI G t2 9 pt, aI G t3 9 fh, aI G t4 8 kd, aI G t5 8 nd, aI G t6 8 fw] H → va_D A [(q, .inr (3, [.ref s0, .ref q1, .ref q2, .ref q3, .ref q4, .int gq5_9, .int gq6_10])), aI G q1 40 co, aI G q2 40 wo, aI G q3 4 fq3_7, aI G q4 4 fq4_8, (t, .inr (6, [.int ns, .int np, .int fu, .int fd, .int fi, .ref t1, .ref t2, .ref t3, .ref t4, .ref t5, .ref t6])), aI G t1 9 sz_, aI G t2 9 pt, aI G t3 9 fh, aI G t4 8 kd, aI G t5 8 nd, aI G t6 8 fw] → va_S A s.heap H locs → lv_has ls 9 [(6, .int x6_11), (0, .ref q), (1, .ref t), (2, .int pq), (3, .int tk), (4, .int x), (5, .int y)] → W p l e R s m args below meth c H locs 0 0 Q (F0 m 25 ls []) := by
        intro n_40
        induction n_40 with
        | zero => intro fq3_7 fq4_8 gq5_9 gq6_10 x6_11 H locs ls hm; exact absurd hm (Nat.not_lt_zero _)
        | succ n_40 ih_14 =>
          intro fq3_7 fq4_8 gq5_9 gq6_10 x6_11 H locs ls hI_15 hi hP hD hS hl
          have hv := hs_39 fq3_7 fq4_8 gq5_9 gq6_10 x6_11 hi
          refine lv_iload hx hb dX3_choose_25 (lv_at hl 0 rfl) ?_
          refine lv_aload_n hx hb dX3_choose_27 rfl (lv_at hl 2 rfl) ?_
          refine va_get (D := G.1) (ci := 6) (v := .int ns) (C := RX6) (T := TX6) (N := 11) hx hb hts hinX6 hown hKK.1 hP 5 rfl rfl 0 (by decide) kl37 (fun _ h9 => h9) rfl dX3_choose_28 ?_
          refine lv_icmp_ge (tgt := 113) hx hb dX3_choose_31 (by decide) (fun hc_16 => ?_) (fun hc_16 => ?_)
          · have hv := hv.1 hc_16
            exact x_vret (fq3_7, fq4_8, gq5_9, gq6_10) hQ hx hb hr hlocks hS dX3_choose_113 hv hP hD
          · have hv := hv.2 hc_16
            refine lv_iload hx hb dX3_choose_34 (lv_at hl 0 rfl) ?_
            refine lv_iconst (v := (-1)) hx hb dX3_choose_36 (by decide) ?_
            obtain ⟨J48_18, hv, hj_38⟩ := hv
            have K_19 : ∀ (t0_17 : Int32) (H : Heap) (locs : List Loc) (ls : Array Slot), J48_18 t0_17 → va_P G.1 vwCl [(q, .inr (3, [.ref s0, .ref q1, .ref q2, .ref q3, .ref q4, .int gq5_9, .int gq6_10])), aI G q1 40 co, aI G q2 40 wo, aI G q3 4 fq3_7, aI G q4 4 fq4_8, (t, .inr (6, [.int ns, .int np, .int fu, .int fd, .int fi, .ref t1, .ref t2, .ref t3, .ref t4, .ref t5, .ref t6])), aI G t1 9 sz_, aI G t2 9 pt, aI G t3 9 fh, aI G t4 8 kd, aI G t5 8 nd, aI G t6 8 fw] H → va_D A [(q, .inr (3, [.ref s0, .ref q1, .ref q2, .ref q3, .ref q4, .int gq5_9, .int gq6_10])), aI G q1 40 co, aI G q2 40 wo, aI G q3 4 fq3_7, aI G q4 4 fq4_8, (t, .inr (6, [.int ns, .int np, .int fu, .int fd, .int fi, .ref t1, .ref t2, .ref t3, .ref t4, .ref t5, .ref t6])), aI G t1 9 sz_, aI G t2 9 pt, aI G t3 9 fh, aI G t4 8 kd, aI G t5 8 nd, aI G t6 8 fw] → va_S A s.heap H locs → lv_has ls 9 [(6, .int x6_11), (0, .ref q), (1, .ref t), (2, .int pq), (3, .int tk), (4, .int x), (5, .int y)] → W p l e R s m args below meth c H locs 0 0 Q (F0 m 48 ls [.int t0_17]) := by
              intro t0_17 H locs ls hi hP hD hS hl
              have hv := hj_38 t0_17 hi
              refine lv_istore (lv' := [(7, .int t0_17), (6, .int x6_11), (0, .ref q), (1, .ref t), (2, .int pq), (3, .int tk), (4, .int x), (5, .int y)]) hx hb dX3_choose_48 hl (by decide) rfl (fun ls hl => ?_)
              refine lv_iload_n hx hb dX3_choose_50 rfl (lv_at hl 5 rfl) ?_
              refine lv_iload hx hb dX3_choose_51 (lv_at hl 0 rfl) ?_
              refine lv_iand hx hb dX3_choose_53 ?_
              refine lv_if_ne (tgt := 107) hx hb dX3_choose_54 (by decide) (fun hc_21 => ?_) (fun hc_21 => ?_)
              · have hv := hv.1 hc_21
                refine lv_iinc (v := (x6_11 + 1)) (lv' := [(6, .int (x6_11 + 1)), (7, .int t0_17), (0, .ref q), (1, .ref t), (2, .int pq), (3, .int tk), (4, .int x), (5, .int y)]) hx hb dX3_choose_107 hl (k := 1) rfl rfl (by decide) rfl (fun ls hl => ?_)
                refine lv_goto (tgt := 25) hx hb dX3_choose_110 (by decide) ?_
                exact ih_14 _ _ _ _ _ _ _ _ (Nat.lt_of_lt_of_le hv.2 (Nat.le_of_lt_succ hI_15)) hv.1 hP hD hS (lv_sub hl [0, 2, 3, 4, 5, 6, 7] rfl)
              · have hv := hv.2 hc_21
                refine lv_iload_n hx hb dX3_choose_57 rfl (lv_at hl 4 rfl) ?_
                refine lv_iload hx hb dX3_choose_58 (lv_at hl 1 rfl) ?_
                refine x_calliR (x_runS (As := [.int pq, .int x6_11]) (rest := []) (n := 2) ⟨hx, hb, hml, hown, hts⟩ (k_X3_seatAt l G  _ pq x6_11) gX3_choose_X3_seatAt rfl (by decide +kernel) ⟨by omega, by omega⟩ hKK hSS hS hA hP hD [] (by decide) rfl rfl hl.1 rfl (Nat.le_of_ble_eq_true rfl) dX3_choose_60) hP hD hS hA [] rfl (fun r_22 _ H locs hw hP hS => ?_)
                replace hw := hw.symm; subst hw
                refine lv_istore (lv' := [(8, .int (pq * 10 + x6_11 + 1)), (7, .int t0_17), (6, .int x6_11), (0, .ref q), (1, .ref t), (2, .int pq), (3, .int tk), (4, .int x), (5, .int y)]) hx hb dX3_choose_63 hl (by decide) rfl (fun ls hl => ?_)
                refine lv_aload_n hx hb dX3_choose_65 rfl (lv_at hl 3 rfl) ?_
                refine va_get (D := G.1) (ci := 3) (v := .ref q3) (C := RX3) (T := TX3) (N := 7) hx hb hts hinX3 hown hKK.1 hP 0 rfl rfl 3 (by decide) kl25 (fun _ h9 => h9) rfl dX3_choose_66 ?_
                refine lv_iload_n hx hb dX3_choose_69 rfl (lv_at hl 5 rfl) ?_
                refine lv_iload hx hb dX3_choose_70 (lv_at hl 2 rfl) ?_
                obtain ⟨hin, hv⟩ := hv
                refine va_iast hx hb hKK.1 hP hD hS 3 0 rfl rfl hin dX3_choose_72 (fun H locs hP hD hS => ?_)
                have hP : va_P G.1 vwCl [(q, .inr (3, [.ref s0, .ref q1, .ref q2, .ref q3, .ref q4, .int gq5_9, .int gq6_10])), aI G q1 40 co, aI G q2 40 wo, aI G q3 4 (upd fq3_7 pq.toNatClampNeg x6_11), aI G q4 4 fq4_8, (t, .inr (6, [.int ns, .int np, .int fu, .int fd, .int fi, .ref t1, .ref t2, .ref t3, .ref t4, .ref t5, .ref t6])), aI G t1 9 sz_, aI G t2 9 pt, aI G t3 9 fh, aI G t4 8 kd, aI G t5 8 nd, aI G t6 8 fw] H := hP
                have hD : va_D A [(q, .inr (3, [.ref s0, .ref q1, .ref q2, .ref q3, .ref q4, .int gq5_9, .int gq6_10])), aI G q1 40 co, aI G q2 40 wo, aI G q3 4 (upd fq3_7 pq.toNatClampNeg x6_11), aI G q4 4 fq4_8, (t, .inr (6, [.int ns, .int np, .int fu, .int fd, .int fi, .ref t1, .ref t2, .ref t3, .ref t4, .ref t5, .ref t6])), aI G t1 9 sz_, aI G t2 9 pt, aI G t3 9 fh, aI G t4 8 kd, aI G t5 8 nd, aI G t6 8 fw] := hD
                refine lv_aload_n hx hb dX3_choose_73 rfl (lv_at hl 3 rfl) ?_
                refine lv_aload_n hx hb dX3_choose_74 rfl (lv_at hl 4 rfl) ?_
                refine lv_iload_n hx hb dX3_choose_75 rfl (lv_at hl 5 rfl) ?_
                refine lv_iconst (v := 1) hx hb dX3_choose_76 (by decide) ?_
                refine lv_iadd hx hb dX3_choose_77 ?_
                refine lv_iload_n hx hb dX3_choose_78 rfl (lv_at hl 6 rfl) ?_
                refine lv_iload hx hb dX3_choose_79 (lv_at hl 1 rfl) ?_
                refine lv_ior hx hb dX3_choose_81 ?_
                refine lv_iload hx hb dX3_choose_82 (lv_at hl 7 rfl) ?_
                refine lv_aload_n hx hb dX3_choose_84 rfl (lv_at hl 3 rfl) ?_
                refine va_get (D := G.1) (ci := 3) (v := .ref q1) (C := RX3) (T := TX3) (N := 7) hx hb hts hinX3 hown hKK.1 hP 0 rfl rfl 1 (by decide) kl18 (fun _ h9 => h9) rfl dX3_choose_85 ?_
                refine lv_iload hx hb dX3_choose_88 (lv_at hl 0 rfl) ?_
                obtain ⟨hin, hv⟩ := hv
                refine va_iald hx hb hKK.1 hP 1 0 rfl rfl hin dX3_choose_90 ?_
                refine lv_iadd hx hb dX3_choose_91 ?_
                refine lv_iload hx hb dX3_choose_92 (lv_at hl 8 rfl) ?_
                refine lv_aload_n hx hb dX3_choose_94 rfl (lv_at hl 3 rfl) ?_
                refine va_get (D := G.1) (ci := 3) (v := .ref q2) (C := RX3) (T := TX3) (N := 7) hx hb hts hinX3 hown hKK.1 hP 0 rfl rfl 2 (by decide) kl22 (fun _ h9 => h9) rfl dX3_choose_95 ?_
                refine lv_iload hx hb dX3_choose_98 (lv_at hl 0 rfl) ?_
                obtain ⟨hin, hv⟩ := hv
                refine va_iald hx hb hKK.1 hP 2 0 rfl rfl hin dX3_choose_100 ?_
                refine va_mmin hx hb (hml.trans hl.1.symm) hown kl87 km_s_min km_i km_c_min (by omega) (Nat.le_trans (Nat.le_of_ble_eq_true rfl : _ ≤ 30) (by omega)) (Nat.zero_le _) (Nat.zero_le _) dX3_choose_101 ?_
                obtain ⟨gT_23, gNs_24, gNp_25, gv_26, gkk_27, gM_28, gmq_29, gS_30, gpc_31, gpn_32, hv⟩ := hv
                obtain ⟨hp, hv⟩ := hv
                refine x_callv (wr := []) (w' := fun (u : (Nat → Int32) × (Nat → Int32) × (Int32) × (Int32)) => [(q, .inr (3, [.ref s0, .ref q1, .ref q2, .ref q3, .ref q4, .int u.2.2.1, .int u.2.2.2])), aI G q1 40 co, aI G q2 40 wo, aI G q3 4 u.1, aI G q4 4 u.2.1, (t, .inr (6, [.int ns, .int np, .int fu, .int fd, .int fi, .ref t1, .ref t2, .ref t3, .ref t4, .ref t5, .ref t6])), aI G t1 9 sz_, aI G t2 9 pt, aI G t3 9 fh, aI G t4 8 kd, aI G t5 8 nd, aI G t6 8 fw]) (x_runV (As := [.ref t, .int (pq + 1), .int (tk ||| t0_17), .int (x + (co (pq * 10 + x6_11 + 1).toNatClampNeg)), .int (if (wo (pq * 10 + x6_11 + 1).toNatClampNeg) < y then (wo (pq * 10 + x6_11 + 1).toNatClampNeg) else y)]) (rest := []) (n := 5) (C := RX3) (ci := 3) ⟨hx, hb, hml, hown, hts⟩ (hrec _ s0 gq5_9 gq6_10 co wo (upd fq3_7 pq.toNatClampNeg x6_11) fq4_8 ns np fu fd fi sz_ pt fh kd nd fw (pq + 1) (tk ||| t0_17) (x + (co (pq * 10 + x6_11 + 1).toNatClampNeg)) (if (wo (pq * 10 + x6_11 + 1).toNatClampNeg) < y then (wo (pq * 10 + x6_11 + 1).toNatClampNeg) else y) gT_23 gNs_24 gNp_25 gv_26 gkk_27 gM_28 gmq_29 gS_30 gpc_31 gpn_32 hp) gX3_choose_X3_choose rfl (by decide +kernel) ⟨by omega, by omega⟩ hKK hSS hS hA hP hD [0, 1, 2, 3, 4, 5, 6, 7, 8, 9, 10, 11] (by decide) rfl rfl rfl 0 rfl rfl hl.1 rfl (Nat.le_of_ble_eq_true rfl) dX3_choose_104) hP hD hS hA [0, 1, 2, 3, 4, 5, 6, 7, 8, 9, 10, 11] [] [0, 1, 2, 3, 4, 5, 6, 7, 8, 9, 10, 11] rfl rfl (by decide) (by decide) (by decide) (fun _ => rfl) (fun  u H locs hw hP hD hS => ?_)
                obtain ⟨ch2_34, be2_35, bc2_36, bl2_37⟩ := u
                have hP : va_P G.1 vwCl [(q, .inr (3, [.ref s0, .ref q1, .ref q2, .ref q3, .ref q4, .int bc2_36, .int bl2_37])), aI G q1 40 co, aI G q2 40 wo, aI G q3 4 ch2_34, aI G q4 4 be2_35, (t, .inr (6, [.int ns, .int np, .int fu, .int fd, .int fi, .ref t1, .ref t2, .ref t3, .ref t4, .ref t5, .ref t6])), aI G t1 9 sz_, aI G t2 9 pt, aI G t3 9 fh, aI G t4 8 kd, aI G t5 8 nd, aI G t6 8 fw] H := hP
                have hD : va_D A [(q, .inr (3, [.ref s0, .ref q1, .ref q2, .ref q3, .ref q4, .int bc2_36, .int bl2_37])), aI G q1 40 co, aI G q2 40 wo, aI G q3 4 ch2_34, aI G q4 4 be2_35, (t, .inr (6, [.int ns, .int np, .int fu, .int fd, .int fi, .ref t1, .ref t2, .ref t3, .ref t4, .ref t5, .ref t6])), aI G t1 9 sz_, aI G t2 9 pt, aI G t3 9 fh, aI G t4 8 kd, aI G t5 8 nd, aI G t6 8 fw] := hD
                have hv := hv ch2_34 be2_35 bc2_36 bl2_37 hw
                refine lv_iinc (v := (x6_11 + 1)) (lv' := [(6, .int (x6_11 + 1)), (8, .int (pq * 10 + x6_11 + 1)), (7, .int t0_17), (0, .ref q), (1, .ref t), (2, .int pq), (3, .int tk), (4, .int x), (5, .int y)]) hx hb dX3_choose_107 hl (k := 2) rfl rfl (by decide) rfl (fun ls hl => ?_)
                refine lv_goto (tgt := 25) hx hb dX3_choose_110 (by decide) ?_
                exact ih_14 _ _ _ _ _ _ _ _ (Nat.lt_of_lt_of_le hv.2 (Nat.le_of_lt_succ hI_15)) hv.1 hP hD hS (lv_sub hl [0, 3, 4, 5, 6, 7, 8] rfl)
            refine lv_icmp_ne (tgt := 44) hx hb dX3_choose_37 (by decide) (fun hc_20 => ?_) (fun hc_20 => ?_)
            · have hv := hv.1 hc_20
              refine lv_iconst (v := 1) hx hb dX3_choose_44 (by decide) ?_
              refine lv_iload hx hb dX3_choose_45 (lv_at hl 0 rfl) ?_
              refine lv_ishl hx hb dX3_choose_47 ?_
              exact K_19 _ _ _ _ hv hP hD hS hl
            · have hv := hv.2 hc_20
              refine lv_iconst (v := 0) hx hb dX3_choose_40 (by decide) ?_
              refine lv_goto (tgt := 48) hx hb dX3_choose_41 (by decide) ?_
              exact K_19 _ _ _ _ hv hP hD hS hl
      exact Lm_41 _ _ _ _ _ _ _ _ _ (Nat.lt_succ_self _) hi0 hP hD hS hl
    · have hv := hv.2 hc_6
      refine lv_aload_n hx hb dX3_choose_13 rfl (lv_at hl 0 rfl) ?_
      refine lv_iload hx hb dX3_choose_14 (lv_at hl 4 rfl) ?_
      refine lv_iload hx hb dX3_choose_16 (lv_at hl 5 rfl) ?_
      refine x_callv (wr := [(t, .inr (6, [.int ns, .int np, .int fu, .int fd, .int fi, .ref t1, .ref t2, .ref t3, .ref t4, .ref t5, .ref t6])), aI G t1 9 sz_, aI G t2 9 pt, aI G t3 9 fh, aI G t4 8 kd, aI G t5 8 nd, aI G t6 8 fw]) (w' := fun (u : (Int32) × (Int32) × (Nat → Int32)) => [(q, .inr (3, [.ref s0, .ref q1, .ref q2, .ref q3, .ref q4, .int u.1, .int u.2.1])), aI G q1 40 co, aI G q2 40 wo, aI G q3 4 ch, aI G q4 4 u.2.2, (t, .inr (6, [.int ns, .int np, .int fu, .int fd, .int fi, .ref t1, .ref t2, .ref t3, .ref t4, .ref t5, .ref t6])), aI G t1 9 sz_, aI G t2 9 pt, aI G t3 9 fh, aI G t4 8 kd, aI G t5 8 nd, aI G t6 8 fw]) (x_runV (As := [.int x, .int y]) (rest := []) (n := 2) (C := RX3) (ci := 3) ⟨hx, hb, hml, hown, hts⟩ (k_X3_weigh l G q q1 q2 q3 q4 _ s0 bc bl co wo ch be x y) gX3_choose_X3_weigh rfl (by decide +kernel) ⟨by omega, by omega⟩ hKK hSS hS hA hP hD [0, 1, 2, 3, 4] (by decide) rfl rfl rfl 0 rfl rfl hl.1 rfl (Nat.le_of_ble_eq_true rfl) dX3_choose_18) hP hD hS hA [0, 1, 2, 3, 4] [5, 6, 7, 8, 9, 10, 11] [7, 8, 9, 10, 11, 0, 1, 2, 3, 4, 5, 6] rfl rfl (by decide) (by decide) (by decide) (fun _ => rfl) (fun  u H locs hw hP hD hS => ?_)
      obtain ⟨bc2_43, bl2_44, be2_45⟩ := u
      obtain ⟨hw0, hw1, hw2⟩ := hw
      replace hw0 := hw0.symm; subst hw0
      replace hw1 := hw1.symm; subst hw1
      replace hw2 := hw2.symm; subst hw2
      have hP : va_P G.1 vwCl [(q, .inr (3, [.ref s0, .ref q1, .ref q2, .ref q3, .ref q4, .int (if x < bc ∨ (x = bc ∧ bl < y) then x else bc), .int (if x < bc ∨ (x = bc ∧ bl < y) then y else bl)])), aI G q1 40 co, aI G q2 40 wo, aI G q3 4 ch, aI G q4 4 (if x < bc ∨ (x = bc ∧ bl < y) then va_cpy ch be 0 0 4 else be), (t, .inr (6, [.int ns, .int np, .int fu, .int fd, .int fi, .ref t1, .ref t2, .ref t3, .ref t4, .ref t5, .ref t6])), aI G t1 9 sz_, aI G t2 9 pt, aI G t3 9 fh, aI G t4 8 kd, aI G t5 8 nd, aI G t6 8 fw] H := hP
      have hD : va_D A [(q, .inr (3, [.ref s0, .ref q1, .ref q2, .ref q3, .ref q4, .int (if x < bc ∨ (x = bc ∧ bl < y) then x else bc), .int (if x < bc ∨ (x = bc ∧ bl < y) then y else bl)])), aI G q1 40 co, aI G q2 40 wo, aI G q3 4 ch, aI G q4 4 (if x < bc ∨ (x = bc ∧ bl < y) then va_cpy ch be 0 0 4 else be), (t, .inr (6, [.int ns, .int np, .int fu, .int fd, .int fi, .ref t1, .ref t2, .ref t3, .ref t4, .ref t5, .ref t6])), aI G t1 9 sz_, aI G t2 9 pt, aI G t3 9 fh, aI G t4 8 kd, aI G t5 8 nd, aI G t6 8 fw] := hD
      exact x_vret (ch, (if x < bc ∨ (x = bc ∧ bl < y) then va_cpy ch be 0 0 4 else be), (if x < bc ∨ (x = bc ∧ bl < y) then x else bc), (if x < bc ∨ (x = bc ∧ bl < y) then y else bl)) hQ hx hb hr hlocks hS dX3_choose_21 hv hP hD
theorem v_X3_choose (l : Launch) (G : Gt) (q q1 q2 q3 q4 t t1 t2 t3 t4 t5 t6 : Nat) (sz : Nat) (s0 : Nat) (bc : Int32) (bl : Int32) (co : Nat → Int32) (wo : Nat → Int32) (ch : Nat → Int32) (be : Nat → Int32) (ns : Int32) (np : Int32) (fu : Int32) (fd : Int32) (fi : Int32) (sz_ : Nat → Int32) (pt : Nat → Int32) (fh : Nat → Int32) (kd : Nat → Int32) (nd : Nat → Int32) (fw : Nat → Int32) (pq : Int32) (tk : Int32) (x : Int32) (y : Int32) (T : Nat → Nat → Int) (Ns : Nat) (Np : Nat) (v : Nat → Int) (kk : Nat → Int) (M : Int) (mq : Nat) (S : Option (Int × Int × Nat)) (pc : Nat) (pn : Nat) (d : Nat) (hp : TOK T Ns Np ∧ CT T Ns Np ns np fu fd fi sz_ pt kd nd ∧ NOK T Ns Np kk M v ∧ Np ≤ 4 ∧ mq ≤ 60 ∧ sTab T v mq Ns Np co wo ∧ pq = nI pn ∧ pn ≤ Np ∧ pc < 10 ^ pn ∧ okB Ns (dg pn pc) pn = true ∧ (∀ b, b < 9 → bt tk b = usd (dg pn pc) (b + 1) pn) ∧ x.toInt = sCo T v mq (dg pn pc) pn ∧ y.toInt = sLe T v mq (dg pn pc) pn ∧ (∀ q, q < pn → (ch q).toInt = (dg pn pc q : Int) - 1) ∧ SRel Np S bc bl be ∧ Np + 1 ≤ pn + (d + 1)) : (np ≤ pq → (SRel Np (sF T v mq Ns Np S (pc * 10 ^ (Np - pn)) (10 ^ (Np - pn))) (if x < bc ∨ (x = bc ∧ bl < y) then x else bc) (if x < bc ∨ (x = bc ∧ bl < y) then y else bl) (if x < bc ∨ (x = bc ∧ bl < y) then va_cpy ch be 0 0 4 else be) ∧ (∀ q, q < pn → ch q = ch q))) ∧ (¬ (np ≤ pq) → (pq < 4 → ∃ (I25_12 : (Nat → Int32) → (Nat → Int32) → Int32 → Int32 → Int32 → Prop) (μ25_13 : (Nat → Int32) → (Nat → Int32) → Int32 → Int32 → Int32 → Nat), I25_12 ch be bc bl (-1) ∧ (∀ (fq3_7 : (Nat → Int32)) (fq4_8 : (Nat → Int32)) (gq5_9 : Int32) (gq6_10 : Int32) (x6_11 : Int32), I25_12 fq3_7 fq4_8 gq5_9 gq6_10 x6_11 → (ns ≤ x6_11 → (SRel Np (sF T v mq Ns Np S (pc * 10 ^ (Np - pn)) (10 ^ (Np - pn))) gq5_9 gq6_10 fq4_8 ∧ (∀ q, q < pn → fq3_7 q = ch q))) ∧ (¬ (ns ≤ x6_11) → ∃ (J48_18 : Int32 → Prop), ((¬ x6_11 = (-1) → J48_18 ((1 : Int32) <<< (x6_11 &&& 31))) ∧ (x6_11 = (-1) → J48_18 0)) ∧ (∀ (t0_17 : Int32), J48_18 t0_17 → (¬ (tk &&& t0_17) = 0 → I25_12 fq3_7 fq4_8 gq5_9 gq6_10 (x6_11 + 1) ∧ μ25_13 fq3_7 fq4_8 gq5_9 gq6_10 (x6_11 + 1) < μ25_13 fq3_7 fq4_8 gq5_9 gq6_10 x6_11) ∧ ((tk &&& t0_17) = 0 → (vp_in pq 4) ∧ ((vp_in (pq * 10 + x6_11 + 1) 40) ∧ ((vp_in (pq * 10 + x6_11 + 1) 40) ∧ (∃ (gT_23 : Nat → Nat → Int) (gNs_24 : Nat) (gNp_25 : Nat) (gv_26 : Nat → Int) (gkk_27 : Nat → Int) (gM_28 : Int) (gmq_29 : Nat) (gS_30 : Option (Int × Int × Nat)) (gpc_31 : Nat) (gpn_32 : Nat), ((TOK gT_23 gNs_24 gNp_25 ∧ CT gT_23 gNs_24 gNp_25 ns np fu fd fi sz_ pt kd nd ∧ NOK gT_23 gNs_24 gNp_25 gkk_27 gM_28 gv_26 ∧ gNp_25 ≤ 4 ∧ gmq_29 ≤ 60 ∧ sTab gT_23 gv_26 gmq_29 gNs_24 gNp_25 co wo ∧ (pq + 1) = nI gpn_32 ∧ gpn_32 ≤ gNp_25 ∧ gpc_31 < 10 ^ gpn_32 ∧ okB gNs_24 (dg gpn_32 gpc_31) gpn_32 = true ∧ (∀ b, b < 9 → bt (tk ||| t0_17) b = usd (dg gpn_32 gpc_31) (b + 1) gpn_32) ∧ (x + (co (pq * 10 + x6_11 + 1).toNatClampNeg)).toInt = sCo gT_23 gv_26 gmq_29 (dg gpn_32 gpc_31) gpn_32 ∧ ((if (wo (pq * 10 + x6_11 + 1).toNatClampNeg) < y then (wo (pq * 10 + x6_11 + 1).toNatClampNeg) else y) : Int32).toInt = sLe gT_23 gv_26 gmq_29 (dg gpn_32 gpc_31) gpn_32 ∧ (∀ q, q < gpn_32 → ((upd fq3_7 pq.toNatClampNeg x6_11) q).toInt = (dg gpn_32 gpc_31 q : Int) - 1) ∧ SRel gNp_25 gS_30 gq5_9 gq6_10 fq4_8 ∧ gNp_25 + 1 ≤ gpn_32 + d) ∧ (∀ (ch2_34 : Nat → Int32) (be2_35 : Nat → Int32) (bc2_36 : Int32) (bl2_37 : Int32), ((SRel gNp_25 (sF gT_23 gv_26 gmq_29 gNs_24 gNp_25 gS_30 (gpc_31 * 10 ^ (gNp_25 - gpn_32)) (10 ^ (gNp_25 - gpn_32))) bc2_36 bl2_37 be2_35 ∧ (∀ q, q < gpn_32 → ch2_34 q = (upd fq3_7 pq.toNatClampNeg x6_11) q))) → (I25_12 ch2_34 be2_35 bc2_36 bl2_37 (x6_11 + 1) ∧ μ25_13 ch2_34 be2_35 bc2_36 bl2_37 (x6_11 + 1) < μ25_13 fq3_7 fq4_8 gq5_9 gq6_10 x6_11))))))))))) ∧ (¬ (pq < 4) → (SRel Np (sF T v mq Ns Np S (pc * 10 ^ (Np - pn)) (10 ^ (Np - pn))) (if x < bc ∨ (x = bc ∧ bl < y) then x else bc) (if x < bc ∨ (x = bc ∧ bl < y) then y else bl) (if x < bc ∨ (x = bc ∧ bl < y) then va_cpy ch be 0 0 4 else be) ∧ (∀ q, q < pn → ch q = ch q)))) := by
  obtain ⟨hT, hC, hO, h4, hm, hTab, rfl, hpn, hpc, hok, htk, hx, hy, hch, hS, hdp⟩ := hp
  have t1 := hT.1
  have hns : ns = nI Ns := hC.1
  have hnp : np = nI Np := hC.2.1
  have cp : (nI pn).toNatClampNeg = pn := nI_clamp (by omega)
  have hxb := sCo_bd (T := T) (v := v) (m := mq) (D := dg pn pc) pn
  have hpm : (pn : Int) * mq ≤ 240 := by
    have : pn * mq ≤ 4 * 60 := Nat.mul_le_mul (by omega) hm
    have e : ((pn * mq : Nat) : Int) = (pn : Int) * mq := Int.natCast_mul pn mq
    omega
  have hnn : nI Np ≤ nI pn ↔ Np ≤ pn := nI_leI (by omega) (by omega)
  have h44 : nI pn < 4 ↔ pn < 4 := by
    rw [i_lt (nI_toInt (by omega)) (show (4 : Int32).toInt = 4 from rfl)]; omega
  simp only [hnp, hns, cp, hnn, h44]
  have base : Np = pn → (SRel Np (sF T v mq Ns Np S (pc * 10 ^ (Np - pn)) (10 ^ (Np - pn))) (if x < bc ∨ (x = bc ∧ bl < y) then x else bc) (if x < bc ∨ (x = bc ∧ bl < y) then y else bl) (if x < bc ∨ (x = bc ∧ bl < y) then va_cpy ch be 0 0 4 else be) ∧ (∀ q, q < pn → ch q = ch q)) := by
    intro e
    subst e
    refine ⟨?_, fun _ _ => rfl⟩
    rw [Nat.sub_self, Nat.pow_zero, Nat.mul_one, sF_one]
    refine sRel_step hS hok hx (by omega) hy (fun q hq => ?_)
    rw [← hch q hq]
    unfold va_cpy
    rw [if_pos (by omega), show 0 + (q - 0) = q by omega]
  refine ⟨fun g => ⟨(base (by omega)).1, fun _ _ => by simp⟩, fun g => ⟨fun _ => ?_, fun z => absurd (show pn < 4 by omega) z⟩⟩
  obtain ⟨k, hk⟩ : ∃ k, Np = pn + (k + 1) := ⟨Np - pn - 1, by omega⟩
  have e1 : Np - pn = k + 1 := by omega
  have e2 : Np - (pn + 1) = k := by omega
  have eK : 10 ^ (Np - pn) = 10 * 10 ^ k := by rw [e1, Nat.pow_succ, Nat.mul_comm]
  have ePc : ∀ d : Nat, pc * 10 ^ (Np - pn) + d * 10 ^ k = (pc * 10 + d) * 10 ^ k := fun d => by rw [eK, Nat.add_mul, Nat.mul_assoc]
  have hlt : pn < Np := by omega
  refine ⟨fun f3 f4 g5 g6 z => ∃ d, d ≤ Ns + 1 ∧ z = nI d - 1 ∧ SRel Np (sF T v mq Ns Np S (pc * 10 ^ (Np - pn)) (d * 10 ^ k)) g5 g6 f4 ∧ ∀ q, q < pn → f3 q = ch q, fun _ _ _ _ z => 11 - (z + 1).toNatClampNeg, ⟨0, by omega, rfl, by rw [Nat.zero_mul]; exact hS, fun _ _ => rfl⟩, ?_⟩
  rintro f3 f4 g5 g6 z ⟨d0, hd0, rfl, hS0, hf3⟩
  have hz := nm_i (d := d0) (by omega)
  have hzn : nI Ns ≤ nI d0 - 1 ↔ Ns + 1 ≤ d0 := by
    rw [i_le (nI_toInt (by omega)) hz]; omega
  have ez1 : (nI d0 - 1 + 1).toNatClampNeg = d0 := cl_of (by rw [i_add hz i32_1 (by omega) (by omega)]; omega)
  have ez2 : nI d0 - 1 + 1 = nI (d0 + 1) - 1 := nm_1 d0
  have ez3 : (nI (d0 + 1) - 1 + 1).toNatClampNeg = d0 + 1 := cl_of (by rw [i_add (nm_i (by omega)) i32_1 (by omega) (by omega)]; omega)
  have ez4 : (nI d0 - 1 + 1 + 1).toNatClampNeg = d0 + 1 := by rw [ez2]; exact ez3
  have hmu : ¬ Ns + 1 ≤ d0 → 11 - (nI d0 - 1 + 1 + 1).toNatClampNeg < 11 - (nI d0 - 1 + 1).toNatClampNeg := fun g => by rw [ez4, ez1]; omega
  rw [hzn]
  refine ⟨fun q => ?_, fun q => ?_⟩
  · have e : d0 = Ns + 1 := by omega
    subst e
    refine ⟨?_, hf3⟩
    have e3 : 10 ^ (Np - pn) = (Ns + 1) * 10 ^ k + (9 - Ns) * 10 ^ k := by
      rw [eK, ← Nat.add_mul, show Ns + 1 + (9 - Ns) = 10 by omega]
    rw [show sF T v mq Ns Np S (pc * 10 ^ (Np - pn)) (10 ^ (Np - pn)) = sF T v mq Ns Np S (pc * 10 ^ (Np - pn)) ((Ns + 1) * 10 ^ k + (9 - Ns) * 10 ^ k) by rw [← e3], sF_add, ePc, sF_tail hk t1]
    exact hS0
  have hdl : d0 ≤ Ns := by omega
  have hd10 : d0 < 10 := by omega
  have h1 : nI d0 - 1 = -1 ↔ d0 = 0 := by
    rw [i_eq hz (show (-1 : Int32).toInt = -1 from rfl)]; omega
  have ex : nI pn * 10 + (nI d0 - 1) + 1 = nI (10 * pn + d0) := by
    rw [← Int32.toInt_inj, i_add (i_add (i_mul (nI_toInt (by omega)) (show (10 : Int32).toInt = 10 from rfl) (by omega) (by omega)) hz (by omega) (by omega)) i32_1 (by omega) (by omega), nI_toInt (by omega)]
    omega
  have cx : (nI (10 * pn + d0)).toNatClampNeg = 10 * pn + d0 := nI_clamp (by omega)
  have vx : vp_in (nI (10 * pn + d0)) 40 := vp_in_nI (by omega) (by omega)
  have eS : ∀ s, sF T v mq Ns Np S (pc * 10 ^ (Np - pn)) (d0 * 10 ^ k) = s → sF T v mq Ns Np S (pc * 10 ^ (Np - pn)) ((d0 + 1) * 10 ^ k) = sF T v mq Ns Np s ((pc * 10 + d0) * 10 ^ k) (10 ^ k) := fun s hs => by
    rw [Nat.add_mul, Nat.one_mul, sF_add, hs, ePc]
  refine ⟨fun t => (d0 = 0 → t = 0) ∧ (d0 ≠ 0 → t = (1 : Int32) <<< (nI (d0 - 1) &&& 31)), ⟨fun w => ⟨fun u => absurd (h1.mpr u) w, fun u => by rw [nm_s (by omega) u]⟩, fun w => ⟨fun _ => rfl, fun u => absurd (h1.mp w) u⟩⟩, fun t ht => ?_⟩
  have hbit : (tk &&& t) = 0 ↔ (d0 = 0 ∨ usd (dg pn pc) d0 pn = false) := by
    by_cases w : d0 = 0
    · rw [ht.1 w]; simp [w]
    · rw [ht.2 w, b_tst1 tk (by omega), htk (d0 - 1) (by omega), show d0 - 1 + 1 = d0 by omega]
      exact ⟨fun u => Or.inr u, fun u => u.elim (fun y => absurd y w) id⟩
  rw [hbit]
  refine ⟨fun w => ⟨⟨d0 + 1, by omega, ez2, ?_, hf3⟩, hmu q⟩, fun w => ?_⟩
  · rw [eS _ rfl, sF_blk_bad hk ?_]
    · exact hS0
    · rw [okB_next hd10]
      have w1 : ¬ d0 = 0 := fun u => w (Or.inl u)
      have w2 : usd (dg pn pc) d0 pn = true := by
        cases u : usd (dg pn pc) d0 pn with
        | true => rfl
        | false => exact absurd (Or.inr u) w
      rw [w2, decide_eq_false w1]
      simp
  rw [ex, cx]
  have htab := hTab pn hlt d0 hdl
  have hgc := zCm_bd (T := T) (p := pn) (x := (d0 : Int) - 1) (a := (v (10 + pn), sH v d0)) mq
  refine ⟨vp_in_nI (by omega) (by omega), vx, vx, T, Ns, Np, v, kk, M, mq, _, pc * 10 + d0, pn + 1, ⟨hT, by rw [← hns, ← hnp]; exact hC, hO, h4, hm, hTab, nI_1 pn, by omega, ?_, ?_, ?_, ?_, ?_, ?_, hS0, by omega⟩, fun c2 b2 k2 l2 h2 => ⟨⟨d0 + 1, by omega, ez2, ?_, fun q hq => ?_⟩, hmu q⟩⟩
  · rw [Nat.pow_succ]; omega
  · rw [okB_next hd10, hok, decide_eq_true hdl]
    rcases w with w | w
    · rw [decide_eq_true w]; rfl
    · rw [w]; simp
  · intro b hb
    rw [usd_next hd10, ← htk b hb, b_or]
    by_cases u : d0 = 0
    · rw [ht.1 u, b_0, decide_eq_false (by omega)]
    · rw [ht.2 u, b_bit (by omega) (by omega)]
      congr 1
      exact decide_eq_decide.mpr (by omega)
  · rw [sCo_next hd10]
    exact i_add hx htab.1 (by unfold sGc; omega) (by unfold sGc; omega)
  · rw [sLe_next hd10]
    exact i_if (i_lt htab.2 hy) htab.2 hy
  · intro q hq
    by_cases u : q = pn
    · subst u; rw [upd_at, dg_sn hd10]; exact hz
    · rw [upd_ne u, hf3 q (by omega), hch q (by omega), dg_so hd10 (by omega)]
  · have h3 := h2.1
    rw [e2] at h3
    rw [eS _ rfl]; exact h3
  · rw [h2.2 q (by omega), upd_ne (by omega), hf3 q hq]
theorem k_X3_choose (d : Nat) : ∀ (l : Launch) (G : Gt) (q q1 q2 q3 q4 t t1 t2 t3 t4 t5 t6 : Nat) (sz : Nat) (s0 : Nat) (bc : Int32) (bl : Int32) (co : Nat → Int32) (wo : Nat → Int32) (ch : Nat → Int32) (be : Nat → Int32) (ns : Int32) (np : Int32) (fu : Int32) (fd : Int32) (fi : Int32) (sz_ : Nat → Int32) (pt : Nat → Int32) (fh : Nat → Int32) (kd : Nat → Int32) (nd : Nat → Int32) (fw : Nat → Int32) (pq : Int32) (tk : Int32) (x : Int32) (y : Int32) (T : Nat → Nat → Int) (Ns : Nat) (Np : Nat) (v : Nat → Int) (kk : Nat → Int) (M : Int) (mq : Nat) (S : Option (Int × Int × Nat)) (pc : Nat) (pn : Nat), TOK T Ns Np ∧ CT T Ns Np ns np fu fd fi sz_ pt kd nd ∧ NOK T Ns Np kk M v ∧ Np ≤ 4 ∧ mq ≤ 60 ∧ sTab T v mq Ns Np co wo ∧ pq = nI pn ∧ pn ≤ Np ∧ pc < 10 ^ pn ∧ okB Ns (dg pn pc) pn = true ∧ (∀ b, b < 9 → bt tk b = usd (dg pn pc) (b + 1) pn) ∧ x.toInt = sCo T v mq (dg pn pc) pn ∧ y.toInt = sLe T v mq (dg pn pc) pn ∧ (∀ q, q < pn → (ch q).toInt = (dg pn pc q : Int) - 1) ∧ SRel Np S bc bl be ∧ Np + 1 ≤ pn + d → MetV l yX3_choose wsX3_choose (2 + d) (52 + 28 * d) G [.ref q, .ref t, .int pq, .int tk, .int x, .int y] [(q, .inr (3, [.ref s0, .ref q1, .ref q2, .ref q3, .ref q4, .int bc, .int bl])), aI G q1 40 co, aI G q2 40 wo, aI G q3 4 ch, aI G q4 4 be, (t, .inr (6, [.int ns, .int np, .int fu, .int fd, .int fi, .ref t1, .ref t2, .ref t3, .ref t4, .ref t5, .ref t6])), aI G t1 9 sz_, aI G t2 9 pt, aI G t3 9 fh, aI G t4 8 kd, aI G t5 8 nd, aI G t6 8 fw] sz (fun (u : (Nat → Int32) × (Nat → Int32) × (Int32) × (Int32)) => (SRel Np (sF T v mq Ns Np S (pc * 10 ^ (Np - pn)) (10 ^ (Np - pn))) u.2.2.1 u.2.2.2 u.2.1 ∧ (∀ q, q < pn → u.1 q = ch q))) (fun (u : (Nat → Int32) × (Nat → Int32) × (Int32) × (Int32)) => [(q, .inr (3, [.ref s0, .ref q1, .ref q2, .ref q3, .ref q4, .int u.2.2.1, .int u.2.2.2])), aI G q1 40 co, aI G q2 40 wo, aI G q3 4 u.1, aI G q4 4 u.2.1, (t, .inr (6, [.int ns, .int np, .int fu, .int fd, .int fi, .ref t1, .ref t2, .ref t3, .ref t4, .ref t5, .ref t6])), aI G t1 9 sz_, aI G t2 9 pt, aI G t3 9 fh, aI G t4 8 kd, aI G t5 8 nd, aI G t6 8 fw]) := by
  induction d with
  | zero =>
    intro l G q q1 q2 q3 q4 t t1 t2 t3 t4 t5 t6 sz s0 bc bl co wo ch be ns np fu fd fi sz_ pt fh kd nd fw pq tk x y T Ns Np v kk M mq S pc pn hp
    exfalso
    have h1 := hp.2.2.2.2.2.2.2.1
    have h2 := hp.2.2.2.2.2.2.2.2.2.2.2.2.2.2.2
    omega
  | succ d ih =>
    intro l G q q1 q2 q3 q4 t t1 t2 t3 t4 t5 t6 sz s0 bc bl co wo ch be ns np fu fd fi sz_ pt fh kd nd fw pq tk x y T Ns Np v kk M mq S pc pn hp
    have e1 : 2 + (d + 1) = (2 + d) + 1 := by omega
    have e2 : 52 + 28 * (d + 1) = (52 + 28 * d) + 28 := by omega
    rw [e1, e2]
    exact c_X3_choose l G q q1 q2 q3 q4 t t1 t2 t3 t4 t5 t6 sz s0 bc bl co wo ch be ns np fu fd fi sz_ pt fh kd nd fw pq tk x y T Ns Np v kk M mq S pc pn d (2 + d) (52 + 28 * d) (by omega) (by omega) (fun sz s0 bc bl co wo ch be ns np fu fd fi sz_ pt fh kd nd fw pq tk x y T Ns Np v kk M mq S pc pn hp => ih l G q q1 q2 q3 q4 t t1 t2 t3 t4 t5 t6 sz s0 bc bl co wo ch be ns np fu fd fi sz_ pt fh kd nd fw pq tk x y T Ns Np v kk M mq S pc pn hp) (v_X3_choose l G q q1 q2 q3 q4 t t1 t2 t3 t4 t5 t6 sz s0 bc bl co wo ch be ns np fu fd fi sz_ pt fh kd nd fw pq tk x y T Ns Np v kk M mq S pc pn d hp)

set_option maxHeartbeats 4000000 in
set_option maxRecDepth 100000 in
theorem c_X3_search (l : Launch) (G : Gt) (q q1 q2 q3 q4 s0 t t1 t2 t3 t4 t5 t6 n n1 n2 n3 n4 n5 n6 n7 : Nat) (sz : Nat) (bc : Int32) (bl : Int32) (co : Nat → Int32) (wo : Nat → Int32) (ch : Nat → Int32) (be : Nat → Int32) (sw : Int32) (sh : Int32) (ns : Int32) (np : Int32) (fu : Int32) (fd : Int32) (fi : Int32) (sz_ : Nat → Int32) (pt : Nat → Int32) (fh : Nat → Int32) (kd : Nat → Int32) (nd : Nat → Int32) (fw : Nat → Int32) (ht : Nat → Int32) (wm : Nat → Int32) (se : Nat → Int32) (cd : Nat → Int32) (sl : Nat → Int32) (od : Nat → Int32) (ow : Nat → Int32) (lo : Int32) (mi : Int32) (sd : Int32) (mm : Int32) (T : Nat → Nat → Int) (Ns : Nat) (Np : Nat) (v : Nat → Int) (kk : Nat → Int) (M : Int) (mq : Nat) (hv : ∃ (I3_6 : (Nat → Int32) → (Nat → Int32) → Int32 → Int32 → Int32 → Prop) (μ3_7 : (Nat → Int32) → (Nat → Int32) → Int32 → Int32 → Int32 → Nat), I3_6 co wo sw sh 0 ∧ (∀ (fq1_1 : (Nat → Int32)) (fq2_2 : (Nat → Int32)) (gs00_3 : Int32) (gs01_4 : Int32) (x4_5 : Int32), I3_6 fq1_1 fq2_2 gs00_3 gs01_4 x4_5 → (np ≤ x4_5 → ∃ (gT_11 : Nat → Nat → Int) (gNs_12 : Nat) (gNp_13 : Nat) (gv_14 : Nat → Int) (gkk_15 : Nat → Int) (gM_16 : Int) (gmq_17 : Nat) (gS_18 : Option (Int × Int × Nat)) (gpc_19 : Nat) (gpn_20 : Nat), ((TOK gT_11 gNs_12 gNp_13 ∧ CT gT_11 gNs_12 gNp_13 ns np fu fd fi sz_ pt kd nd ∧ NOK gT_11 gNs_12 gNp_13 gkk_15 gM_16 gv_14 ∧ gNp_13 ≤ 4 ∧ gmq_17 ≤ 60 ∧ sTab gT_11 gv_14 gmq_17 gNs_12 gNp_13 fq1_1 fq2_2 ∧ (0 : Int32) = nI gpn_20 ∧ gpn_20 ≤ gNp_13 ∧ gpc_19 < 10 ^ gpn_20 ∧ okB gNs_12 (dg gpn_20 gpc_19) gpn_20 = true ∧ (∀ b, b < 9 → bt (0 : Int32) b = usd (dg gpn_20 gpc_19) (b + 1) gpn_20) ∧ (0 : Int32).toInt = sCo gT_11 gv_14 gmq_17 (dg gpn_20 gpc_19) gpn_20 ∧ (9999 : Int32).toInt = sLe gT_11 gv_14 gmq_17 (dg gpn_20 gpc_19) gpn_20 ∧ (∀ q, q < gpn_20 → (ch q).toInt = (dg gpn_20 gpc_19 q : Int) - 1) ∧ SRel gNp_13 gS_18 (241 : Int32) bl be ∧ gNp_13 + 1 ≤ gpn_20 + 5) ∧ (∀ (ch2_22 : Nat → Int32) (be2_23 : Nat → Int32) (bc2_24 : Int32) (bl2_25 : Int32), ((SRel gNp_13 (sF gT_11 gv_14 gmq_17 gNs_12 gNp_13 gS_18 (gpc_19 * 10 ^ (gNp_13 - gpn_20)) (10 ^ (gNp_13 - gpn_20))) bc2_24 bl2_25 be2_23 ∧ (∀ q, q < gpn_20 → ch2_22 q = ch q))) → (SRel Np (sF T v mq Ns Np none 0 (10 ^ Np)) bc2_24 bl2_25 be2_23)))) ∧ (¬ (np ≤ x4_5) → (4 ≤ x4_5 → ∃ (gT_27 : Nat → Nat → Int) (gNs_28 : Nat) (gNp_29 : Nat) (gv_30 : Nat → Int) (gkk_31 : Nat → Int) (gM_32 : Int) (gmq_33 : Nat) (gS_34 : Option (Int × Int × Nat)) (gpc_35 : Nat) (gpn_36 : Nat), ((TOK gT_27 gNs_28 gNp_29 ∧ CT gT_27 gNs_28 gNp_29 ns np fu fd fi sz_ pt kd nd ∧ NOK gT_27 gNs_28 gNp_29 gkk_31 gM_32 gv_30 ∧ gNp_29 ≤ 4 ∧ gmq_33 ≤ 60 ∧ sTab gT_27 gv_30 gmq_33 gNs_28 gNp_29 fq1_1 fq2_2 ∧ (0 : Int32) = nI gpn_36 ∧ gpn_36 ≤ gNp_29 ∧ gpc_35 < 10 ^ gpn_36 ∧ okB gNs_28 (dg gpn_36 gpc_35) gpn_36 = true ∧ (∀ b, b < 9 → bt (0 : Int32) b = usd (dg gpn_36 gpc_35) (b + 1) gpn_36) ∧ (0 : Int32).toInt = sCo gT_27 gv_30 gmq_33 (dg gpn_36 gpc_35) gpn_36 ∧ (9999 : Int32).toInt = sLe gT_27 gv_30 gmq_33 (dg gpn_36 gpc_35) gpn_36 ∧ (∀ q, q < gpn_36 → (ch q).toInt = (dg gpn_36 gpc_35 q : Int) - 1) ∧ SRel gNp_29 gS_34 (241 : Int32) bl be ∧ gNp_29 + 1 ≤ gpn_36 + 5) ∧ (∀ (ch2_38 : Nat → Int32) (be2_39 : Nat → Int32) (bc2_40 : Int32) (bl2_41 : Int32), ((SRel gNp_29 (sF gT_27 gv_30 gmq_33 gNs_28 gNp_29 gS_34 (gpc_35 * 10 ^ (gNp_29 - gpn_36)) (10 ^ (gNp_29 - gpn_36))) bc2_40 bl2_41 be2_39 ∧ (∀ q, q < gpn_36 → ch2_38 q = ch q))) → (SRel Np (sF T v mq Ns Np none 0 (10 ^ Np)) bc2_40 bl2_41 be2_39)))) ∧ (¬ (4 ≤ x4_5) → ∃ (I21_47 : (Nat → Int32) → (Nat → Int32) → Int32 → Int32 → Int32 → Prop) (μ21_48 : (Nat → Int32) → (Nat → Int32) → Int32 → Int32 → Int32 → Nat), I21_47 fq1_1 fq2_2 gs00_3 gs01_4 (-1) ∧ (∀ (fq1_42 : (Nat → Int32)) (fq2_43 : (Nat → Int32)) (gs00_44 : Int32) (gs01_45 : Int32) (x5_46 : Int32), I21_47 fq1_42 fq2_43 gs00_44 gs01_45 x5_46 → (ns ≤ x5_46 → I3_6 fq1_42 fq2_43 gs00_44 gs01_45 (x4_5 + 1) ∧ μ3_7 fq1_42 fq2_43 gs00_44 gs01_45 (x4_5 + 1) < μ3_7 fq1_1 fq2_2 gs00_3 gs01_4 x4_5) ∧ (¬ (ns ≤ x5_46) → ∃ (gT_52 : Nat → Nat → Int) (gNs_53 : Nat) (gNp_54 : Nat) (gv_55 : Nat → Int) (gkk_56 : Nat → Int) (gM_57 : Int) (gmq_58 : Nat) (gip_59 : Nat) (gdd_60 : Nat), ((TOK gT_52 gNs_53 gNp_54 ∧ CT gT_52 gNs_53 gNp_54 ns np fu fd fi sz_ pt kd nd ∧ CN gNs_53 gNp_54 gv_55 ht wm se cd sl od ow lo mi sd ∧ NOK gT_52 gNs_53 gNp_54 gkk_56 gM_57 gv_55 ∧ mm = nI gmq_58 ∧ gmq_58 ≤ 60 ∧ x4_5 = nI gip_59 ∧ gip_59 < gNp_54 ∧ gip_59 < 4 ∧ x5_46 = nI gdd_60 - 1 ∧ gdd_60 ≤ gNs_53) ∧ (∀ (co2_62 : Nat → Int32) (wo2_63 : Nat → Int32) (sw2_64 : Int32) (sh2_65 : Int32), ((∃ (c_ w_ : Int32), c_.toInt = sGc gT_52 gv_55 gmq_58 gip_59 gdd_60 ∧ w_.toInt = sGw gT_52 gv_55 gmq_58 gip_59 gdd_60 ∧ co2_62 = upd fq1_42 (10 * gip_59 + gdd_60) c_ ∧ wo2_63 = upd fq2_43 (10 * gip_59 + gdd_60) w_)) → (I21_47 co2_62 wo2_63 sw2_64 sh2_65 (x5_46 + 1) ∧ μ21_48 co2_62 wo2_63 sw2_64 sh2_65 (x5_46 + 1) < μ21_48 fq1_42 fq2_43 gs00_44 gs01_45 x5_46))))))))) : MetV l yX3_search wsX3_search 8 220 G [.ref q, .ref t, .ref n, .int mm] [(q, .inr (3, [.ref s0, .ref q1, .ref q2, .ref q3, .ref q4, .int bc, .int bl])), aI G q1 40 co, aI G q2 40 wo, aI G q3 4 ch, aI G q4 4 be, (s0, .inr (4, [.int sw, .int sh])), (t, .inr (6, [.int ns, .int np, .int fu, .int fd, .int fi, .ref t1, .ref t2, .ref t3, .ref t4, .ref t5, .ref t6])), aI G t1 9 sz_, aI G t2 9 pt, aI G t3 9 fh, aI G t4 8 kd, aI G t5 8 nd, aI G t6 8 fw, (n, .inr (1, [.ref n1, .ref n2, .ref n3, .ref n4, .ref n5, .ref n6, .ref n7, .int lo, .int mi, .int sd])), aI G n1 9 ht, aI G n2 8 wm, aI G n3 8 se, aI G n4 8 cd, aI G n5 8 sl, aI G n6 8 od, aI G n7 72 ow] sz (fun (u : (Nat → Int32) × (Nat → Int32) × (Nat → Int32) × (Nat → Int32) × (Int32) × (Int32) × (Int32) × (Int32)) => SRel Np (sF T v mq Ns Np none 0 (10 ^ Np)) u.2.2.2.2.1 u.2.2.2.2.2.1 u.2.2.2.1) (fun (u : (Nat → Int32) × (Nat → Int32) × (Nat → Int32) × (Nat → Int32) × (Int32) × (Int32) × (Int32) × (Int32)) => [(q, .inr (3, [.ref s0, .ref q1, .ref q2, .ref q3, .ref q4, .int u.2.2.2.2.1, .int u.2.2.2.2.2.1])), aI G q1 40 u.1, aI G q2 40 u.2.1, aI G q3 4 u.2.2.1, aI G q4 4 u.2.2.2.1, (s0, .inr (4, [.int u.2.2.2.2.2.2.1, .int u.2.2.2.2.2.2.2])), (t, .inr (6, [.int ns, .int np, .int fu, .int fd, .int fi, .ref t1, .ref t2, .ref t3, .ref t4, .ref t5, .ref t6])), aI G t1 9 sz_, aI G t2 9 pt, aI G t3 9 fh, aI G t4 8 kd, aI G t5 8 nd, aI G t6 8 fw, (n, .inr (1, [.ref n1, .ref n2, .ref n3, .ref n4, .ref n5, .ref n6, .ref n7, .int lo, .int mi, .int sd])), aI G n1 9 ht, aI G n2 8 wm, aI G n3 8 se, aI G n4 8 cd, aI G n5 8 sl, aI G n6 8 od, aI G n7 72 ow]) := by
  refine x_startV (cc := cX3_search) (maxL := 6) (ret := none) (by decide) rfl (Nat.le_of_ble_eq_true rfl) ?_
  intro p e s m args below meth c A R Q ls hRf hRl hQ C hP hD hS hA hSS hl
  obtain ⟨hx, hb, hr, hml, hown, hts, hlocks, hKK⟩ := C
  have hown : s.vm.findClass RX3 = some m.cls := hown
  have hl : lv_has ls 6 [(0, .ref q), (1, .ref t), (2, .ref n), (3, .int mm)] := hl
  have hinX3 : ∀ w ∈ u_ws RX3 TX3 7, w ∈ wsX3_search := by decide +kernel
  have hinX6 : ∀ w ∈ u_ws RX6 TX6 11, w ∈ wsX3_search := by decide +kernel
  have kl31 := hts (.fieldLink RX3 31 "WarmStones$Town" "persons" "I") (by decide +kernel)
  have kl37 := hts (.fieldLink RX3 37 "WarmStones$Town" "stones" "I") (by decide +kernel)
  have kl44 := hts (.fieldLink RX3 44 "WarmStones$Seating" "bestCold" "I") (by decide +kernel)
  refine lv_iconst (v := 0) hx hb dX3_search_0 (by decide) ?_
  refine lv_istore (lv' := [(4, .int 0), (0, .ref q), (1, .ref t), (2, .ref n), (3, .int mm)]) hx hb dX3_search_1 hl (by decide) rfl (fun ls hl => ?_)
  obtain ⟨I3_6, μ3_7, hi0, hs_69⟩ := hv
  have Lm_71 : ∀ (n_70 : Nat) (fq1_1 : (Nat → Int32)) (fq2_2 : (Nat → Int32)) (gs00_3 : Int32) (gs01_4 : Int32) (x4_5 : Int32) (H : Heap) (locs : List Loc) (ls : Array Slot), μ3_7 fq1_1 fq2_2 gs00_3 gs01_4 x4_5 < n_70 → I3_6 fq1_1 fq2_2 gs00_3 gs01_4 x4_5 → va_P G.1 vwCl [(q, .inr (3, [.ref s0, .ref q1, .ref q2, .ref q3, .ref q4, .int bc, .int bl])), aI G q1 40 fq1_1, aI G q2 40 fq2_2, aI G q3 4 ch, aI G q4 4 be, (s0, .inr (4, [.int gs00_3, .int gs01_4])), (t, .inr (6, [.int ns, .int np, .int fu, .int fd, .int fi, .ref t1, .ref t2, .ref t3, .ref t4, .ref t5, .ref t6])), aI G t1 9 sz_, aI G t2 9 pt, aI G t3 9 fh, aI G t4 8 kd, aI G t5 8 nd, aI G t6 8 fw, (n, .inr (1, [.ref n1, .ref n2, .ref n3, .ref n4, .ref n5, .ref n6, .ref n7, .int lo, .int mi, .int sd])), aI G n1 9 ht, aI G n2 8 wm, aI G n3 8 se, aI G n4 8 cd, aI G n5 8 sl, aI G n6 8 od, aI G n7 72 ow] H → va_D A [(q, .inr (3, [.ref s0, .ref q1, .ref q2, .ref q3, .ref q4, .int bc, .int bl])), aI G q1 40 fq1_1, aI G q2 40 fq2_2, aI G q3 4 ch, aI G q4 4 be, (s0, .inr (4, [.int gs00_3, .int gs01_4])), (t, .inr (6, [.int ns, .int np, .int fu, .int fd, .int fi, .ref t1, .ref t2, .ref t3, .ref t4, .ref t5, .ref t6])), aI G t1 9 sz_, aI G t2 9 pt, aI G t3 9 fh, aI G t4 8 kd, aI G t5 8 nd, aI G t6 8 fw, (n, .inr (1, [.ref n1, .ref n2, .ref n3, .ref n4, .ref n5, .ref n6, .ref n7, .int lo, .int mi, .int sd])), aI G n1 9 ht, aI G n2 8 wm, aI G n3 8 se, aI G n4 8 cd, aI G n5 8 sl, aI G n6 8 od, aI G n7 72 ow] → va_S A s.heap H locs → lv_has ls 6 [(4, .int x4_5), (0, .ref q), (1, .ref t), (2, .ref n), (3, .int mm)] → W p l e R s m args below meth c H locs 0 0 Q (F0 m 3 ls []) := by
    intro n_70
    induction n_70 with
    | zero => intro fq1_1 fq2_2 gs00_3 gs01_4 x4_5 H locs ls hm; exact absurd hm (Nat.not_lt_zero _)
    | succ n_70 ih_8 =>
      intro fq1_1 fq2_2 gs00_3 gs01_4 x4_5 H locs ls hI_9 hi hP hD hS hl
      have hv := hs_69 fq1_1 fq2_2 gs00_3 gs01_4 x4_5 hi
      refine lv_iload hx hb dX3_search_3 (lv_at hl 0 rfl) ?_
      refine lv_aload_n hx hb dX3_search_5 rfl (lv_at hl 2 rfl) ?_
      refine va_get (D := G.1) (ci := 6) (v := .int np) (C := RX6) (T := TX6) (N := 11) hx hb hts hinX6 hown hKK.1 hP 6 rfl rfl 1 (by decide) kl31 (fun _ h9 => h9) rfl dX3_search_6 ?_
      refine lv_icmp_ge (tgt := 53) hx hb dX3_search_9 (by decide) (fun hc_10 => ?_) (fun hc_10 => ?_)
      · have hv := hv.1 hc_10
        refine lv_aload_n hx hb dX3_search_53 rfl (lv_at hl 1 rfl) ?_
        refine lv_sipush (v := 241) hx hb dX3_search_54 (by decide) ?_
        refine va_put (D := G.1) (ci := 3) (v := .int 241) (ty := .int) (C := RX3) (T := TX3) (N := 7) hx hb hts hinX3 tyX3 tyX3_ok nmX3 hown hKK.1 hP hD hS 0 rfl rfl 5 (by decide) kl44 (fun _ h9 => h9) rfl (by decide +kernel) rfl rfl (Nat.le_of_ble_eq_true rfl) dX3_search_57 (fun H locs hP hD hS => ?_)
        have hP : va_P G.1 vwCl [(q, .inr (3, [.ref s0, .ref q1, .ref q2, .ref q3, .ref q4, .int 241, .int bl])), aI G q1 40 fq1_1, aI G q2 40 fq2_2, aI G q3 4 ch, aI G q4 4 be, (s0, .inr (4, [.int gs00_3, .int gs01_4])), (t, .inr (6, [.int ns, .int np, .int fu, .int fd, .int fi, .ref t1, .ref t2, .ref t3, .ref t4, .ref t5, .ref t6])), aI G t1 9 sz_, aI G t2 9 pt, aI G t3 9 fh, aI G t4 8 kd, aI G t5 8 nd, aI G t6 8 fw, (n, .inr (1, [.ref n1, .ref n2, .ref n3, .ref n4, .ref n5, .ref n6, .ref n7, .int lo, .int mi, .int sd])), aI G n1 9 ht, aI G n2 8 wm, aI G n3 8 se, aI G n4 8 cd, aI G n5 8 sl, aI G n6 8 od, aI G n7 72 ow] H := hP
        have hD : va_D A [(q, .inr (3, [.ref s0, .ref q1, .ref q2, .ref q3, .ref q4, .int 241, .int bl])), aI G q1 40 fq1_1, aI G q2 40 fq2_2, aI G q3 4 ch, aI G q4 4 be, (s0, .inr (4, [.int gs00_3, .int gs01_4])), (t, .inr (6, [.int ns, .int np, .int fu, .int fd, .int fi, .ref t1, .ref t2, .ref t3, .ref t4, .ref t5, .ref t6])), aI G t1 9 sz_, aI G t2 9 pt, aI G t3 9 fh, aI G t4 8 kd, aI G t5 8 nd, aI G t6 8 fw, (n, .inr (1, [.ref n1, .ref n2, .ref n3, .ref n4, .ref n5, .ref n6, .ref n7, .int lo, .int mi, .int sd])), aI G n1 9 ht, aI G n2 8 wm, aI G n3 8 se, aI G n4 8 cd, aI G n5 8 sl, aI G n6 8 od, aI G n7 72 ow] := hD
        refine lv_aload_n hx hb dX3_search_60 rfl (lv_at hl 1 rfl) ?_
        refine lv_aload_n hx hb dX3_search_61 rfl (lv_at hl 2 rfl) ?_
        refine lv_iconst (v := 0) hx hb dX3_search_62 (by decide) ?_
        refine lv_iconst (v := 0) hx hb dX3_search_63 (by decide) ?_
        refine lv_iconst (v := 0) hx hb dX3_search_64 (by decide) ?_
        refine lv_sipush (v := 9999) hx hb dX3_search_65 (by decide) ?_
        obtain ⟨gT_11, gNs_12, gNp_13, gv_14, gkk_15, gM_16, gmq_17, gS_18, gpc_19, gpn_20, hv⟩ := hv
        obtain ⟨hp, hv⟩ := hv
        refine x_callv (wr := [(s0, .inr (4, [.int gs00_3, .int gs01_4])), (n, .inr (1, [.ref n1, .ref n2, .ref n3, .ref n4, .ref n5, .ref n6, .ref n7, .int lo, .int mi, .int sd])), aI G n1 9 ht, aI G n2 8 wm, aI G n3 8 se, aI G n4 8 cd, aI G n5 8 sl, aI G n6 8 od, aI G n7 72 ow]) (w' := fun (u : (Nat → Int32) × (Nat → Int32) × (Int32) × (Int32)) => [(q, .inr (3, [.ref s0, .ref q1, .ref q2, .ref q3, .ref q4, .int u.2.2.1, .int u.2.2.2])), aI G q1 40 fq1_1, aI G q2 40 fq2_2, aI G q3 4 u.1, aI G q4 4 u.2.1, (s0, .inr (4, [.int gs00_3, .int gs01_4])), (t, .inr (6, [.int ns, .int np, .int fu, .int fd, .int fi, .ref t1, .ref t2, .ref t3, .ref t4, .ref t5, .ref t6])), aI G t1 9 sz_, aI G t2 9 pt, aI G t3 9 fh, aI G t4 8 kd, aI G t5 8 nd, aI G t6 8 fw, (n, .inr (1, [.ref n1, .ref n2, .ref n3, .ref n4, .ref n5, .ref n6, .ref n7, .int lo, .int mi, .int sd])), aI G n1 9 ht, aI G n2 8 wm, aI G n3 8 se, aI G n4 8 cd, aI G n5 8 sl, aI G n6 8 od, aI G n7 72 ow]) (x_runV (As := [.ref t, .int 0, .int 0, .int 0, .int 9999]) (rest := []) (n := 5) (C := RX3) (ci := 3) ⟨hx, hb, hml, hown, hts⟩ (k_X3_choose 5 l G q q1 q2 q3 q4 t t1 t2 t3 t4 t5 t6 _ s0 241 bl fq1_1 fq2_2 ch be ns np fu fd fi sz_ pt fh kd nd fw 0 0 0 9999 gT_11 gNs_12 gNp_13 gv_14 gkk_15 gM_16 gmq_17 gS_18 gpc_19 gpn_20 hp) gX3_search_X3_choose rfl (by decide +kernel) ⟨Nat.le_trans (Nat.le_of_ble_eq_true rfl) hRf, Nat.le_trans (Nat.le_of_ble_eq_true rfl) hRl⟩ hKK hSS hS hA hP hD [0, 1, 2, 3, 4, 6, 7, 8, 9, 10, 11, 12] (by decide) rfl rfl rfl 0 rfl rfl hl.1 rfl (Nat.le_of_ble_eq_true rfl) dX3_search_68) hP hD hS hA [0, 1, 2, 3, 4, 6, 7, 8, 9, 10, 11, 12] [5, 13, 14, 15, 16, 17, 18, 19, 20] [9, 10, 11, 12, 13, 0, 14, 15, 16, 17, 18, 19, 20, 1, 2, 3, 4, 5, 6, 7, 8] rfl rfl (by decide) (by decide) (by decide) (fun _ => rfl) (fun  u H locs hw hP hD hS => ?_)
        obtain ⟨ch2_22, be2_23, bc2_24, bl2_25⟩ := u
        have hP : va_P G.1 vwCl [(q, .inr (3, [.ref s0, .ref q1, .ref q2, .ref q3, .ref q4, .int bc2_24, .int bl2_25])), aI G q1 40 fq1_1, aI G q2 40 fq2_2, aI G q3 4 ch2_22, aI G q4 4 be2_23, (s0, .inr (4, [.int gs00_3, .int gs01_4])), (t, .inr (6, [.int ns, .int np, .int fu, .int fd, .int fi, .ref t1, .ref t2, .ref t3, .ref t4, .ref t5, .ref t6])), aI G t1 9 sz_, aI G t2 9 pt, aI G t3 9 fh, aI G t4 8 kd, aI G t5 8 nd, aI G t6 8 fw, (n, .inr (1, [.ref n1, .ref n2, .ref n3, .ref n4, .ref n5, .ref n6, .ref n7, .int lo, .int mi, .int sd])), aI G n1 9 ht, aI G n2 8 wm, aI G n3 8 se, aI G n4 8 cd, aI G n5 8 sl, aI G n6 8 od, aI G n7 72 ow] H := hP
        have hD : va_D A [(q, .inr (3, [.ref s0, .ref q1, .ref q2, .ref q3, .ref q4, .int bc2_24, .int bl2_25])), aI G q1 40 fq1_1, aI G q2 40 fq2_2, aI G q3 4 ch2_22, aI G q4 4 be2_23, (s0, .inr (4, [.int gs00_3, .int gs01_4])), (t, .inr (6, [.int ns, .int np, .int fu, .int fd, .int fi, .ref t1, .ref t2, .ref t3, .ref t4, .ref t5, .ref t6])), aI G t1 9 sz_, aI G t2 9 pt, aI G t3 9 fh, aI G t4 8 kd, aI G t5 8 nd, aI G t6 8 fw, (n, .inr (1, [.ref n1, .ref n2, .ref n3, .ref n4, .ref n5, .ref n6, .ref n7, .int lo, .int mi, .int sd])), aI G n1 9 ht, aI G n2 8 wm, aI G n3 8 se, aI G n4 8 cd, aI G n5 8 sl, aI G n6 8 od, aI G n7 72 ow] := hD
        have hv := hv ch2_22 be2_23 bc2_24 bl2_25 hw
        exact x_vret (fq1_1, fq2_2, ch2_22, be2_23, bc2_24, bl2_25, gs00_3, gs01_4) hQ hx hb hr hlocks hS dX3_search_71 hv hP hD
      · have hv := hv.2 hc_10
        refine lv_iload hx hb dX3_search_12 (lv_at hl 0 rfl) ?_
        refine lv_iconst (v := 4) hx hb dX3_search_14 (by decide) ?_
        refine lv_icmp_ge (tgt := 53) hx hb dX3_search_15 (by decide) (fun hc_26 => ?_) (fun hc_26 => ?_)
        · have hv := hv.1 hc_26
          refine lv_aload_n hx hb dX3_search_53 rfl (lv_at hl 1 rfl) ?_
          refine lv_sipush (v := 241) hx hb dX3_search_54 (by decide) ?_
          refine va_put (D := G.1) (ci := 3) (v := .int 241) (ty := .int) (C := RX3) (T := TX3) (N := 7) hx hb hts hinX3 tyX3 tyX3_ok nmX3 hown hKK.1 hP hD hS 0 rfl rfl 5 (by decide) kl44 (fun _ h9 => h9) rfl (by decide +kernel) rfl rfl (Nat.le_of_ble_eq_true rfl) dX3_search_57 (fun H locs hP hD hS => ?_)
          have hP : va_P G.1 vwCl [(q, .inr (3, [.ref s0, .ref q1, .ref q2, .ref q3, .ref q4, .int 241, .int bl])), aI G q1 40 fq1_1, aI G q2 40 fq2_2, aI G q3 4 ch, aI G q4 4 be, (s0, .inr (4, [.int gs00_3, .int gs01_4])), (t, .inr (6, [.int ns, .int np, .int fu, .int fd, .int fi, .ref t1, .ref t2, .ref t3, .ref t4, .ref t5, .ref t6])), aI G t1 9 sz_, aI G t2 9 pt, aI G t3 9 fh, aI G t4 8 kd, aI G t5 8 nd, aI G t6 8 fw, (n, .inr (1, [.ref n1, .ref n2, .ref n3, .ref n4, .ref n5, .ref n6, .ref n7, .int lo, .int mi, .int sd])), aI G n1 9 ht, aI G n2 8 wm, aI G n3 8 se, aI G n4 8 cd, aI G n5 8 sl, aI G n6 8 od, aI G n7 72 ow] H := hP
          have hD : va_D A [(q, .inr (3, [.ref s0, .ref q1, .ref q2, .ref q3, .ref q4, .int 241, .int bl])), aI G q1 40 fq1_1, aI G q2 40 fq2_2, aI G q3 4 ch, aI G q4 4 be, (s0, .inr (4, [.int gs00_3, .int gs01_4])), (t, .inr (6, [.int ns, .int np, .int fu, .int fd, .int fi, .ref t1, .ref t2, .ref t3, .ref t4, .ref t5, .ref t6])), aI G t1 9 sz_, aI G t2 9 pt, aI G t3 9 fh, aI G t4 8 kd, aI G t5 8 nd, aI G t6 8 fw, (n, .inr (1, [.ref n1, .ref n2, .ref n3, .ref n4, .ref n5, .ref n6, .ref n7, .int lo, .int mi, .int sd])), aI G n1 9 ht, aI G n2 8 wm, aI G n3 8 se, aI G n4 8 cd, aI G n5 8 sl, aI G n6 8 od, aI G n7 72 ow] := hD
          refine lv_aload_n hx hb dX3_search_60 rfl (lv_at hl 1 rfl) ?_
          refine lv_aload_n hx hb dX3_search_61 rfl (lv_at hl 2 rfl) ?_
          refine lv_iconst (v := 0) hx hb dX3_search_62 (by decide) ?_
          refine lv_iconst (v := 0) hx hb dX3_search_63 (by decide) ?_
          refine lv_iconst (v := 0) hx hb dX3_search_64 (by decide) ?_
          refine lv_sipush (v := 9999) hx hb dX3_search_65 (by decide) ?_
          obtain ⟨gT_27, gNs_28, gNp_29, gv_30, gkk_31, gM_32, gmq_33, gS_34, gpc_35, gpn_36, hv⟩ := hv
          obtain ⟨hp, hv⟩ := hv
          refine x_callv (wr := [(s0, .inr (4, [.int gs00_3, .int gs01_4])), (n, .inr (1, [.ref n1, .ref n2, .ref n3, .ref n4, .ref n5, .ref n6, .ref n7, .int lo, .int mi, .int sd])), aI G n1 9 ht, aI G n2 8 wm, aI G n3 8 se, aI G n4 8 cd, aI G n5 8 sl, aI G n6 8 od, aI G n7 72 ow]) (w' := fun (u : (Nat → Int32) × (Nat → Int32) × (Int32) × (Int32)) => [(q, .inr (3, [.ref s0, .ref q1, .ref q2, .ref q3, .ref q4, .int u.2.2.1, .int u.2.2.2])), aI G q1 40 fq1_1, aI G q2 40 fq2_2, aI G q3 4 u.1, aI G q4 4 u.2.1, (s0, .inr (4, [.int gs00_3, .int gs01_4])), (t, .inr (6, [.int ns, .int np, .int fu, .int fd, .int fi, .ref t1, .ref t2, .ref t3, .ref t4, .ref t5, .ref t6])), aI G t1 9 sz_, aI G t2 9 pt, aI G t3 9 fh, aI G t4 8 kd, aI G t5 8 nd, aI G t6 8 fw, (n, .inr (1, [.ref n1, .ref n2, .ref n3, .ref n4, .ref n5, .ref n6, .ref n7, .int lo, .int mi, .int sd])), aI G n1 9 ht, aI G n2 8 wm, aI G n3 8 se, aI G n4 8 cd, aI G n5 8 sl, aI G n6 8 od, aI G n7 72 ow]) (x_runV (As := [.ref t, .int 0, .int 0, .int 0, .int 9999]) (rest := []) (n := 5) (C := RX3) (ci := 3) ⟨hx, hb, hml, hown, hts⟩ (k_X3_choose 5 l G q q1 q2 q3 q4 t t1 t2 t3 t4 t5 t6 _ s0 241 bl fq1_1 fq2_2 ch be ns np fu fd fi sz_ pt fh kd nd fw 0 0 0 9999 gT_27 gNs_28 gNp_29 gv_30 gkk_31 gM_32 gmq_33 gS_34 gpc_35 gpn_36 hp) gX3_search_X3_choose rfl (by decide +kernel) ⟨Nat.le_trans (Nat.le_of_ble_eq_true rfl) hRf, Nat.le_trans (Nat.le_of_ble_eq_true rfl) hRl⟩ hKK hSS hS hA hP hD [0, 1, 2, 3, 4, 6, 7, 8, 9, 10, 11, 12] (by decide) rfl rfl rfl 0 rfl rfl hl.1 rfl (Nat.le_of_ble_eq_true rfl) dX3_search_68) hP hD hS hA [0, 1, 2, 3, 4, 6, 7, 8, 9, 10, 11, 12] [5, 13, 14, 15, 16, 17, 18, 19, 20] [9, 10, 11, 12, 13, 0, 14, 15, 16, 17, 18, 19, 20, 1, 2, 3, 4, 5, 6, 7, 8] rfl rfl (by decide) (by decide) (by decide) (fun _ => rfl) (fun  u H locs hw hP hD hS => ?_)
          obtain ⟨ch2_38, be2_39, bc2_40, bl2_41⟩ := u
          have hP : va_P G.1 vwCl [(q, .inr (3, [.ref s0, .ref q1, .ref q2, .ref q3, .ref q4, .int bc2_40, .int bl2_41])), aI G q1 40 fq1_1, aI G q2 40 fq2_2, aI G q3 4 ch2_38, aI G q4 4 be2_39, (s0, .inr (4, [.int gs00_3, .int gs01_4])), (t, .inr (6, [.int ns, .int np, .int fu, .int fd, .int fi, .ref t1, .ref t2, .ref t3, .ref t4, .ref t5, .ref t6])), aI G t1 9 sz_, aI G t2 9 pt, aI G t3 9 fh, aI G t4 8 kd, aI G t5 8 nd, aI G t6 8 fw, (n, .inr (1, [.ref n1, .ref n2, .ref n3, .ref n4, .ref n5, .ref n6, .ref n7, .int lo, .int mi, .int sd])), aI G n1 9 ht, aI G n2 8 wm, aI G n3 8 se, aI G n4 8 cd, aI G n5 8 sl, aI G n6 8 od, aI G n7 72 ow] H := hP
          have hD : va_D A [(q, .inr (3, [.ref s0, .ref q1, .ref q2, .ref q3, .ref q4, .int bc2_40, .int bl2_41])), aI G q1 40 fq1_1, aI G q2 40 fq2_2, aI G q3 4 ch2_38, aI G q4 4 be2_39, (s0, .inr (4, [.int gs00_3, .int gs01_4])), (t, .inr (6, [.int ns, .int np, .int fu, .int fd, .int fi, .ref t1, .ref t2, .ref t3, .ref t4, .ref t5, .ref t6])), aI G t1 9 sz_, aI G t2 9 pt, aI G t3 9 fh, aI G t4 8 kd, aI G t5 8 nd, aI G t6 8 fw, (n, .inr (1, [.ref n1, .ref n2, .ref n3, .ref n4, .ref n5, .ref n6, .ref n7, .int lo, .int mi, .int sd])), aI G n1 9 ht, aI G n2 8 wm, aI G n3 8 se, aI G n4 8 cd, aI G n5 8 sl, aI G n6 8 od, aI G n7 72 ow] := hD
          have hv := hv ch2_38 be2_39 bc2_40 bl2_41 hw
          exact x_vret (fq1_1, fq2_2, ch2_38, be2_39, bc2_40, bl2_41, gs00_3, gs01_4) hQ hx hb hr hlocks hS dX3_search_71 hv hP hD
        · have hv := hv.2 hc_26
          refine lv_iconst (v := (-1)) hx hb dX3_search_18 (by decide) ?_
          refine lv_istore (lv' := [(5, .int (-1)), (4, .int x4_5), (0, .ref q), (1, .ref t), (2, .ref n), (3, .int mm)]) hx hb dX3_search_19 hl (by decide) rfl (fun ls hl => ?_)
          obtain ⟨I21_47, μ21_48, hi0, hs_66⟩ := hv
          have Lm_68 : ∀ (n_67 : Nat) (fq1_42 : (Nat → Int32)) (fq2_43 : (Nat → Int32)) (gs00_44 : Int32) (gs01_45 : Int32) (x5_46 : Int32) (H : Heap) (locs : List Loc) (ls : Array Slot), μ21_48 fq1_42 fq2_43 gs00_44 gs01_45 x5_46 < n_67 → I21_47 fq1_42 fq2_43 gs00_44 gs01_45 x5_46 → va_P G.1 vwCl [(q, .inr (3, [.ref s0, .ref q1, .ref q2, .ref q3, .ref q4, .int bc, .int bl])), aI G q1 40 fq1_42, aI G q2 40 fq2_43, aI G q3 4 ch, aI G q4 4 be, (s0, .inr (4, [.int gs00_44, .int gs01_45])), (t, .inr (6, [.int ns, .int np, .int fu, .int fd, .int fi, .ref t1, .ref t2, .ref t3, .ref t4, .ref t5, .ref t6])), aI G t1 9 sz_, aI G t2 9 pt, aI G t3 9 fh, aI G t4 8 kd, aI G t5 8 nd, aI G t6 8 fw, (n, .inr (1, [.ref n1, .ref n2, .ref n3, .ref n4, .ref n5, .ref n6, .ref n7, .int lo, .int mi, .int sd])), aI G n1 9 ht, aI G n2 8 wm, aI G n3 8 se, aI G n4 8 cd, aI G n5 8 sl, aI G n6 8 od, aI G n7 72 ow] H → va_D A [(q, .inr (3, [.ref s0, .ref q1, .ref q2, .ref q3, .ref q4, .int bc, .int bl])), aI G q1 40 fq1_42, aI G q2 40 fq2_43, aI G q3 4 ch, aI G q4 4 be, (s0, .inr (4, [.int gs00_44, .int gs01_45])), (t, .inr (6, [.int ns, .int np, .int fu, .int fd, .int fi, .ref t1, .ref t2, .ref t3, .ref t4, .ref t5, .ref t6])), aI G t1 9 sz_, aI G t2 9 pt, aI G t3 9 fh, aI G t4 8 kd, aI G t5 8 nd, aI G t6 8 fw, (n, .inr (1, [.ref n1, .ref n2, .ref n3, .ref n4, .ref n5, .ref n6, .ref n7, .int lo, .int mi, .int sd])), aI G n1 9 ht, aI G n2 8 wm, aI G n3 8 se, aI G n4 8 cd, aI G n5 8 sl, aI G n6 8 od, aI G n7 72 ow] → va_S A s.heap H locs → lv_has ls 6 [(5, .int x5_46), (4, .int x4_5), (0, .ref q), (1, .ref t), (2, .ref n), (3, .int mm)] → W p l e R s m args below meth c H locs 0 0 Q (F0 m 21 ls []) := by
            intro n_67
            induction n_67 with
            | zero => intro fq1_42 fq2_43 gs00_44 gs01_45 x5_46 H locs ls hm; exact absurd hm (Nat.not_lt_zero _)
            | succ n_67 ih_49 =>
              intro fq1_42 fq2_43 gs00_44 gs01_45 x5_46 H locs ls hI_50 hi hP hD hS hl
              have hv := hs_66 fq1_42 fq2_43 gs00_44 gs01_45 x5_46 hi
              refine lv_iload hx hb dX3_search_21 (lv_at hl 0 rfl) ?_
              refine lv_aload_n hx hb dX3_search_23 rfl (lv_at hl 3 rfl) ?_
              refine va_get (D := G.1) (ci := 6) (v := .int ns) (C := RX6) (T := TX6) (N := 11) hx hb hts hinX6 hown hKK.1 hP 6 rfl rfl 0 (by decide) kl37 (fun _ h9 => h9) rfl dX3_search_24 ?_
              refine lv_icmp_ge (tgt := 47) hx hb dX3_search_27 (by decide) (fun hc_51 => ?_) (fun hc_51 => ?_)
              · have hv := hv.1 hc_51
                refine lv_iinc (v := (x4_5 + 1)) (lv' := [(4, .int (x4_5 + 1)), (5, .int x5_46), (0, .ref q), (1, .ref t), (2, .ref n), (3, .int mm)]) hx hb dX3_search_47 hl (k := 1) rfl rfl (by decide) rfl (fun ls hl => ?_)
                refine lv_goto (tgt := 3) hx hb dX3_search_50 (by decide) ?_
                exact ih_8 _ _ _ _ _ _ _ _ (Nat.lt_of_lt_of_le hv.2 (Nat.le_of_lt_succ hI_9)) hv.1 hP hD hS (lv_sub hl [0, 2, 3, 4, 5] rfl)
              · have hv := hv.2 hc_51
                refine lv_aload_n hx hb dX3_search_30 rfl (lv_at hl 2 rfl) ?_
                refine lv_aload_n hx hb dX3_search_31 rfl (lv_at hl 3 rfl) ?_
                refine lv_aload_n hx hb dX3_search_32 rfl (lv_at hl 4 rfl) ?_
                refine lv_iload_n hx hb dX3_search_33 rfl (lv_at hl 5 rfl) ?_
                refine lv_iload hx hb dX3_search_34 (lv_at hl 1 rfl) ?_
                refine lv_iload hx hb dX3_search_36 (lv_at hl 0 rfl) ?_
                obtain ⟨gT_52, gNs_53, gNp_54, gv_55, gkk_56, gM_57, gmq_58, gip_59, gdd_60, hv⟩ := hv
                obtain ⟨hp, hv⟩ := hv
                refine x_callv (wr := []) (w' := fun (u : (Nat → Int32) × (Nat → Int32) × (Int32) × (Int32)) => [(q, .inr (3, [.ref s0, .ref q1, .ref q2, .ref q3, .ref q4, .int bc, .int bl])), aI G q1 40 u.1, aI G q2 40 u.2.1, aI G q3 4 ch, aI G q4 4 be, (s0, .inr (4, [.int u.2.2.1, .int u.2.2.2])), (t, .inr (6, [.int ns, .int np, .int fu, .int fd, .int fi, .ref t1, .ref t2, .ref t3, .ref t4, .ref t5, .ref t6])), aI G t1 9 sz_, aI G t2 9 pt, aI G t3 9 fh, aI G t4 8 kd, aI G t5 8 nd, aI G t6 8 fw, (n, .inr (1, [.ref n1, .ref n2, .ref n3, .ref n4, .ref n5, .ref n6, .ref n7, .int lo, .int mi, .int sd])), aI G n1 9 ht, aI G n2 8 wm, aI G n3 8 se, aI G n4 8 cd, aI G n5 8 sl, aI G n6 8 od, aI G n7 72 ow]) (x_runV (As := [.ref t, .ref n, .int mm, .int x4_5, .int x5_46]) (rest := []) (n := 5) (C := RX3) (ci := 3) ⟨hx, hb, hml, hown, hts⟩ (k_X3_trySeat l G q q1 q2 q3 q4 s0 t t1 t2 t3 t4 t5 t6 n n1 n2 n3 n4 n5 n6 n7 _ bc bl fq1_42 fq2_43 ch be gs00_44 gs01_45 ns np fu fd fi sz_ pt fh kd nd fw ht wm se cd sl od ow lo mi sd mm x4_5 x5_46 gT_52 gNs_53 gNp_54 gv_55 gkk_56 gM_57 gmq_58 gip_59 gdd_60 hp) gX3_search_X3_trySeat rfl (by decide +kernel) ⟨Nat.le_trans (Nat.le_of_ble_eq_true rfl) hRf, Nat.le_trans (Nat.le_of_ble_eq_true rfl) hRl⟩ hKK hSS hS hA hP hD [0, 1, 2, 3, 4, 5, 6, 7, 8, 9, 10, 11, 12, 13, 14, 15, 16, 17, 18, 19, 20] (by decide) rfl rfl rfl 0 rfl rfl hl.1 rfl (Nat.le_of_ble_eq_true rfl) dX3_search_38) hP hD hS hA [0, 1, 2, 3, 4, 5, 6, 7, 8, 9, 10, 11, 12, 13, 14, 15, 16, 17, 18, 19, 20] [] [0, 1, 2, 3, 4, 5, 6, 7, 8, 9, 10, 11, 12, 13, 14, 15, 16, 17, 18, 19, 20] rfl rfl (by decide) (by decide) (by decide) (fun _ => rfl) (fun  u H locs hw hP hD hS => ?_)
                obtain ⟨co2_62, wo2_63, sw2_64, sh2_65⟩ := u
                have hP : va_P G.1 vwCl [(q, .inr (3, [.ref s0, .ref q1, .ref q2, .ref q3, .ref q4, .int bc, .int bl])), aI G q1 40 co2_62, aI G q2 40 wo2_63, aI G q3 4 ch, aI G q4 4 be, (s0, .inr (4, [.int sw2_64, .int sh2_65])), (t, .inr (6, [.int ns, .int np, .int fu, .int fd, .int fi, .ref t1, .ref t2, .ref t3, .ref t4, .ref t5, .ref t6])), aI G t1 9 sz_, aI G t2 9 pt, aI G t3 9 fh, aI G t4 8 kd, aI G t5 8 nd, aI G t6 8 fw, (n, .inr (1, [.ref n1, .ref n2, .ref n3, .ref n4, .ref n5, .ref n6, .ref n7, .int lo, .int mi, .int sd])), aI G n1 9 ht, aI G n2 8 wm, aI G n3 8 se, aI G n4 8 cd, aI G n5 8 sl, aI G n6 8 od, aI G n7 72 ow] H := hP
                have hD : va_D A [(q, .inr (3, [.ref s0, .ref q1, .ref q2, .ref q3, .ref q4, .int bc, .int bl])), aI G q1 40 co2_62, aI G q2 40 wo2_63, aI G q3 4 ch, aI G q4 4 be, (s0, .inr (4, [.int sw2_64, .int sh2_65])), (t, .inr (6, [.int ns, .int np, .int fu, .int fd, .int fi, .ref t1, .ref t2, .ref t3, .ref t4, .ref t5, .ref t6])), aI G t1 9 sz_, aI G t2 9 pt, aI G t3 9 fh, aI G t4 8 kd, aI G t5 8 nd, aI G t6 8 fw, (n, .inr (1, [.ref n1, .ref n2, .ref n3, .ref n4, .ref n5, .ref n6, .ref n7, .int lo, .int mi, .int sd])), aI G n1 9 ht, aI G n2 8 wm, aI G n3 8 se, aI G n4 8 cd, aI G n5 8 sl, aI G n6 8 od, aI G n7 72 ow] := hD
                have hv := hv co2_62 wo2_63 sw2_64 sh2_65 hw
                refine lv_iinc (v := (x5_46 + 1)) (lv' := [(5, .int (x5_46 + 1)), (4, .int x4_5), (0, .ref q), (1, .ref t), (2, .ref n), (3, .int mm)]) hx hb dX3_search_41 hl (k := 0) rfl rfl (by decide) rfl (fun ls hl => ?_)
                refine lv_goto (tgt := 21) hx hb dX3_search_44 (by decide) ?_
                exact ih_49 _ _ _ _ _ _ _ _ (Nat.lt_of_lt_of_le hv.2 (Nat.le_of_lt_succ hI_50)) hv.1 hP hD hS hl
          exact Lm_68 _ _ _ _ _ _ _ _ _ (Nat.lt_succ_self _) hi0 hP hD hS hl
  exact Lm_71 _ _ _ _ _ _ _ _ _ (Nat.lt_succ_self _) hi0 hP hD hS hl
theorem v_X3_search (l : Launch) (G : Gt) (q q1 q2 q3 q4 s0 t t1 t2 t3 t4 t5 t6 n n1 n2 n3 n4 n5 n6 n7 : Nat) (sz : Nat) (bc : Int32) (bl : Int32) (co : Nat → Int32) (wo : Nat → Int32) (ch : Nat → Int32) (be : Nat → Int32) (sw : Int32) (sh : Int32) (ns : Int32) (np : Int32) (fu : Int32) (fd : Int32) (fi : Int32) (sz_ : Nat → Int32) (pt : Nat → Int32) (fh : Nat → Int32) (kd : Nat → Int32) (nd : Nat → Int32) (fw : Nat → Int32) (ht : Nat → Int32) (wm : Nat → Int32) (se : Nat → Int32) (cd : Nat → Int32) (sl : Nat → Int32) (od : Nat → Int32) (ow : Nat → Int32) (lo : Int32) (mi : Int32) (sd : Int32) (mm : Int32) (T : Nat → Nat → Int) (Ns : Nat) (Np : Nat) (v : Nat → Int) (kk : Nat → Int) (M : Int) (mq : Nat) (hp : TOK T Ns Np ∧ CT T Ns Np ns np fu fd fi sz_ pt kd nd ∧ CN Ns Np v ht wm se cd sl od ow lo mi sd ∧ NOK T Ns Np kk M v ∧ mm = nI mq ∧ mq ≤ 60 ∧ 1 ≤ Np ∧ Np ≤ 4) : ∃ (I3_6 : (Nat → Int32) → (Nat → Int32) → Int32 → Int32 → Int32 → Prop) (μ3_7 : (Nat → Int32) → (Nat → Int32) → Int32 → Int32 → Int32 → Nat), I3_6 co wo sw sh 0 ∧ (∀ (fq1_1 : (Nat → Int32)) (fq2_2 : (Nat → Int32)) (gs00_3 : Int32) (gs01_4 : Int32) (x4_5 : Int32), I3_6 fq1_1 fq2_2 gs00_3 gs01_4 x4_5 → (np ≤ x4_5 → ∃ (gT_11 : Nat → Nat → Int) (gNs_12 : Nat) (gNp_13 : Nat) (gv_14 : Nat → Int) (gkk_15 : Nat → Int) (gM_16 : Int) (gmq_17 : Nat) (gS_18 : Option (Int × Int × Nat)) (gpc_19 : Nat) (gpn_20 : Nat), ((TOK gT_11 gNs_12 gNp_13 ∧ CT gT_11 gNs_12 gNp_13 ns np fu fd fi sz_ pt kd nd ∧ NOK gT_11 gNs_12 gNp_13 gkk_15 gM_16 gv_14 ∧ gNp_13 ≤ 4 ∧ gmq_17 ≤ 60 ∧ sTab gT_11 gv_14 gmq_17 gNs_12 gNp_13 fq1_1 fq2_2 ∧ (0 : Int32) = nI gpn_20 ∧ gpn_20 ≤ gNp_13 ∧ gpc_19 < 10 ^ gpn_20 ∧ okB gNs_12 (dg gpn_20 gpc_19) gpn_20 = true ∧ (∀ b, b < 9 → bt (0 : Int32) b = usd (dg gpn_20 gpc_19) (b + 1) gpn_20) ∧ (0 : Int32).toInt = sCo gT_11 gv_14 gmq_17 (dg gpn_20 gpc_19) gpn_20 ∧ (9999 : Int32).toInt = sLe gT_11 gv_14 gmq_17 (dg gpn_20 gpc_19) gpn_20 ∧ (∀ q, q < gpn_20 → (ch q).toInt = (dg gpn_20 gpc_19 q : Int) - 1) ∧ SRel gNp_13 gS_18 (241 : Int32) bl be ∧ gNp_13 + 1 ≤ gpn_20 + 5) ∧ (∀ (ch2_22 : Nat → Int32) (be2_23 : Nat → Int32) (bc2_24 : Int32) (bl2_25 : Int32), ((SRel gNp_13 (sF gT_11 gv_14 gmq_17 gNs_12 gNp_13 gS_18 (gpc_19 * 10 ^ (gNp_13 - gpn_20)) (10 ^ (gNp_13 - gpn_20))) bc2_24 bl2_25 be2_23 ∧ (∀ q, q < gpn_20 → ch2_22 q = ch q))) → (SRel Np (sF T v mq Ns Np none 0 (10 ^ Np)) bc2_24 bl2_25 be2_23)))) ∧ (¬ (np ≤ x4_5) → (4 ≤ x4_5 → ∃ (gT_27 : Nat → Nat → Int) (gNs_28 : Nat) (gNp_29 : Nat) (gv_30 : Nat → Int) (gkk_31 : Nat → Int) (gM_32 : Int) (gmq_33 : Nat) (gS_34 : Option (Int × Int × Nat)) (gpc_35 : Nat) (gpn_36 : Nat), ((TOK gT_27 gNs_28 gNp_29 ∧ CT gT_27 gNs_28 gNp_29 ns np fu fd fi sz_ pt kd nd ∧ NOK gT_27 gNs_28 gNp_29 gkk_31 gM_32 gv_30 ∧ gNp_29 ≤ 4 ∧ gmq_33 ≤ 60 ∧ sTab gT_27 gv_30 gmq_33 gNs_28 gNp_29 fq1_1 fq2_2 ∧ (0 : Int32) = nI gpn_36 ∧ gpn_36 ≤ gNp_29 ∧ gpc_35 < 10 ^ gpn_36 ∧ okB gNs_28 (dg gpn_36 gpc_35) gpn_36 = true ∧ (∀ b, b < 9 → bt (0 : Int32) b = usd (dg gpn_36 gpc_35) (b + 1) gpn_36) ∧ (0 : Int32).toInt = sCo gT_27 gv_30 gmq_33 (dg gpn_36 gpc_35) gpn_36 ∧ (9999 : Int32).toInt = sLe gT_27 gv_30 gmq_33 (dg gpn_36 gpc_35) gpn_36 ∧ (∀ q, q < gpn_36 → (ch q).toInt = (dg gpn_36 gpc_35 q : Int) - 1) ∧ SRel gNp_29 gS_34 (241 : Int32) bl be ∧ gNp_29 + 1 ≤ gpn_36 + 5) ∧ (∀ (ch2_38 : Nat → Int32) (be2_39 : Nat → Int32) (bc2_40 : Int32) (bl2_41 : Int32), ((SRel gNp_29 (sF gT_27 gv_30 gmq_33 gNs_28 gNp_29 gS_34 (gpc_35 * 10 ^ (gNp_29 - gpn_36)) (10 ^ (gNp_29 - gpn_36))) bc2_40 bl2_41 be2_39 ∧ (∀ q, q < gpn_36 → ch2_38 q = ch q))) → (SRel Np (sF T v mq Ns Np none 0 (10 ^ Np)) bc2_40 bl2_41 be2_39)))) ∧ (¬ (4 ≤ x4_5) → ∃ (I21_47 : (Nat → Int32) → (Nat → Int32) → Int32 → Int32 → Int32 → Prop) (μ21_48 : (Nat → Int32) → (Nat → Int32) → Int32 → Int32 → Int32 → Nat), I21_47 fq1_1 fq2_2 gs00_3 gs01_4 (-1) ∧ (∀ (fq1_42 : (Nat → Int32)) (fq2_43 : (Nat → Int32)) (gs00_44 : Int32) (gs01_45 : Int32) (x5_46 : Int32), I21_47 fq1_42 fq2_43 gs00_44 gs01_45 x5_46 → (ns ≤ x5_46 → I3_6 fq1_42 fq2_43 gs00_44 gs01_45 (x4_5 + 1) ∧ μ3_7 fq1_42 fq2_43 gs00_44 gs01_45 (x4_5 + 1) < μ3_7 fq1_1 fq2_2 gs00_3 gs01_4 x4_5) ∧ (¬ (ns ≤ x5_46) → ∃ (gT_52 : Nat → Nat → Int) (gNs_53 : Nat) (gNp_54 : Nat) (gv_55 : Nat → Int) (gkk_56 : Nat → Int) (gM_57 : Int) (gmq_58 : Nat) (gip_59 : Nat) (gdd_60 : Nat), ((TOK gT_52 gNs_53 gNp_54 ∧ CT gT_52 gNs_53 gNp_54 ns np fu fd fi sz_ pt kd nd ∧ CN gNs_53 gNp_54 gv_55 ht wm se cd sl od ow lo mi sd ∧ NOK gT_52 gNs_53 gNp_54 gkk_56 gM_57 gv_55 ∧ mm = nI gmq_58 ∧ gmq_58 ≤ 60 ∧ x4_5 = nI gip_59 ∧ gip_59 < gNp_54 ∧ gip_59 < 4 ∧ x5_46 = nI gdd_60 - 1 ∧ gdd_60 ≤ gNs_53) ∧ (∀ (co2_62 : Nat → Int32) (wo2_63 : Nat → Int32) (sw2_64 : Int32) (sh2_65 : Int32), ((∃ (c_ w_ : Int32), c_.toInt = sGc gT_52 gv_55 gmq_58 gip_59 gdd_60 ∧ w_.toInt = sGw gT_52 gv_55 gmq_58 gip_59 gdd_60 ∧ co2_62 = upd fq1_42 (10 * gip_59 + gdd_60) c_ ∧ wo2_63 = upd fq2_43 (10 * gip_59 + gdd_60) w_)) → (I21_47 co2_62 wo2_63 sw2_64 sh2_65 (x5_46 + 1) ∧ μ21_48 co2_62 wo2_63 sw2_64 sh2_65 (x5_46 + 1) < μ21_48 fq1_42 fq2_43 gs00_44 gs01_45 x5_46)))))))) := by
  obtain ⟨hT, hC, hN, hO, rfl, hm, h1, h4⟩ := hp
  have t1 := hT.1
  have hns : ns = nI Ns := hC.1
  have hnp : np = nI Np := hC.2.1
  have fin : ∀ co wo : Nat → Int32, sTab T v mq Ns Np co wo → ∃ (gT_11 : Nat → Nat → Int) (gNs_12 : Nat) (gNp_13 : Nat) (gv_14 : Nat → Int) (gkk_15 : Nat → Int) (gM_16 : Int) (gmq_17 : Nat) (gS_18 : Option (Int × Int × Nat)) (gpc_19 : Nat) (gpn_20 : Nat), ((TOK gT_11 gNs_12 gNp_13 ∧ CT gT_11 gNs_12 gNp_13 ns np fu fd fi sz_ pt kd nd ∧ NOK gT_11 gNs_12 gNp_13 gkk_15 gM_16 gv_14 ∧ gNp_13 ≤ 4 ∧ gmq_17 ≤ 60 ∧ sTab gT_11 gv_14 gmq_17 gNs_12 gNp_13 co wo ∧ (0 : Int32) = nI gpn_20 ∧ gpn_20 ≤ gNp_13 ∧ gpc_19 < 10 ^ gpn_20 ∧ okB gNs_12 (dg gpn_20 gpc_19) gpn_20 = true ∧ (∀ b, b < 9 → bt (0 : Int32) b = usd (dg gpn_20 gpc_19) (b + 1) gpn_20) ∧ (0 : Int32).toInt = sCo gT_11 gv_14 gmq_17 (dg gpn_20 gpc_19) gpn_20 ∧ (9999 : Int32).toInt = sLe gT_11 gv_14 gmq_17 (dg gpn_20 gpc_19) gpn_20 ∧ (∀ q, q < gpn_20 → (ch q).toInt = (dg gpn_20 gpc_19 q : Int) - 1) ∧ SRel gNp_13 gS_18 (241 : Int32) bl be ∧ gNp_13 + 1 ≤ gpn_20 + 5) ∧ (∀ (ch2_22 : Nat → Int32) (be2_23 : Nat → Int32) (bc2_24 : Int32) (bl2_25 : Int32), ((SRel gNp_13 (sF gT_11 gv_14 gmq_17 gNs_12 gNp_13 gS_18 (gpc_19 * 10 ^ (gNp_13 - gpn_20)) (10 ^ (gNp_13 - gpn_20))) bc2_24 bl2_25 be2_23 ∧ (∀ q, q < gpn_20 → ch2_22 q = ch q))) → (SRel Np (sF T v mq Ns Np none 0 (10 ^ Np)) bc2_24 bl2_25 be2_23))) := by
    intro co wo hTab
    refine ⟨T, Ns, Np, v, kk, M, mq, none, 0, 0, ⟨hT, hC, hO, h4, hm, hTab, rfl, by omega, by decide, rfl, fun b _ => b_0 b, rfl, rfl, fun q hq => absurd hq (Nat.not_lt_zero _), rfl, by omega⟩, fun c2 b2 k2 l2 h2 => ?_⟩
    have h3 := h2.1
    rw [Nat.sub_zero, Nat.zero_mul] at h3
    exact h3
  refine ⟨fun f1 f2 _ _ z => ∃ p, p ≤ Np ∧ z = nI p ∧ sTab T v mq Ns p f1 f2, fun _ _ _ _ z => 5 - z.toNatClampNeg, ⟨0, by omega, rfl, fun q hq => absurd hq (Nat.not_lt_zero _)⟩, ?_⟩
  rintro f1 f2 w1 w2 z ⟨p, hp, rfl, hTab⟩
  have ep : (nI p).toNatClampNeg = p := nI_clamp (by omega)
  have ep1 : nI p + 1 = nI (p + 1) := nI_1 p
  have ep2 : (nI (p + 1)).toNatClampNeg = p + 1 := nI_clamp (by omega)
  have hpp : np ≤ nI p ↔ Np ≤ p := by rw [hnp]; exact nI_leI (by omega) (by omega)
  have h44 : (4 : Int32) ≤ nI p ↔ 4 ≤ p := nI_leI (a := 4) (by omega) (by omega)
  simp only [ep, ep1, ep2, h44, hpp]
  refine ⟨fun h => ?_, fun h => ⟨fun h => ?_, fun h5 => ?_⟩⟩
  · have e : p = Np := by omega
    subst e
    exact fin f1 f2 hTab
  · omega
  refine ⟨fun f1 f2 _ _ z => ∃ d, d ≤ Ns + 1 ∧ z = nI d - 1 ∧ sTab T v mq Ns p f1 f2 ∧ ∀ e, e < d → (f1 (10 * p + e)).toInt = sGc T v mq p e ∧ (f2 (10 * p + e)).toInt = sGw T v mq p e, fun _ _ _ _ z => 11 - (z + 1).toNatClampNeg, ⟨0, by omega, rfl, hTab, fun e he => absurd he (Nat.not_lt_zero _)⟩, ?_⟩
  rintro g1 g2 w3 w4 z ⟨d0, hd0, rfl, hTab2, hrow⟩
  have hz := nm_i (d := d0) (by omega)
  have hzn : ns ≤ nI d0 - 1 ↔ Ns + 1 ≤ d0 := by
    rw [hns, i_le (nI_toInt (by omega)) hz]; omega
  have ez1 : (nI d0 - 1 + 1).toNatClampNeg = d0 := cl_of (by rw [i_add hz i32_1 (by omega) (by omega)]; omega)
  have ez2 : nI d0 - 1 + 1 = nI (d0 + 1) - 1 := nm_1 d0
  have ez3 : (nI (d0 + 1) - 1 + 1).toNatClampNeg = d0 + 1 := cl_of (by rw [i_add (nm_i (by omega)) i32_1 (by omega) (by omega)]; omega)
  have ez4 : (nI d0 - 1 + 1 + 1).toNatClampNeg = d0 + 1 := by rw [ez2]; exact ez3
  have hmu : ¬ Ns + 1 ≤ d0 → 11 - (nI d0 - 1 + 1 + 1).toNatClampNeg < 11 - (nI d0 - 1 + 1).toNatClampNeg := fun g => by rw [ez4, ez1]; omega
  rw [hzn]
  refine ⟨fun q => ⟨⟨p + 1, by omega, rfl, fun q2 hq2 e he => ?_⟩, by omega⟩, fun q => ⟨T, Ns, Np, v, kk, M, mq, p, d0, ⟨hT, hC, hN, hO, rfl, hm, rfl, by omega, by omega, rfl, by omega⟩, fun c2 o2 w5 w6 h2 => ⟨⟨d0 + 1, by omega, ez2, ?_, ?_⟩, hmu q⟩⟩⟩
  · by_cases u : q2 = p
    · subst u; exact hrow e (by omega)
    · exact hTab2 q2 (by omega) e he
  · obtain ⟨c9, w9, h5, h6, rfl, rfl⟩ := h2
    intro q2 hq2 e he
    rw [upd_ne (by omega), upd_ne (by omega)]
    exact hTab2 q2 hq2 e he
  · obtain ⟨c9, w9, h5, h6, rfl, rfl⟩ := h2
    intro e he
    by_cases u : e = d0
    · subst u; rw [upd_at, upd_at]; exact ⟨h5, h6⟩
    · rw [upd_ne (by omega), upd_ne (by omega)]; exact hrow e (by omega)
theorem k_X3_search (l : Launch) (G : Gt) (q q1 q2 q3 q4 s0 t t1 t2 t3 t4 t5 t6 n n1 n2 n3 n4 n5 n6 n7 : Nat) (sz : Nat) (bc : Int32) (bl : Int32) (co : Nat → Int32) (wo : Nat → Int32) (ch : Nat → Int32) (be : Nat → Int32) (sw : Int32) (sh : Int32) (ns : Int32) (np : Int32) (fu : Int32) (fd : Int32) (fi : Int32) (sz_ : Nat → Int32) (pt : Nat → Int32) (fh : Nat → Int32) (kd : Nat → Int32) (nd : Nat → Int32) (fw : Nat → Int32) (ht : Nat → Int32) (wm : Nat → Int32) (se : Nat → Int32) (cd : Nat → Int32) (sl : Nat → Int32) (od : Nat → Int32) (ow : Nat → Int32) (lo : Int32) (mi : Int32) (sd : Int32) (mm : Int32) (T : Nat → Nat → Int) (Ns : Nat) (Np : Nat) (v : Nat → Int) (kk : Nat → Int) (M : Int) (mq : Nat) (hp : TOK T Ns Np ∧ CT T Ns Np ns np fu fd fi sz_ pt kd nd ∧ CN Ns Np v ht wm se cd sl od ow lo mi sd ∧ NOK T Ns Np kk M v ∧ mm = nI mq ∧ mq ≤ 60 ∧ 1 ≤ Np ∧ Np ≤ 4) : MetV l yX3_search wsX3_search 8 220 G [.ref q, .ref t, .ref n, .int mm] [(q, .inr (3, [.ref s0, .ref q1, .ref q2, .ref q3, .ref q4, .int bc, .int bl])), aI G q1 40 co, aI G q2 40 wo, aI G q3 4 ch, aI G q4 4 be, (s0, .inr (4, [.int sw, .int sh])), (t, .inr (6, [.int ns, .int np, .int fu, .int fd, .int fi, .ref t1, .ref t2, .ref t3, .ref t4, .ref t5, .ref t6])), aI G t1 9 sz_, aI G t2 9 pt, aI G t3 9 fh, aI G t4 8 kd, aI G t5 8 nd, aI G t6 8 fw, (n, .inr (1, [.ref n1, .ref n2, .ref n3, .ref n4, .ref n5, .ref n6, .ref n7, .int lo, .int mi, .int sd])), aI G n1 9 ht, aI G n2 8 wm, aI G n3 8 se, aI G n4 8 cd, aI G n5 8 sl, aI G n6 8 od, aI G n7 72 ow] sz (fun (u : (Nat → Int32) × (Nat → Int32) × (Nat → Int32) × (Nat → Int32) × (Int32) × (Int32) × (Int32) × (Int32)) => SRel Np (sF T v mq Ns Np none 0 (10 ^ Np)) u.2.2.2.2.1 u.2.2.2.2.2.1 u.2.2.2.1) (fun (u : (Nat → Int32) × (Nat → Int32) × (Nat → Int32) × (Nat → Int32) × (Int32) × (Int32) × (Int32) × (Int32)) => [(q, .inr (3, [.ref s0, .ref q1, .ref q2, .ref q3, .ref q4, .int u.2.2.2.2.1, .int u.2.2.2.2.2.1])), aI G q1 40 u.1, aI G q2 40 u.2.1, aI G q3 4 u.2.2.1, aI G q4 4 u.2.2.2.1, (s0, .inr (4, [.int u.2.2.2.2.2.2.1, .int u.2.2.2.2.2.2.2])), (t, .inr (6, [.int ns, .int np, .int fu, .int fd, .int fi, .ref t1, .ref t2, .ref t3, .ref t4, .ref t5, .ref t6])), aI G t1 9 sz_, aI G t2 9 pt, aI G t3 9 fh, aI G t4 8 kd, aI G t5 8 nd, aI G t6 8 fw, (n, .inr (1, [.ref n1, .ref n2, .ref n3, .ref n4, .ref n5, .ref n6, .ref n7, .int lo, .int mi, .int sd])), aI G n1 9 ht, aI G n2 8 wm, aI G n3 8 se, aI G n4 8 cd, aI G n5 8 sl, aI G n6 8 od, aI G n7 72 ow]) :=
  c_X3_search l G q q1 q2 q3 q4 s0 t t1 t2 t3 t4 t5 t6 n n1 n2 n3 n4 n5 n6 n7 sz bc bl co wo ch be sw sh ns np fu fd fi sz_ pt fh kd nd fw ht wm se cd sl od ow lo mi sd mm T Ns Np v kk M mq (v_X3_search l G q q1 q2 q3 q4 s0 t t1 t2 t3 t4 t5 t6 n n1 n2 n3 n4 n5 n6 n7 sz bc bl co wo ch be sw sh ns np fu fd fi sz_ pt fh kd nd fw ht wm se cd sl od ow lo mi sd mm T Ns Np v kk M mq hp)

set_option maxHeartbeats 4000000 in
set_option maxRecDepth 100000 in
theorem c_X2_keepBest (l : Launch) (G : Gt) (g g1 g2 g3 : Nat) (sz : Nat) (s0 : Nat) (gs : Int32) (gm : Int32) (gb : Int32) (go : Nat → Int32) (gz : Nat → Int32) (gf : Nat → Int32) (x : Int32) (hv : (((va_cpy go gz 0 0 6) : Nat → Int32) = va_cpy go gz 0 0 6) ∧ (x : Int32) = x) : MetV l yX2_keepBest wsX2_keepBest 1 30 G [.ref g, .int x] [(g, .inr (2, [.ref s0, .ref g1, .ref g2, .ref g3, .int gs, .int gm, .int gb])), aI G g1 6 go, aI G g2 6 gz, aI G g3 256 gf] sz (fun (u : (Nat → Int32) × (Int32)) => ((u.1 : Nat → Int32) = va_cpy go gz 0 0 6) ∧ (u.2 : Int32) = x) (fun (u : (Nat → Int32) × (Int32)) => [(g, .inr (2, [.ref s0, .ref g1, .ref g2, .ref g3, .int gs, .int gm, .int u.2])), aI G g1 6 go, aI G g2 6 u.1, aI G g3 256 gf]) := by
  refine x_startV (cc := cX2_keepBest) (maxL := 2) (ret := none) (by decide) rfl (Nat.le_of_ble_eq_true rfl) ?_
  intro p e s m args below meth c A R Q ls hRf hRl hQ C hP hD hS hA hSS hl
  obtain ⟨hx, hb, hr, hml, hown, hts, hlocks, hKK⟩ := C
  have hown : s.vm.findClass RX2 = some m.cls := hown
  have hl : lv_has ls 2 [(0, .ref g), (1, .int x)] := hl
  have hinX2 : ∀ w ∈ u_ws RX2 TX2 7, w ∈ wsX2_keepBest := by decide +kernel
  have ka_i := hts (.initialized "java/lang/System") (by decide +kernel)
  have ka_n := hts (.native arraycopyName) (by decide +kernel)
  have ka_s := hts (.static arraycopyName) (by decide +kernel)
  have kl18 := hts (.fieldLink RX2 18 "WarmStones$Passing" "order" "[I") (by decide +kernel)
  have kl22 := hts (.fieldLink RX2 22 "WarmStones$Passing" "best" "[I") (by decide +kernel)
  have kl44 := hts (.fieldLink RX2 44 "WarmStones$Passing" "bestHeat" "I") (by decide +kernel)
  have kl88 := hts (.methodLink RX2 88 arraycopyName) (by decide +kernel)
  refine lv_aload_n hx hb dX2_keepBest_0 rfl (lv_at hl 0 rfl) ?_
  refine lv_iload_n hx hb dX2_keepBest_1 rfl (lv_at hl 1 rfl) ?_
  refine va_put (D := G.1) (ci := 2) (v := .int x) (ty := .int) (C := RX2) (T := TX2) (N := 7) hx hb hts hinX2 tyX2 tyX2_ok nmX2 hown hKK.1 hP hD hS 0 rfl rfl 6 (by decide) kl44 (fun _ h9 => h9) rfl (by decide +kernel) rfl rfl (Nat.le_of_ble_eq_true rfl) dX2_keepBest_2 (fun H locs hP hD hS => ?_)
  have hP : va_P G.1 vwCl [(g, .inr (2, [.ref s0, .ref g1, .ref g2, .ref g3, .int gs, .int gm, .int x])), aI G g1 6 go, aI G g2 6 gz, aI G g3 256 gf] H := hP
  have hD : va_D A [(g, .inr (2, [.ref s0, .ref g1, .ref g2, .ref g3, .int gs, .int gm, .int x])), aI G g1 6 go, aI G g2 6 gz, aI G g3 256 gf] := hD
  refine lv_aload_n hx hb dX2_keepBest_5 rfl (lv_at hl 0 rfl) ?_
  refine va_get (D := G.1) (ci := 2) (v := .ref g1) (C := RX2) (T := TX2) (N := 7) hx hb hts hinX2 hown hKK.1 hP 0 rfl rfl 1 (by decide) kl18 (fun _ h9 => h9) rfl dX2_keepBest_6 ?_
  refine lv_iconst (v := 0) hx hb dX2_keepBest_9 (by decide) ?_
  refine lv_aload_n hx hb dX2_keepBest_10 rfl (lv_at hl 0 rfl) ?_
  refine va_get (D := G.1) (ci := 2) (v := .ref g2) (C := RX2) (T := TX2) (N := 7) hx hb hts hinX2 hown hKK.1 hP 0 rfl rfl 2 (by decide) kl22 (fun _ h9 => h9) rfl dX2_keepBest_11 ?_
  refine lv_iconst (v := 0) hx hb dX2_keepBest_14 (by decide) ?_
  refine lv_bipush (v := 6) hx hb dX2_keepBest_15 (by decide) ?_
  refine va_copyi (ty := .int) hx hb (hml.trans hl.1.symm) hown kl88 ka_n ka_s ka_i hKK.1 hP hD hS 1 2 0 0 rfl rfl rfl rfl rfl (by decide) (by decide) (by decide) (by decide) (by decide) (fun _ _ => rfl) (Nat.le_trans (Nat.le_of_ble_eq_true rfl) hRf) (Nat.le_trans (by decide) hRl) dX2_keepBest_17 (fun H locs hP hD hS => ?_)
  have hP : va_P G.1 vwCl [(g, .inr (2, [.ref s0, .ref g1, .ref g2, .ref g3, .int gs, .int gm, .int x])), aI G g1 6 go, aI G g2 6 (va_cpy go gz 0 0 6), aI G g3 256 gf] H := hP
  have hD : va_D A [(g, .inr (2, [.ref s0, .ref g1, .ref g2, .ref g3, .int gs, .int gm, .int x])), aI G g1 6 go, aI G g2 6 (va_cpy go gz 0 0 6), aI G g3 256 gf] := hD
  exact x_vret ((va_cpy go gz 0 0 6), x) hQ hx hb hr hlocks hS dX2_keepBest_20 hv hP hD
theorem v_X2_keepBest (l : Launch) (G : Gt) (g g1 g2 g3 : Nat) (sz : Nat) (s0 : Nat) (gs : Int32) (gm : Int32) (gb : Int32) (go : Nat → Int32) (gz : Nat → Int32) (gf : Nat → Int32) (x : Int32) : (((va_cpy go gz 0 0 6) : Nat → Int32) = va_cpy go gz 0 0 6) ∧ (x : Int32) = x := by
  exact ⟨rfl, rfl⟩
theorem k_X2_keepBest (l : Launch) (G : Gt) (g g1 g2 g3 : Nat) (sz : Nat) (s0 : Nat) (gs : Int32) (gm : Int32) (gb : Int32) (go : Nat → Int32) (gz : Nat → Int32) (gf : Nat → Int32) (x : Int32) : MetV l yX2_keepBest wsX2_keepBest 1 30 G [.ref g, .int x] [(g, .inr (2, [.ref s0, .ref g1, .ref g2, .ref g3, .int gs, .int gm, .int gb])), aI G g1 6 go, aI G g2 6 gz, aI G g3 256 gf] sz (fun (u : (Nat → Int32) × (Int32)) => ((u.1 : Nat → Int32) = va_cpy go gz 0 0 6) ∧ (u.2 : Int32) = x) (fun (u : (Nat → Int32) × (Int32)) => [(g, .inr (2, [.ref s0, .ref g1, .ref g2, .ref g3, .int gs, .int gm, .int u.2])), aI G g1 6 go, aI G g2 6 u.1, aI G g3 256 gf]) :=
  c_X2_keepBest l G g g1 g2 g3 sz s0 gs gm gb go gz gf x (v_X2_keepBest l G g g1 g2 g3 sz s0 gs gm gb go gz gf x)

set_option maxHeartbeats 4000000 in
set_option maxRecDepth 100000 in
theorem c_X2_answer (l : Launch) (G : Gt) (g g1 g2 g3 : Nat) (sz : Nat) (s0 : Nat) (gs : Int32) (gm : Int32) (gb : Int32) (go : Nat → Int32) (gz : Nat → Int32) (gf : Nat → Int32) (x : Int32) (hv : (¬ x = 0 → (¬ (¬ (x - 1) < 0 ∧ ¬ 5 < (x - 1)) → ((-1000000002) : Int32) = (if x = 0 then gb else if ¬ x - 1 < 0 ∧ ¬ 5 < x - 1 then gz (x - 1).toNatClampNeg else (-1000000002))) ∧ (¬ (x - 1) < 0 ∧ ¬ 5 < (x - 1) → (vp_in (x - 1) 6) ∧ (((gz (x - 1).toNatClampNeg) : Int32) = (if x = 0 then gb else if ¬ x - 1 < 0 ∧ ¬ 5 < x - 1 then gz (x - 1).toNatClampNeg else (-1000000002))))) ∧ (x = 0 → (gb : Int32) = (if x = 0 then gb else if ¬ x - 1 < 0 ∧ ¬ 5 < x - 1 then gz (x - 1).toNatClampNeg else (-1000000002)))) : MetI l yX2_answer wsX2_answer 1 22 G [.ref g, .int x] [(g, .inr (2, [.ref s0, .ref g1, .ref g2, .ref g3, .int gs, .int gm, .int gb])), aI G g1 6 go, aI G g2 6 gz, aI G g3 256 gf] sz (fun (r : Int32) (_ : Unit) => (r : Int32) = (if x = 0 then gb else if ¬ x - 1 < 0 ∧ ¬ 5 < x - 1 then gz (x - 1).toNatClampNeg else (-1000000002))) (fun (_ : Unit) => [(g, .inr (2, [.ref s0, .ref g1, .ref g2, .ref g3, .int gs, .int gm, .int gb])), aI G g1 6 go, aI G g2 6 gz, aI G g3 256 gf]) := by
  refine x_startI (cc := cX2_answer) (maxL := 2) (ret := (some .int)) (by decide) rfl (Nat.le_of_ble_eq_true rfl) ?_
  intro p e s m args below meth c A R Q ls hRf hRl hQ C hP hD hS hA hSS hl
  obtain ⟨hx, hb, hr, hml, hown, hts, hlocks, hKK⟩ := C
  have hown : s.vm.findClass RX2 = some m.cls := hown
  have hl : lv_has ls 2 [(0, .ref g), (1, .int x)] := hl
  have hinX2 : ∀ w ∈ u_ws RX2 TX2 7, w ∈ wsX2_answer := by decide +kernel
  have kl22 := hts (.fieldLink RX2 22 "WarmStones$Passing" "best" "[I") (by decide +kernel)
  have kl44 := hts (.fieldLink RX2 44 "WarmStones$Passing" "bestHeat" "I") (by decide +kernel)
  have kl51 := hts (.constant RX2 51 (-1000000002)) (by decide +kernel)
  have kn_iRX7 := hts (.initialized RX7) (by decide +kernel)
  have kn_sX7_within := hts (.static yX7_within) (by decide +kernel)
  refine lv_iload_n hx hb dX2_answer_0 rfl (lv_at hl 1 rfl) ?_
  refine lv_if_ne (tgt := 9) hx hb dX2_answer_1 (by decide) (fun hc_1 => ?_) (fun hc_1 => ?_)
  · have hv := hv.1 hc_1
    refine lv_iload_n hx hb dX2_answer_9 rfl (lv_at hl 1 rfl) ?_
    refine lv_iconst (v := 1) hx hb dX2_answer_10 (by decide) ?_
    refine lv_isub hx hb dX2_answer_11 ?_
    refine lv_iconst (v := 0) hx hb dX2_answer_12 (by decide) ?_
    refine lv_iconst (v := 5) hx hb dX2_answer_13 (by decide) ?_
    refine x_calliR (x_runSN (As := [.int (x - 1), .int 0, .int 5]) (rest := []) (n := 3) ⟨hx, hb, hml, hown, hts⟩ (k_X7_within l G  _ (x - 1) 0 5) gX2_answer_X7_within_n47 rfl kn_iRX7 kn_sX7_within (by decide) (by decide +kernel) ⟨Nat.le_trans (Nat.le_of_ble_eq_true rfl) hRf, Nat.le_trans (Nat.le_of_ble_eq_true rfl) hRl⟩ hKK hSS hS hA hP hD [] (by decide) rfl rfl hl.1 rfl (Nat.le_of_ble_eq_true rfl) dX2_answer_14) hP hD hS hA [] rfl (fun r_2 _ H locs hw hP hS => ?_)
    replace hw := hw.symm; subst hw
    refine lv_if_eq (tgt := 31) hx hb dX2_answer_17 (by decide) (fun hc_3 => ?_) (fun hc_3 => ?_)
    · have hv := hv.1 (tv_eq.mp hc_3)
      refine lv_ldc (v := (-1000000002)) hx hb hown kl51 dX2_answer_31 ?_
      exact x_iret (v := (-1000000002)) () hQ hx hb hr hlocks hS dX2_answer_33 hv hP hD
    · have hv := hv.2 (tv_eqn.mp hc_3)
      refine lv_aload_n hx hb dX2_answer_20 rfl (lv_at hl 0 rfl) ?_
      refine va_get (D := G.1) (ci := 2) (v := .ref g2) (C := RX2) (T := TX2) (N := 7) hx hb hts hinX2 hown hKK.1 hP 0 rfl rfl 2 (by decide) kl22 (fun _ h9 => h9) rfl dX2_answer_21 ?_
      refine lv_iload_n hx hb dX2_answer_24 rfl (lv_at hl 1 rfl) ?_
      refine lv_iconst (v := 1) hx hb dX2_answer_25 (by decide) ?_
      refine lv_isub hx hb dX2_answer_26 ?_
      obtain ⟨hin, hv⟩ := hv
      refine va_iald hx hb hKK.1 hP 2 0 rfl rfl hin dX2_answer_27 ?_
      refine lv_goto (tgt := 33) hx hb dX2_answer_28 (by decide) ?_
      exact x_iret (v := (gz (x - 1).toNatClampNeg)) () hQ hx hb hr hlocks hS dX2_answer_33 hv hP hD
  · have hv := hv.2 hc_1
    refine lv_aload_n hx hb dX2_answer_4 rfl (lv_at hl 0 rfl) ?_
    refine va_get (D := G.1) (ci := 2) (v := .int gb) (C := RX2) (T := TX2) (N := 7) hx hb hts hinX2 hown hKK.1 hP 0 rfl rfl 6 (by decide) kl44 (fun _ h9 => h9) rfl dX2_answer_5 ?_
    exact x_iret (v := gb) () hQ hx hb hr hlocks hS dX2_answer_8 hv hP hD
theorem v_X2_answer (l : Launch) (G : Gt) (g g1 g2 g3 : Nat) (sz : Nat) (s0 : Nat) (gs : Int32) (gm : Int32) (gb : Int32) (go : Nat → Int32) (gz : Nat → Int32) (gf : Nat → Int32) (x : Int32) : (¬ x = 0 → (¬ (¬ (x - 1) < 0 ∧ ¬ 5 < (x - 1)) → ((-1000000002) : Int32) = (if x = 0 then gb else if ¬ x - 1 < 0 ∧ ¬ 5 < x - 1 then gz (x - 1).toNatClampNeg else (-1000000002))) ∧ (¬ (x - 1) < 0 ∧ ¬ 5 < (x - 1) → (vp_in (x - 1) 6) ∧ (((gz (x - 1).toNatClampNeg) : Int32) = (if x = 0 then gb else if ¬ x - 1 < 0 ∧ ¬ 5 < x - 1 then gz (x - 1).toNatClampNeg else (-1000000002))))) ∧ (x = 0 → (gb : Int32) = (if x = 0 then gb else if ¬ x - 1 < 0 ∧ ¬ 5 < x - 1 then gz (x - 1).toNatClampNeg else (-1000000002))) := by
  refine ⟨fun h0 => ⟨fun h2 => ?_, fun h2 => ⟨?_, ?_⟩⟩, fun h0 => ?_⟩
  · rw [if_neg h0, if_neg h2]
  · have := (wi_iff (x := x - 1) (y := 0) (z := 5) (a := 0) (b := 5) rfl rfl).mp h2
    exact vp_of rfl this.1 (by omega)
  · rw [if_neg h0, if_pos h2]
  · rw [if_pos h0]
theorem k_X2_answer (l : Launch) (G : Gt) (g g1 g2 g3 : Nat) (sz : Nat) (s0 : Nat) (gs : Int32) (gm : Int32) (gb : Int32) (go : Nat → Int32) (gz : Nat → Int32) (gf : Nat → Int32) (x : Int32) : MetI l yX2_answer wsX2_answer 1 22 G [.ref g, .int x] [(g, .inr (2, [.ref s0, .ref g1, .ref g2, .ref g3, .int gs, .int gm, .int gb])), aI G g1 6 go, aI G g2 6 gz, aI G g3 256 gf] sz (fun (r : Int32) (_ : Unit) => (r : Int32) = (if x = 0 then gb else if ¬ x - 1 < 0 ∧ ¬ 5 < x - 1 then gz (x - 1).toNatClampNeg else (-1000000002))) (fun (_ : Unit) => [(g, .inr (2, [.ref s0, .ref g1, .ref g2, .ref g3, .int gs, .int gm, .int gb])), aI G g1 6 go, aI G g2 6 gz, aI G g3 256 gf]) :=
  c_X2_answer l G g g1 g2 g3 sz s0 gs gm gb go gz gf x (v_X2_answer l G g g1 g2 g3 sz s0 gs gm gb go gz gf x)

set_option maxHeartbeats 4000000 in
set_option maxRecDepth 100000 in
theorem c_X2_heatBehind (l : Launch) (G : Gt) (g g1 g2 g3 s0 t t1 t2 t3 t4 t5 t6 n n1 n2 n3 n4 n5 n6 n7 : Nat) (sz : Nat) (gs : Int32) (gm : Int32) (gb : Int32) (go : Nat → Int32) (gz : Nat → Int32) (gf : Nat → Int32) (sw : Int32) (sh : Int32) (ns : Int32) (np : Int32) (fu : Int32) (fd : Int32) (fi : Int32) (sz_ : Nat → Int32) (pt : Nat → Int32) (fh : Nat → Int32) (kd : Nat → Int32) (nd : Nat → Int32) (fw : Nat → Int32) (ht : Nat → Int32) (wm : Nat → Int32) (se : Nat → Int32) (cd : Nat → Int32) (sl : Nat → Int32) (od : Nat → Int32) (ow : Nat → Int32) (lo : Int32) (mi : Int32) (sd : Int32) (x : Int32) (pq : Int32) (y : Int32) (T : Nat → Nat → Int) (Ns : Nat) (Np : Nat) (v : Nat → Int) (kk : Nat → Int) (M : Int) (ib : Nat) (mq : Nat) (tn : Nat) (ip : Nat) (hv : (vp_in pq 8) ∧ ((vp_in pq 8) ∧ (∃ (I42_8 : Int32 → Int32 → Int32 → Prop) (μ42_9 : Int32 → Int32 → Int32 → Nat), I42_8 (if 0 < ((wm pq.toNatClampNeg) - ((x * gm) * (frostI (kd pq.toNatClampNeg) fu fd 0))) then ((wm pq.toNatClampNeg) - ((x * gm) * (frostI (kd pq.toNatClampNeg) fu fd 0))) else 0) y 0 ∧ (∀ (gs00_5 : Int32) (gs01_6 : Int32) (x7_7 : Int32), I42_8 gs00_5 gs01_6 x7_7 → (gm ≤ x7_7 → gs01_6.toInt = pSt T v ib mq tn ip y.toInt) ∧ (¬ (gm ≤ x7_7) → ∃ (gT_13 : Nat → Nat → Int) (gNs_14 : Nat) (gNp_15 : Nat) (gip_16 : Nat) (gxx_17 : Int × Int), ((TOK gT_13 gNs_14 gNp_15 ∧ CT gT_13 gNs_14 gNp_15 ns np fu fd fi sz_ pt kd nd ∧ pq = nI gip_16 ∧ gip_16 < gNp_15 ∧ SOK gT_13 gNs_14 gs.toInt gxx_17 ∧ gs00_5.toInt = gxx_17.1 ∧ gs01_6.toInt = gxx_17.2) ∧ (∀ (sw2_19 : Int32) (sh2_20 : Int32), (sw2_19.toInt = (zSt gT_13 gip_16 gs.toInt gxx_17).1 ∧ sh2_20.toInt = (zSt gT_13 gip_16 gs.toInt gxx_17).2) → (I42_8 sw2_19 sh2_20 (x7_7 + 1) ∧ μ42_9 sw2_19 sh2_20 (x7_7 + 1) < μ42_9 gs00_5 gs01_6 x7_7)))))))) : MetI l yX2_heatBehind wsX2_heatBehind 3 70 G [.ref g, .ref t, .ref n, .int x, .int pq, .int y] [(g, .inr (2, [.ref s0, .ref g1, .ref g2, .ref g3, .int gs, .int gm, .int gb])), aI G g1 6 go, aI G g2 6 gz, aI G g3 256 gf, (s0, .inr (4, [.int sw, .int sh])), (t, .inr (6, [.int ns, .int np, .int fu, .int fd, .int fi, .ref t1, .ref t2, .ref t3, .ref t4, .ref t5, .ref t6])), aI G t1 9 sz_, aI G t2 9 pt, aI G t3 9 fh, aI G t4 8 kd, aI G t5 8 nd, aI G t6 8 fw, (n, .inr (1, [.ref n1, .ref n2, .ref n3, .ref n4, .ref n5, .ref n6, .ref n7, .int lo, .int mi, .int sd])), aI G n1 9 ht, aI G n2 8 wm, aI G n3 8 se, aI G n4 8 cd, aI G n5 8 sl, aI G n6 8 od, aI G n7 72 ow] sz (fun (r : Int32) (u : (Int32) × (Int32)) => r.toInt = pSt T v ib mq tn ip y.toInt) (fun (u : (Int32) × (Int32)) => [(g, .inr (2, [.ref s0, .ref g1, .ref g2, .ref g3, .int gs, .int gm, .int gb])), aI G g1 6 go, aI G g2 6 gz, aI G g3 256 gf, (s0, .inr (4, [.int u.1, .int u.2])), (t, .inr (6, [.int ns, .int np, .int fu, .int fd, .int fi, .ref t1, .ref t2, .ref t3, .ref t4, .ref t5, .ref t6])), aI G t1 9 sz_, aI G t2 9 pt, aI G t3 9 fh, aI G t4 8 kd, aI G t5 8 nd, aI G t6 8 fw, (n, .inr (1, [.ref n1, .ref n2, .ref n3, .ref n4, .ref n5, .ref n6, .ref n7, .int lo, .int mi, .int sd])), aI G n1 9 ht, aI G n2 8 wm, aI G n3 8 se, aI G n4 8 cd, aI G n5 8 sl, aI G n6 8 od, aI G n7 72 ow]) := by
  refine x_startI (cc := cX2_heatBehind) (maxL := 8) (ret := (some .int)) (by decide) rfl (Nat.le_of_ble_eq_true rfl) ?_
  intro p e s m args below meth c A R Q ls hRf hRl hQ C hP hD hS hA hSS hl
  obtain ⟨hx, hb, hr, hml, hown, hts, hlocks, hKK⟩ := C
  have hown : s.vm.findClass RX2 = some m.cls := hown
  have hl : lv_has ls 8 [(0, .ref g), (1, .ref t), (2, .ref n), (3, .int x), (4, .int pq), (5, .int y)] := hl
  have hinX1 : ∀ w ∈ u_ws RX1 TX1 10, w ∈ wsX2_heatBehind := by decide +kernel
  have hinX2 : ∀ w ∈ u_ws RX2 TX2 7, w ∈ wsX2_heatBehind := by decide +kernel
  have hinX4 : ∀ w ∈ u_ws RX4 TX4 2, w ∈ wsX2_heatBehind := by decide +kernel
  have kl12 := hts (.fieldLink RX2 12 "WarmStones$Passing" "sitting" "LWarmStones$Sitting;") (by decide +kernel)
  have kl28 := hts (.fieldLink RX2 28 "WarmStones$Passing" "stone" "I") (by decide +kernel)
  have kl32 := hts (.fieldLink RX2 32 "WarmStones$Passing" "minutes" "I") (by decide +kernel)
  have kl69 := hts (.fieldLink RX2 69 "WarmStones$Night" "warmth" "[I") (by decide +kernel)
  have kl72 := hts (.methodLink RX2 72 Lib.Math.max.name) (by decide +kernel)
  have kl86 := hts (.fieldLink RX2 86 "WarmStones$Sitting" "heat" "I") (by decide +kernel)
  have km_c_max := hts (.code Lib.Math.max.name Lib.Math.max.code 2 (some .int)) (by decide +kernel)
  have km_i := hts (.initialized "java/lang/Math") (by decide +kernel)
  have km_s_max := hts (.static Lib.Math.max.name) (by decide +kernel)
  refine lv_iload_n hx hb dX2_heatBehind_0 rfl (lv_at hl 3 rfl) ?_
  refine lv_aload_n hx hb dX2_heatBehind_1 rfl (lv_at hl 0 rfl) ?_
  refine va_get (D := G.1) (ci := 2) (v := .int gm) (C := RX2) (T := TX2) (N := 7) hx hb hts hinX2 hown hKK.1 hP 0 rfl rfl 5 (by decide) kl32 (fun _ h9 => h9) rfl dX2_heatBehind_2 ?_
  refine lv_imul hx hb dX2_heatBehind_5 ?_
  refine lv_aload_n hx hb dX2_heatBehind_6 rfl (lv_at hl 1 rfl) ?_
  refine lv_iload hx hb dX2_heatBehind_7 (lv_at hl 4 rfl) ?_
  refine lv_iconst (v := 0) hx hb dX2_heatBehind_9 (by decide) ?_
  obtain ⟨hp, hv⟩ := hv
  refine x_calliR (x_runV (As := [.int pq, .int 0]) (rest := [.int (x * gm)]) (n := 2) (C := RX6) (ci := 6) ⟨hx, hb, hml, hown, hts⟩ (k_X6_frostOn l G t t1 t2 t3 t4 t5 t6 _ ns np fu fd fi sz_ pt fh kd nd fw pq 0 hp) gX2_heatBehind_X6_frostOn rfl (by decide +kernel) ⟨Nat.le_trans (Nat.le_of_ble_eq_true rfl) hRf, Nat.le_trans (Nat.le_of_ble_eq_true rfl) hRl⟩ hKK hSS hS hA hP hD [5, 6, 7, 8, 9, 10, 11] (by decide) rfl rfl rfl 5 rfl rfl hl.1 rfl (Nat.le_of_ble_eq_true rfl) dX2_heatBehind_10) hP hD hS hA [5, 6, 7, 8, 9, 10, 11] rfl (fun r_1 _ H locs hw hP hS => ?_)
  replace hw := hw.symm; subst hw
  refine lv_imul hx hb dX2_heatBehind_13 ?_
  refine lv_istore (lv' := [(6, .int ((x * gm) * (frostI (kd pq.toNatClampNeg) fu fd 0))), (0, .ref g), (1, .ref t), (2, .ref n), (3, .int x), (4, .int pq), (5, .int y)]) hx hb dX2_heatBehind_14 hl (by decide) rfl (fun ls hl => ?_)
  refine lv_aload_n hx hb dX2_heatBehind_16 rfl (lv_at hl 1 rfl) ?_
  refine va_get (D := G.1) (ci := 2) (v := .ref s0) (C := RX2) (T := TX2) (N := 7) hx hb hts hinX2 hown hKK.1 hP 0 rfl rfl 0 (by decide) kl12 (fun _ h9 => h9) rfl dX2_heatBehind_17 ?_
  refine lv_iconst (v := 0) hx hb dX2_heatBehind_20 (by decide) ?_
  refine lv_aload_n hx hb dX2_heatBehind_21 rfl (lv_at hl 3 rfl) ?_
  refine va_get (D := G.1) (ci := 1) (v := .ref n2) (C := RX1) (T := TX1) (N := 10) hx hb hts hinX1 hown hKK.1 hP 12 rfl rfl 1 (by decide) kl69 (fun _ h9 => h9) rfl dX2_heatBehind_22 ?_
  refine lv_iload hx hb dX2_heatBehind_25 (lv_at hl 5 rfl) ?_
  obtain ⟨hin, hv⟩ := hv
  refine va_iald hx hb hKK.1 hP 14 0 rfl rfl hin dX2_heatBehind_27 ?_
  refine lv_iload hx hb dX2_heatBehind_28 (lv_at hl 0 rfl) ?_
  refine lv_isub hx hb dX2_heatBehind_30 ?_
  refine va_mmax hx hb (hml.trans hl.1.symm) hown kl72 km_s_max km_i km_c_max (Nat.le_trans (Nat.le_of_ble_eq_true rfl) hRf) (Nat.le_trans (Nat.le_of_ble_eq_true rfl) hRl) (Nat.zero_le _) (Nat.zero_le _) dX2_heatBehind_31 ?_
  refine lv_iload hx hb dX2_heatBehind_34 (lv_at hl 6 rfl) ?_
  refine x_callv (wr := [(g, .inr (2, [.ref s0, .ref g1, .ref g2, .ref g3, .int gs, .int gm, .int gb])), aI G g1 6 go, aI G g2 6 gz, aI G g3 256 gf, (t, .inr (6, [.int ns, .int np, .int fu, .int fd, .int fi, .ref t1, .ref t2, .ref t3, .ref t4, .ref t5, .ref t6])), aI G t1 9 sz_, aI G t2 9 pt, aI G t3 9 fh, aI G t4 8 kd, aI G t5 8 nd, aI G t6 8 fw, (n, .inr (1, [.ref n1, .ref n2, .ref n3, .ref n4, .ref n5, .ref n6, .ref n7, .int lo, .int mi, .int sd])), aI G n1 9 ht, aI G n2 8 wm, aI G n3 8 se, aI G n4 8 cd, aI G n5 8 sl, aI G n6 8 od, aI G n7 72 ow]) (w' := fun (u : (Int32) × (Int32)) => [(g, .inr (2, [.ref s0, .ref g1, .ref g2, .ref g3, .int gs, .int gm, .int gb])), aI G g1 6 go, aI G g2 6 gz, aI G g3 256 gf, (s0, .inr (4, [.int u.1, .int u.2])), (t, .inr (6, [.int ns, .int np, .int fu, .int fd, .int fi, .ref t1, .ref t2, .ref t3, .ref t4, .ref t5, .ref t6])), aI G t1 9 sz_, aI G t2 9 pt, aI G t3 9 fh, aI G t4 8 kd, aI G t5 8 nd, aI G t6 8 fw, (n, .inr (1, [.ref n1, .ref n2, .ref n3, .ref n4, .ref n5, .ref n6, .ref n7, .int lo, .int mi, .int sd])), aI G n1 9 ht, aI G n2 8 wm, aI G n3 8 se, aI G n4 8 cd, aI G n5 8 sl, aI G n6 8 od, aI G n7 72 ow]) (x_runV (As := [.int (if 0 < ((wm pq.toNatClampNeg) - ((x * gm) * (frostI (kd pq.toNatClampNeg) fu fd 0))) then ((wm pq.toNatClampNeg) - ((x * gm) * (frostI (kd pq.toNatClampNeg) fu fd 0))) else 0), .int y]) (rest := []) (n := 2) (C := RX4) (ci := 4) ⟨hx, hb, hml, hown, hts⟩ (k_X4_begin l G s0 _ sw sh (if 0 < ((wm pq.toNatClampNeg) - ((x * gm) * (frostI (kd pq.toNatClampNeg) fu fd 0))) then ((wm pq.toNatClampNeg) - ((x * gm) * (frostI (kd pq.toNatClampNeg) fu fd 0))) else 0) y) gX2_heatBehind_X4_begin rfl (by decide +kernel) ⟨Nat.le_trans (Nat.le_of_ble_eq_true rfl) hRf, Nat.le_trans (Nat.le_of_ble_eq_true rfl) hRl⟩ hKK hSS hS hA hP hD [4] (by decide) rfl rfl rfl 4 rfl rfl hl.1 rfl (Nat.le_of_ble_eq_true rfl) dX2_heatBehind_36) hP hD hS hA [4] [0, 1, 2, 3, 5, 6, 7, 8, 9, 10, 11, 12, 13, 14, 15, 16, 17, 18, 19] [0, 1, 2, 3, 19, 4, 5, 6, 7, 8, 9, 10, 11, 12, 13, 14, 15, 16, 17, 18] rfl rfl (by decide) (by decide) (by decide) (fun _ => rfl) (fun  u H locs hw hP hD hS => ?_)
  obtain ⟨sw2_3, sh2_4⟩ := u
  obtain ⟨hw0, hw1⟩ := hw
  replace hw0 := hw0.symm; subst hw0
  replace hw1 := hw1.symm; subst hw1
  have hP : va_P G.1 vwCl [(g, .inr (2, [.ref s0, .ref g1, .ref g2, .ref g3, .int gs, .int gm, .int gb])), aI G g1 6 go, aI G g2 6 gz, aI G g3 256 gf, (s0, .inr (4, [.int (if 0 < ((wm pq.toNatClampNeg) - ((x * gm) * (frostI (kd pq.toNatClampNeg) fu fd 0))) then ((wm pq.toNatClampNeg) - ((x * gm) * (frostI (kd pq.toNatClampNeg) fu fd 0))) else 0), .int y])), (t, .inr (6, [.int ns, .int np, .int fu, .int fd, .int fi, .ref t1, .ref t2, .ref t3, .ref t4, .ref t5, .ref t6])), aI G t1 9 sz_, aI G t2 9 pt, aI G t3 9 fh, aI G t4 8 kd, aI G t5 8 nd, aI G t6 8 fw, (n, .inr (1, [.ref n1, .ref n2, .ref n3, .ref n4, .ref n5, .ref n6, .ref n7, .int lo, .int mi, .int sd])), aI G n1 9 ht, aI G n2 8 wm, aI G n3 8 se, aI G n4 8 cd, aI G n5 8 sl, aI G n6 8 od, aI G n7 72 ow] H := hP
  have hD : va_D A [(g, .inr (2, [.ref s0, .ref g1, .ref g2, .ref g3, .int gs, .int gm, .int gb])), aI G g1 6 go, aI G g2 6 gz, aI G g3 256 gf, (s0, .inr (4, [.int (if 0 < ((wm pq.toNatClampNeg) - ((x * gm) * (frostI (kd pq.toNatClampNeg) fu fd 0))) then ((wm pq.toNatClampNeg) - ((x * gm) * (frostI (kd pq.toNatClampNeg) fu fd 0))) else 0), .int y])), (t, .inr (6, [.int ns, .int np, .int fu, .int fd, .int fi, .ref t1, .ref t2, .ref t3, .ref t4, .ref t5, .ref t6])), aI G t1 9 sz_, aI G t2 9 pt, aI G t3 9 fh, aI G t4 8 kd, aI G t5 8 nd, aI G t6 8 fw, (n, .inr (1, [.ref n1, .ref n2, .ref n3, .ref n4, .ref n5, .ref n6, .ref n7, .int lo, .int mi, .int sd])), aI G n1 9 ht, aI G n2 8 wm, aI G n3 8 se, aI G n4 8 cd, aI G n5 8 sl, aI G n6 8 od, aI G n7 72 ow] := hD
  refine lv_iconst (v := 0) hx hb dX2_heatBehind_39 (by decide) ?_
  refine lv_istore (lv' := [(7, .int 0), (6, .int ((x * gm) * (frostI (kd pq.toNatClampNeg) fu fd 0))), (0, .ref g), (1, .ref t), (2, .ref n), (3, .int x), (4, .int pq), (5, .int y)]) hx hb dX2_heatBehind_40 hl (by decide) rfl (fun ls hl => ?_)
  obtain ⟨I42_8, μ42_9, hi0, hs_21⟩ := hv
  have Lm_23 : ∀ (n_22 : Nat) (gs00_5 : Int32) (gs01_6 : Int32) (x7_7 : Int32) (H : Heap) (locs : List Loc) (ls : Array Slot), μ42_9 gs00_5 gs01_6 x7_7 < n_22 → I42_8 gs00_5 gs01_6 x7_7 → va_P G.1 vwCl [(g, .inr (2, [.ref s0, .ref g1, .ref g2, .ref g3, .int gs, .int gm, .int gb])), aI G g1 6 go, aI G g2 6 gz, aI G g3 256 gf, (s0, .inr (4, [.int gs00_5, .int gs01_6])), (t, .inr (6, [.int ns, .int np, .int fu, .int fd, .int fi, .ref t1, .ref t2, .ref t3, .ref t4, .ref t5, .ref t6])), aI G t1 9 sz_, aI G t2 9 pt, aI G t3 9 fh, aI G t4 8 kd, aI G t5 8 nd, aI G t6 8 fw, (n, .inr (1, [.ref n1, .ref n2, .ref n3, .ref n4, .ref n5, .ref n6, .ref n7, .int lo, .int mi, .int sd])), aI G n1 9 ht, aI G n2 8 wm, aI G n3 8 se, aI G n4 8 cd, aI G n5 8 sl, aI G n6 8 od, aI G n7 72 ow] H → va_D A [(g, .inr (2, [.ref s0, .ref g1, .ref g2, .ref g3, .int gs, .int gm, .int gb])), aI G g1 6 go, aI G g2 6 gz, aI G g3 256 gf, (s0, .inr (4, [.int gs00_5, .int gs01_6])), (t, .inr (6, [.int ns, .int np, .int fu, .int fd, .int fi, .ref t1, .ref t2, .ref t3, .ref t4, .ref t5, .ref t6])), aI G t1 9 sz_, aI G t2 9 pt, aI G t3 9 fh, aI G t4 8 kd, aI G t5 8 nd, aI G t6 8 fw, (n, .inr (1, [.ref n1, .ref n2, .ref n3, .ref n4, .ref n5, .ref n6, .ref n7, .int lo, .int mi, .int sd])), aI G n1 9 ht, aI G n2 8 wm, aI G n3 8 se, aI G n4 8 cd, aI G n5 8 sl, aI G n6 8 od, aI G n7 72 ow] → va_S A s.heap H locs → lv_has ls 8 [(7, .int x7_7), (6, .int ((x * gm) * (frostI (kd pq.toNatClampNeg) fu fd 0))), (0, .ref g), (1, .ref t), (2, .ref n), (3, .int x), (4, .int pq), (5, .int y)] → W p l e R s m args below meth c H locs 0 0 Q (F0 m 42 ls []) := by
    intro n_22
    induction n_22 with
    | zero => intro gs00_5 gs01_6 x7_7 H locs ls hm; exact absurd hm (Nat.not_lt_zero _)
    | succ n_22 ih_10 =>
      intro gs00_5 gs01_6 x7_7 H locs ls hI_11 hi hP hD hS hl
      have hv := hs_21 gs00_5 gs01_6 x7_7 hi
      refine lv_iload hx hb dX2_heatBehind_42 (lv_at hl 0 rfl) ?_
      refine lv_aload_n hx hb dX2_heatBehind_44 rfl (lv_at hl 2 rfl) ?_
      refine va_get (D := G.1) (ci := 2) (v := .int gm) (C := RX2) (T := TX2) (N := 7) hx hb hts hinX2 hown hKK.1 hP 0 rfl rfl 5 (by decide) kl32 (fun _ h9 => h9) rfl dX2_heatBehind_45 ?_
      refine lv_icmp_ge (tgt := 71) hx hb dX2_heatBehind_48 (by decide) (fun hc_12 => ?_) (fun hc_12 => ?_)
      · have hv := hv.1 hc_12
        refine lv_aload_n hx hb dX2_heatBehind_71 rfl (lv_at hl 2 rfl) ?_
        refine va_get (D := G.1) (ci := 2) (v := .ref s0) (C := RX2) (T := TX2) (N := 7) hx hb hts hinX2 hown hKK.1 hP 0 rfl rfl 0 (by decide) kl12 (fun _ h9 => h9) rfl dX2_heatBehind_72 ?_
        refine va_get (D := G.1) (ci := 4) (v := .int gs01_6) (C := RX4) (T := TX4) (N := 2) hx hb hts hinX4 hown hKK.1 hP 4 rfl rfl 1 (by decide) kl86 (fun _ h9 => h9) rfl dX2_heatBehind_75 ?_
        exact x_iret (v := gs01_6) (gs00_5, gs01_6) hQ hx hb hr hlocks hS dX2_heatBehind_78 hv hP hD
      · have hv := hv.2 hc_12
        refine lv_aload_n hx hb dX2_heatBehind_51 rfl (lv_at hl 2 rfl) ?_
        refine va_get (D := G.1) (ci := 2) (v := .ref s0) (C := RX2) (T := TX2) (N := 7) hx hb hts hinX2 hown hKK.1 hP 0 rfl rfl 0 (by decide) kl12 (fun _ h9 => h9) rfl dX2_heatBehind_52 ?_
        refine lv_aload_n hx hb dX2_heatBehind_55 rfl (lv_at hl 3 rfl) ?_
        refine lv_iload hx hb dX2_heatBehind_56 (lv_at hl 6 rfl) ?_
        refine lv_aload_n hx hb dX2_heatBehind_58 rfl (lv_at hl 2 rfl) ?_
        refine va_get (D := G.1) (ci := 2) (v := .int gs) (C := RX2) (T := TX2) (N := 7) hx hb hts hinX2 hown hKK.1 hP 0 rfl rfl 4 (by decide) kl28 (fun _ h9 => h9) rfl dX2_heatBehind_59 ?_
        obtain ⟨gT_13, gNs_14, gNp_15, gip_16, gxx_17, hv⟩ := hv
        obtain ⟨hp, hv⟩ := hv
        refine x_callv (wr := [(g, .inr (2, [.ref s0, .ref g1, .ref g2, .ref g3, .int gs, .int gm, .int gb])), aI G g1 6 go, aI G g2 6 gz, aI G g3 256 gf, (n, .inr (1, [.ref n1, .ref n2, .ref n3, .ref n4, .ref n5, .ref n6, .ref n7, .int lo, .int mi, .int sd])), aI G n1 9 ht, aI G n2 8 wm, aI G n3 8 se, aI G n4 8 cd, aI G n5 8 sl, aI G n6 8 od, aI G n7 72 ow]) (w' := fun (u : (Int32) × (Int32)) => [(g, .inr (2, [.ref s0, .ref g1, .ref g2, .ref g3, .int gs, .int gm, .int gb])), aI G g1 6 go, aI G g2 6 gz, aI G g3 256 gf, (s0, .inr (4, [.int u.1, .int u.2])), (t, .inr (6, [.int ns, .int np, .int fu, .int fd, .int fi, .ref t1, .ref t2, .ref t3, .ref t4, .ref t5, .ref t6])), aI G t1 9 sz_, aI G t2 9 pt, aI G t3 9 fh, aI G t4 8 kd, aI G t5 8 nd, aI G t6 8 fw, (n, .inr (1, [.ref n1, .ref n2, .ref n3, .ref n4, .ref n5, .ref n6, .ref n7, .int lo, .int mi, .int sd])), aI G n1 9 ht, aI G n2 8 wm, aI G n3 8 se, aI G n4 8 cd, aI G n5 8 sl, aI G n6 8 od, aI G n7 72 ow]) (x_runV (As := [.ref t, .int pq, .int gs]) (rest := []) (n := 3) (C := RX4) (ci := 4) ⟨hx, hb, hml, hown, hts⟩ (k_X4_passMinute l G s0 t t1 t2 t3 t4 t5 t6 _ gs00_5 gs01_6 ns np fu fd fi sz_ pt fh kd nd fw pq gs gT_13 gNs_14 gNp_15 gip_16 gxx_17 hp) gX2_heatBehind_X4_passMinute rfl (by decide +kernel) ⟨Nat.le_trans (Nat.le_of_ble_eq_true rfl) hRf, Nat.le_trans (Nat.le_of_ble_eq_true rfl) hRl⟩ hKK hSS hS hA hP hD [4, 5, 6, 7, 8, 9, 10, 11] (by decide) rfl rfl rfl 4 rfl rfl hl.1 rfl (Nat.le_of_ble_eq_true rfl) dX2_heatBehind_62) hP hD hS hA [4, 5, 6, 7, 8, 9, 10, 11] [0, 1, 2, 3, 12, 13, 14, 15, 16, 17, 18, 19] [0, 1, 2, 3, 12, 13, 14, 15, 16, 17, 18, 19, 4, 5, 6, 7, 8, 9, 10, 11] rfl rfl (by decide) (by decide) (by decide) (fun _ => rfl) (fun  u H locs hw hP hD hS => ?_)
        obtain ⟨sw2_19, sh2_20⟩ := u
        have hP : va_P G.1 vwCl [(g, .inr (2, [.ref s0, .ref g1, .ref g2, .ref g3, .int gs, .int gm, .int gb])), aI G g1 6 go, aI G g2 6 gz, aI G g3 256 gf, (s0, .inr (4, [.int sw2_19, .int sh2_20])), (t, .inr (6, [.int ns, .int np, .int fu, .int fd, .int fi, .ref t1, .ref t2, .ref t3, .ref t4, .ref t5, .ref t6])), aI G t1 9 sz_, aI G t2 9 pt, aI G t3 9 fh, aI G t4 8 kd, aI G t5 8 nd, aI G t6 8 fw, (n, .inr (1, [.ref n1, .ref n2, .ref n3, .ref n4, .ref n5, .ref n6, .ref n7, .int lo, .int mi, .int sd])), aI G n1 9 ht, aI G n2 8 wm, aI G n3 8 se, aI G n4 8 cd, aI G n5 8 sl, aI G n6 8 od, aI G n7 72 ow] H := hP
        have hD : va_D A [(g, .inr (2, [.ref s0, .ref g1, .ref g2, .ref g3, .int gs, .int gm, .int gb])), aI G g1 6 go, aI G g2 6 gz, aI G g3 256 gf, (s0, .inr (4, [.int sw2_19, .int sh2_20])), (t, .inr (6, [.int ns, .int np, .int fu, .int fd, .int fi, .ref t1, .ref t2, .ref t3, .ref t4, .ref t5, .ref t6])), aI G t1 9 sz_, aI G t2 9 pt, aI G t3 9 fh, aI G t4 8 kd, aI G t5 8 nd, aI G t6 8 fw, (n, .inr (1, [.ref n1, .ref n2, .ref n3, .ref n4, .ref n5, .ref n6, .ref n7, .int lo, .int mi, .int sd])), aI G n1 9 ht, aI G n2 8 wm, aI G n3 8 se, aI G n4 8 cd, aI G n5 8 sl, aI G n6 8 od, aI G n7 72 ow] := hD
        have hv := hv sw2_19 sh2_20 hw
        refine lv_iinc (v := (x7_7 + 1)) (lv' := [(7, .int (x7_7 + 1)), (6, .int ((x * gm) * (frostI (kd pq.toNatClampNeg) fu fd 0))), (0, .ref g), (1, .ref t), (2, .ref n), (3, .int x), (4, .int pq), (5, .int y)]) hx hb dX2_heatBehind_65 hl (k := 0) rfl rfl (by decide) rfl (fun ls hl => ?_)
        refine lv_goto (tgt := 42) hx hb dX2_heatBehind_68 (by decide) ?_
        exact ih_10 _ _ _ _ _ _ (Nat.lt_of_lt_of_le hv.2 (Nat.le_of_lt_succ hI_11)) hv.1 hP hD hS hl
  exact Lm_23 _ _ _ _ _ _ _ (Nat.lt_succ_self _) hi0 hP hD hS hl
theorem v_X2_heatBehind (l : Launch) (G : Gt) (g g1 g2 g3 s0 t t1 t2 t3 t4 t5 t6 n n1 n2 n3 n4 n5 n6 n7 : Nat) (sz : Nat) (gs : Int32) (gm : Int32) (gb : Int32) (go : Nat → Int32) (gz : Nat → Int32) (gf : Nat → Int32) (sw : Int32) (sh : Int32) (ns : Int32) (np : Int32) (fu : Int32) (fd : Int32) (fi : Int32) (sz_ : Nat → Int32) (pt : Nat → Int32) (fh : Nat → Int32) (kd : Nat → Int32) (nd : Nat → Int32) (fw : Nat → Int32) (ht : Nat → Int32) (wm : Nat → Int32) (se : Nat → Int32) (cd : Nat → Int32) (sl : Nat → Int32) (od : Nat → Int32) (ow : Nat → Int32) (lo : Int32) (mi : Int32) (sd : Int32) (x : Int32) (pq : Int32) (y : Int32) (T : Nat → Nat → Int) (Ns : Nat) (Np : Nat) (v : Nat → Int) (kk : Nat → Int) (M : Int) (ib : Nat) (mq : Nat) (tn : Nat) (ip : Nat) (hp : TOK T Ns Np ∧ CT T Ns Np ns np fu fd fi sz_ pt kd nd ∧ CN Ns Np v ht wm se cd sl od ow lo mi sd ∧ NOK T Ns Np kk M v ∧ gs = nI ib ∧ ib < Ns ∧ gm = nI mq ∧ mq ≤ 60 ∧ x = nI tn ∧ tn ≤ 6 ∧ pq = nI ip ∧ ip < Np ∧ 0 ≤ y.toInt ∧ y.toInt ≤ T 0 ib) : (vp_in pq 8) ∧ ((vp_in pq 8) ∧ (∃ (I42_8 : Int32 → Int32 → Int32 → Prop) (μ42_9 : Int32 → Int32 → Int32 → Nat), I42_8 (if 0 < ((wm pq.toNatClampNeg) - ((x * gm) * (frostI (kd pq.toNatClampNeg) fu fd 0))) then ((wm pq.toNatClampNeg) - ((x * gm) * (frostI (kd pq.toNatClampNeg) fu fd 0))) else 0) y 0 ∧ (∀ (gs00_5 : Int32) (gs01_6 : Int32) (x7_7 : Int32), I42_8 gs00_5 gs01_6 x7_7 → (gm ≤ x7_7 → gs01_6.toInt = pSt T v ib mq tn ip y.toInt) ∧ (¬ (gm ≤ x7_7) → ∃ (gT_13 : Nat → Nat → Int) (gNs_14 : Nat) (gNp_15 : Nat) (gip_16 : Nat) (gxx_17 : Int × Int), ((TOK gT_13 gNs_14 gNp_15 ∧ CT gT_13 gNs_14 gNp_15 ns np fu fd fi sz_ pt kd nd ∧ pq = nI gip_16 ∧ gip_16 < gNp_15 ∧ SOK gT_13 gNs_14 gs.toInt gxx_17 ∧ gs00_5.toInt = gxx_17.1 ∧ gs01_6.toInt = gxx_17.2) ∧ (∀ (sw2_19 : Int32) (sh2_20 : Int32), (sw2_19.toInt = (zSt gT_13 gip_16 gs.toInt gxx_17).1 ∧ sh2_20.toInt = (zSt gT_13 gip_16 gs.toInt gxx_17).2) → (I42_8 sw2_19 sh2_20 (x7_7 + 1) ∧ μ42_9 sw2_19 sh2_20 (x7_7 + 1) < μ42_9 gs00_5 gs01_6 x7_7))))))) := by
  obtain ⟨hT, hC, hN, hO, rfl, hib, rfl, hmq, rfl, htn, rfl, hip, hy0, hy1⟩ := hp
  have t1 := hT.1
  have t2 := hT.2.1
  have t5 := hT.2.2.2.2
  have a := vp_in_nI (n := ip) (N := 8) (by omega) (by omega)
  have ea : (nI ip).toNatClampNeg = ip := nI_clamp (by omega)
  simp only [ea]
  have eF : (frostI (kd ip) fu fd 0).toInt = frU T ip := frostI_Z (b := false) (hC.2.2.2.1 ip hip).1 hC.2.2.2.2.1 hC.2.2.2.2.2.1 rfl t5.1
  have fb := frU_bd hT ip
  have hm1 : tn * mq ≤ 6 * 60 := Nat.mul_le_mul htn hmq
  have hm2 : 0 ≤ ((tn * mq : Nat) : Int) * frU T ip := Int.mul_nonneg (by omega) fb.1
  have hm3 : ((tn * mq : Nat) : Int) * frU T ip ≤ 360 * 99 := Int.mul_le_mul (by omega) fb.2 fb.1 (by omega)
  have em : ((nI tn * nI mq) * (frostI (kd ip) fu fd 0)).toInt = ((tn * mq : Nat) : Int) * frU T ip := i_mul (by rw [pk_mul]; exact nI_toInt (by omega)) eF (by omega) (by omega)
  have ew := hN.w t2 hip
  have bw := (hO.2.1 ip hip).1
  have ed := i_sub ew em (by omega) (by omega)
  have es := i_if (i_lt i32_0 ed) ed i32_0
  have hsok := pSt_sok (t := tn) (m := mq) hT hO hip hib hy0 hy1
  have ebi : (nI ib).toInt = (ib : Int) := nI_toInt (by omega)
  refine ⟨a, a, fun a b z => ∃ i, i ≤ mq ∧ z = nI i ∧ a.toInt = (zSts T ip (ib : Int) (maxZ 0 (v (10 + ip) - ((tn * mq : Nat) : Int) * frU T ip), y.toInt) i).1 ∧ b.toInt = (zSts T ip (ib : Int) (maxZ 0 (v (10 + ip) - ((tn * mq : Nat) : Int) * frU T ip), y.toInt) i).2, fun _ _ z => 61 - z.toNatClampNeg, ⟨0, by omega, rfl, es, rfl⟩, ?_⟩
  rintro a b z ⟨i, hi, rfl, h1, h2⟩
  have ei : (nI i).toNatClampNeg = i := nI_clamp (by omega)
  have ei1 : nI i + 1 = nI (i + 1) := nI_1 i
  have ej : (nI (i + 1)).toNatClampNeg = i + 1 := nI_clamp (by omega)
  have hle : nI mq ≤ nI i ↔ mq ≤ i := nI_leI (by omega) (by omega)
  simp only [ei, ei1, ej, hle]
  refine ⟨fun q => ?_, fun q => ⟨T, Ns, Np, ip, _, ⟨hT, hC, rfl, hip, by rw [ebi]; exact zSts_ok hT hip hsok i, h1, h2⟩, fun s1 s2 hs => ⟨⟨i + 1, by omega, rfl, ?_, ?_⟩, by omega⟩⟩⟩
  · have e : i = mq := by omega
    subst e
    exact h2
  · rw [hs.1, ebi]; rfl
  · rw [hs.2, ebi]; rfl
theorem k_X2_heatBehind (l : Launch) (G : Gt) (g g1 g2 g3 s0 t t1 t2 t3 t4 t5 t6 n n1 n2 n3 n4 n5 n6 n7 : Nat) (sz : Nat) (gs : Int32) (gm : Int32) (gb : Int32) (go : Nat → Int32) (gz : Nat → Int32) (gf : Nat → Int32) (sw : Int32) (sh : Int32) (ns : Int32) (np : Int32) (fu : Int32) (fd : Int32) (fi : Int32) (sz_ : Nat → Int32) (pt : Nat → Int32) (fh : Nat → Int32) (kd : Nat → Int32) (nd : Nat → Int32) (fw : Nat → Int32) (ht : Nat → Int32) (wm : Nat → Int32) (se : Nat → Int32) (cd : Nat → Int32) (sl : Nat → Int32) (od : Nat → Int32) (ow : Nat → Int32) (lo : Int32) (mi : Int32) (sd : Int32) (x : Int32) (pq : Int32) (y : Int32) (T : Nat → Nat → Int) (Ns : Nat) (Np : Nat) (v : Nat → Int) (kk : Nat → Int) (M : Int) (ib : Nat) (mq : Nat) (tn : Nat) (ip : Nat) (hp : TOK T Ns Np ∧ CT T Ns Np ns np fu fd fi sz_ pt kd nd ∧ CN Ns Np v ht wm se cd sl od ow lo mi sd ∧ NOK T Ns Np kk M v ∧ gs = nI ib ∧ ib < Ns ∧ gm = nI mq ∧ mq ≤ 60 ∧ x = nI tn ∧ tn ≤ 6 ∧ pq = nI ip ∧ ip < Np ∧ 0 ≤ y.toInt ∧ y.toInt ≤ T 0 ib) : MetI l yX2_heatBehind wsX2_heatBehind 3 70 G [.ref g, .ref t, .ref n, .int x, .int pq, .int y] [(g, .inr (2, [.ref s0, .ref g1, .ref g2, .ref g3, .int gs, .int gm, .int gb])), aI G g1 6 go, aI G g2 6 gz, aI G g3 256 gf, (s0, .inr (4, [.int sw, .int sh])), (t, .inr (6, [.int ns, .int np, .int fu, .int fd, .int fi, .ref t1, .ref t2, .ref t3, .ref t4, .ref t5, .ref t6])), aI G t1 9 sz_, aI G t2 9 pt, aI G t3 9 fh, aI G t4 8 kd, aI G t5 8 nd, aI G t6 8 fw, (n, .inr (1, [.ref n1, .ref n2, .ref n3, .ref n4, .ref n5, .ref n6, .ref n7, .int lo, .int mi, .int sd])), aI G n1 9 ht, aI G n2 8 wm, aI G n3 8 se, aI G n4 8 cd, aI G n5 8 sl, aI G n6 8 od, aI G n7 72 ow] sz (fun (r : Int32) (u : (Int32) × (Int32)) => r.toInt = pSt T v ib mq tn ip y.toInt) (fun (u : (Int32) × (Int32)) => [(g, .inr (2, [.ref s0, .ref g1, .ref g2, .ref g3, .int gs, .int gm, .int gb])), aI G g1 6 go, aI G g2 6 gz, aI G g3 256 gf, (s0, .inr (4, [.int u.1, .int u.2])), (t, .inr (6, [.int ns, .int np, .int fu, .int fd, .int fi, .ref t1, .ref t2, .ref t3, .ref t4, .ref t5, .ref t6])), aI G t1 9 sz_, aI G t2 9 pt, aI G t3 9 fh, aI G t4 8 kd, aI G t5 8 nd, aI G t6 8 fw, (n, .inr (1, [.ref n1, .ref n2, .ref n3, .ref n4, .ref n5, .ref n6, .ref n7, .int lo, .int mi, .int sd])), aI G n1 9 ht, aI G n2 8 wm, aI G n3 8 se, aI G n4 8 cd, aI G n5 8 sl, aI G n6 8 od, aI G n7 72 ow]) :=
  c_X2_heatBehind l G g g1 g2 g3 s0 t t1 t2 t3 t4 t5 t6 n n1 n2 n3 n4 n5 n6 n7 sz gs gm gb go gz gf sw sh ns np fu fd fi sz_ pt fh kd nd fw ht wm se cd sl od ow lo mi sd x pq y T Ns Np v kk M ib mq tn ip (v_X2_heatBehind l G g g1 g2 g3 s0 t t1 t2 t3 t4 t5 t6 n n1 n2 n3 n4 n5 n6 n7 sz gs gm gb go gz gf sw sh ns np fu fd fi sz_ pt fh kd nd fw ht wm se cd sl od ow lo mi sd x pq y T Ns Np v kk M ib mq tn ip hp)

set_option maxHeartbeats 4000000 in
set_option maxRecDepth 100000 in
theorem c_X2_place (l : Launch) (G : Gt) (g g1 g2 g3 s0 t t1 t2 t3 t4 t5 t6 n n1 n2 n3 n4 n5 n6 n7 : Nat) (sz : Nat) (gs : Int32) (gm : Int32) (gb : Int32) (go : Nat → Int32) (gz : Nat → Int32) (gf : Nat → Int32) (sw : Int32) (sh : Int32) (ns : Int32) (np : Int32) (fu : Int32) (fd : Int32) (fi : Int32) (sz_ : Nat → Int32) (pt : Nat → Int32) (fh : Nat → Int32) (kd : Nat → Int32) (nd : Nat → Int32) (fw : Nat → Int32) (ht : Nat → Int32) (wm : Nat → Int32) (se : Nat → Int32) (cd : Nat → Int32) (sl : Nat → Int32) (od : Nat → Int32) (ow : Nat → Int32) (lo : Int32) (mi : Int32) (sd : Int32) (x : Int32) (lf : Int32) (y : Int32) (T : Nat → Nat → Int) (Ns : Nat) (Np : Nat) (v : Nat → Int) (kk : Nat → Int) (M : Int) (ib : Nat) (mq : Nat) (N0 : Nat) (nn : Nat) (lq : Nat) (tn : Nat) (pl : List Nat) (S : Option (Int × List Nat)) (d fr_ lo_ : Nat) (hfr : 4 ≤ fr_) (hlo : 97 ≤ lo_) (hrec : ∀ (sz : Nat) (gs : Int32) (gm : Int32) (gb : Int32) (go : Nat → Int32) (gz : Nat → Int32) (gf : Nat → Int32) (sw : Int32) (sh : Int32) (ns : Int32) (np : Int32) (fu : Int32) (fd : Int32) (fi : Int32) (sz_ : Nat → Int32) (pt : Nat → Int32) (fh : Nat → Int32) (kd : Nat → Int32) (nd : Nat → Int32) (fw : Nat → Int32) (ht : Nat → Int32) (wm : Nat → Int32) (se : Nat → Int32) (cd : Nat → Int32) (sl : Nat → Int32) (od : Nat → Int32) (ow : Nat → Int32) (lo : Int32) (mi : Int32) (sd : Int32) (x : Int32) (lf : Int32) (y : Int32) (T : Nat → Nat → Int) (Ns : Nat) (Np : Nat) (v : Nat → Int) (kk : Nat → Int) (M : Int) (ib : Nat) (mq : Nat) (N0 : Nat) (nn : Nat) (lq : Nat) (tn : Nat) (pl : List Nat) (S : Option (Int × List Nat)), TOK T Ns Np ∧ CT T Ns Np ns np fu fd fi sz_ pt kd nd ∧ CN Ns Np v ht wm se cd sl od ow lo mi sd ∧ NOK T Ns Np kk M v ∧ gs = nI ib ∧ ib < Ns ∧ gm = nI mq ∧ mq ≤ 60 ∧ lf = nI lq ∧ lq < 2 ^ Np ∧ cntA (mA lq) 8 = nn ∧ x = nI tn ∧ tn + nn = N0 ∧ N0 ≤ 6 ∧ 0 ≤ y.toInt ∧ y.toInt ≤ T 0 ib ∧ pl.length = tn ∧ (∀ k, k < tn → go k = nI (pl.getD k 0)) ∧ PRel N0 S gf gb gz ∧ (∀ L, L < 256 → subM L lq → PInv T v ib mq N0 gf S L) ∧ nn < d → MetV l yX2_place wsX2_place fr_ lo_ G [.ref g, .ref t, .ref n, .int x, .int lf, .int y] [(g, .inr (2, [.ref s0, .ref g1, .ref g2, .ref g3, .int gs, .int gm, .int gb])), aI G g1 6 go, aI G g2 6 gz, aI G g3 256 gf, (s0, .inr (4, [.int sw, .int sh])), (t, .inr (6, [.int ns, .int np, .int fu, .int fd, .int fi, .ref t1, .ref t2, .ref t3, .ref t4, .ref t5, .ref t6])), aI G t1 9 sz_, aI G t2 9 pt, aI G t3 9 fh, aI G t4 8 kd, aI G t5 8 nd, aI G t6 8 fw, (n, .inr (1, [.ref n1, .ref n2, .ref n3, .ref n4, .ref n5, .ref n6, .ref n7, .int lo, .int mi, .int sd])), aI G n1 9 ht, aI G n2 8 wm, aI G n3 8 se, aI G n4 8 cd, aI G n5 8 sl, aI G n6 8 od, aI G n7 72 ow] sz (fun (u : (Nat → Int32) × (Nat → Int32) × (Nat → Int32) × (Int32) × (Int32) × (Int32)) => (PRel N0 (dP T v ib mq nn (mA lq) tn y.toInt pl S) u.2.2.1 u.2.2.2.1 u.2.1 ∧ (∀ k, k < tn → u.1 k = go k) ∧ (∀ L, L < 256 → ¬ subM L lq → u.2.2.1 L = gf L) ∧ (∀ L, L < 256 → subM L lq → PInv T v ib mq N0 u.2.2.1 (dP T v ib mq nn (mA lq) tn y.toInt pl S) L))) (fun (u : (Nat → Int32) × (Nat → Int32) × (Nat → Int32) × (Int32) × (Int32) × (Int32)) => [(g, .inr (2, [.ref s0, .ref g1, .ref g2, .ref g3, .int gs, .int gm, .int u.2.2.2.1])), aI G g1 6 u.1, aI G g2 6 u.2.1, aI G g3 256 u.2.2.1, (s0, .inr (4, [.int u.2.2.2.2.1, .int u.2.2.2.2.2])), (t, .inr (6, [.int ns, .int np, .int fu, .int fd, .int fi, .ref t1, .ref t2, .ref t3, .ref t4, .ref t5, .ref t6])), aI G t1 9 sz_, aI G t2 9 pt, aI G t3 9 fh, aI G t4 8 kd, aI G t5 8 nd, aI G t6 8 fw, (n, .inr (1, [.ref n1, .ref n2, .ref n3, .ref n4, .ref n5, .ref n6, .ref n7, .int lo, .int mi, .int sd])), aI G n1 9 ht, aI G n2 8 wm, aI G n3 8 se, aI G n4 8 cd, aI G n5 8 sl, aI G n6 8 od, aI G n7 72 ow])) (hv : (lf < 0 → (PRel N0 (dP T v ib mq nn (mA lq) tn y.toInt pl S) gf gb gz ∧ (∀ k, k < tn → go k = go k) ∧ (∀ L, L < 256 → ¬ subM L lq → gf L = gf L) ∧ (∀ L, L < 256 → subM L lq → PInv T v ib mq N0 gf (dP T v ib mq nn (mA lq) tn y.toInt pl S) L))) ∧ (¬ (lf < 0) → (256 ≤ lf → (PRel N0 (dP T v ib mq nn (mA lq) tn y.toInt pl S) gf gb gz ∧ (∀ k, k < tn → go k = go k) ∧ (∀ L, L < 256 → ¬ subM L lq → gf L = gf L) ∧ (∀ L, L < 256 → subM L lq → PInv T v ib mq N0 gf (dP T v ib mq nn (mA lq) tn y.toInt pl S) L))) ∧ (¬ (256 ≤ lf) → (vp_in lf 256) ∧ (((gf lf.toNatClampNeg) < y → (vp_in lf 256) ∧ ((lf = 0 → (PRel N0 (dP T v ib mq nn (mA lq) tn y.toInt pl S) (upd gf lf.toNatClampNeg y) y (va_cpy go gz 0 0 6) ∧ (∀ k, k < tn → go k = go k) ∧ (∀ L, L < 256 → ¬ subM L lq → (upd gf lf.toNatClampNeg y) L = gf L) ∧ (∀ L, L < 256 → subM L lq → PInv T v ib mq N0 (upd gf lf.toNatClampNeg y) (dP T v ib mq nn (mA lq) tn y.toInt pl S) L))) ∧ (¬ (lf = 0) → (x < 6 → ∃ (I58_16 : (Nat → Int32) → (Nat → Int32) → (Nat → Int32) → Int32 → Int32 → Int32 → Int32 → Prop) (μ58_17 : (Nat → Int32) → (Nat → Int32) → (Nat → Int32) → Int32 → Int32 → Int32 → Int32 → Nat), I58_16 go gz (upd gf lf.toNatClampNeg y) gb sw sh 0 ∧ (∀ (fg1_9 : (Nat → Int32)) (fg2_10 : (Nat → Int32)) (fg3_11 : (Nat → Int32)) (gg6_12 : Int32) (gs00_13 : Int32) (gs01_14 : Int32) (x6_15 : Int32), I58_16 fg1_9 fg2_10 fg3_11 gg6_12 gs00_13 gs01_14 x6_15 → (np ≤ x6_15 → (PRel N0 (dP T v ib mq nn (mA lq) tn y.toInt pl S) fg3_11 gg6_12 fg2_10 ∧ (∀ k, k < tn → fg1_9 k = go k) ∧ (∀ L, L < 256 → ¬ subM L lq → fg3_11 L = gf L) ∧ (∀ L, L < 256 → subM L lq → PInv T v ib mq N0 fg3_11 (dP T v ib mq nn (mA lq) tn y.toInt pl S) L))) ∧ (¬ (np ≤ x6_15) → (((lf >>> (x6_15 &&& 31)) &&& 1) = 0 → I58_16 fg1_9 fg2_10 fg3_11 gg6_12 gs00_13 gs01_14 (x6_15 + 1) ∧ μ58_17 fg1_9 fg2_10 fg3_11 gg6_12 gs00_13 gs01_14 (x6_15 + 1) < μ58_17 fg1_9 fg2_10 fg3_11 gg6_12 gs00_13 gs01_14 x6_15) ∧ (¬ (((lf >>> (x6_15 &&& 31)) &&& 1) = 0) → (vp_in x 6) ∧ (∃ (gT_22 : Nat → Nat → Int) (gNs_23 : Nat) (gNp_24 : Nat) (gv_25 : Nat → Int) (gkk_26 : Nat → Int) (gM_27 : Int) (gib_28 : Nat) (gmq_29 : Nat) (gtn_30 : Nat) (gip_31 : Nat), ((TOK gT_22 gNs_23 gNp_24 ∧ CT gT_22 gNs_23 gNp_24 ns np fu fd fi sz_ pt kd nd ∧ CN gNs_23 gNp_24 gv_25 ht wm se cd sl od ow lo mi sd ∧ NOK gT_22 gNs_23 gNp_24 gkk_26 gM_27 gv_25 ∧ gs = nI gib_28 ∧ gib_28 < gNs_23 ∧ gm = nI gmq_29 ∧ gmq_29 ≤ 60 ∧ x = nI gtn_30 ∧ gtn_30 ≤ 6 ∧ x6_15 = nI gip_31 ∧ gip_31 < gNp_24 ∧ 0 ≤ y.toInt ∧ y.toInt ≤ gT_22 0 gib_28) ∧ (∀ (r_32 : Int32) (sw2_33 : Int32) (sh2_34 : Int32), (r_32.toInt = pSt gT_22 gv_25 gib_28 gmq_29 gtn_30 gip_31 y.toInt) → (∃ (gT_35 : Nat → Nat → Int) (gNs_36 : Nat) (gNp_37 : Nat) (gv_38 : Nat → Int) (gkk_39 : Nat → Int) (gM_40 : Int) (gib_41 : Nat) (gmq_42 : Nat) (gN0_43 : Nat) (gnn_44 : Nat) (glq_45 : Nat) (gtn_46 : Nat) (gpl_47 : List Nat) (gS_48 : Option (Int × List Nat)), ((TOK gT_35 gNs_36 gNp_37 ∧ CT gT_35 gNs_36 gNp_37 ns np fu fd fi sz_ pt kd nd ∧ CN gNs_36 gNp_37 gv_38 ht wm se cd sl od ow lo mi sd ∧ NOK gT_35 gNs_36 gNp_37 gkk_39 gM_40 gv_38 ∧ gs = nI gib_41 ∧ gib_41 < gNs_36 ∧ gm = nI gmq_42 ∧ gmq_42 ≤ 60 ∧ (lf &&& (((1 : Int32) <<< (x6_15 &&& 31)) ^^^ (-1))) = nI glq_45 ∧ glq_45 < 2 ^ gNp_37 ∧ cntA (mA glq_45) 8 = gnn_44 ∧ (x + 1) = nI gtn_46 ∧ gtn_46 + gnn_44 = gN0_43 ∧ gN0_43 ≤ 6 ∧ 0 ≤ r_32.toInt ∧ r_32.toInt ≤ gT_35 0 gib_41 ∧ gpl_47.length = gtn_46 ∧ (∀ k, k < gtn_46 → (upd fg1_9 x.toNatClampNeg x6_15) k = nI (gpl_47.getD k 0)) ∧ PRel gN0_43 gS_48 fg3_11 gg6_12 fg2_10 ∧ (∀ L, L < 256 → subM L glq_45 → PInv gT_35 gv_38 gib_41 gmq_42 gN0_43 fg3_11 gS_48 L) ∧ gnn_44 < d) ∧ (∀ (go2_50 : Nat → Int32) (gz2_51 : Nat → Int32) (gf2_52 : Nat → Int32) (gb2_53 : Int32) (sw2_54 : Int32) (sh2_55 : Int32), ((PRel gN0_43 (dP gT_35 gv_38 gib_41 gmq_42 gnn_44 (mA glq_45) gtn_46 r_32.toInt gpl_47 gS_48) gf2_52 gb2_53 gz2_51 ∧ (∀ k, k < gtn_46 → go2_50 k = (upd fg1_9 x.toNatClampNeg x6_15) k) ∧ (∀ L, L < 256 → ¬ subM L glq_45 → gf2_52 L = fg3_11 L) ∧ (∀ L, L < 256 → subM L glq_45 → PInv gT_35 gv_38 gib_41 gmq_42 gN0_43 gf2_52 (dP gT_35 gv_38 gib_41 gmq_42 gnn_44 (mA glq_45) gtn_46 r_32.toInt gpl_47 gS_48) L))) → (I58_16 go2_50 gz2_51 gf2_52 gb2_53 sw2_54 sh2_55 (x6_15 + 1) ∧ μ58_17 go2_50 gz2_51 gf2_52 gb2_53 sw2_54 sh2_55 (x6_15 + 1) < μ58_17 fg1_9 fg2_10 fg3_11 gg6_12 gs00_13 gs01_14 x6_15))))))))))) ∧ (¬ (x < 6) → (PRel N0 (dP T v ib mq nn (mA lq) tn y.toInt pl S) (upd gf lf.toNatClampNeg y) y (va_cpy go gz 0 0 6) ∧ (∀ k, k < tn → go k = go k) ∧ (∀ L, L < 256 → ¬ subM L lq → (upd gf lf.toNatClampNeg y) L = gf L) ∧ (∀ L, L < 256 → subM L lq → PInv T v ib mq N0 (upd gf lf.toNatClampNeg y) (dP T v ib mq nn (mA lq) tn y.toInt pl S) L)))))) ∧ (¬ ((gf lf.toNatClampNeg) < y) → (PRel N0 (dP T v ib mq nn (mA lq) tn y.toInt pl S) gf gb gz ∧ (∀ k, k < tn → go k = go k) ∧ (∀ L, L < 256 → ¬ subM L lq → gf L = gf L) ∧ (∀ L, L < 256 → subM L lq → PInv T v ib mq N0 gf (dP T v ib mq nn (mA lq) tn y.toInt pl S) L))))))) : MetV l yX2_place wsX2_place (fr_ + 1) (lo_ + 26) G [.ref g, .ref t, .ref n, .int x, .int lf, .int y] [(g, .inr (2, [.ref s0, .ref g1, .ref g2, .ref g3, .int gs, .int gm, .int gb])), aI G g1 6 go, aI G g2 6 gz, aI G g3 256 gf, (s0, .inr (4, [.int sw, .int sh])), (t, .inr (6, [.int ns, .int np, .int fu, .int fd, .int fi, .ref t1, .ref t2, .ref t3, .ref t4, .ref t5, .ref t6])), aI G t1 9 sz_, aI G t2 9 pt, aI G t3 9 fh, aI G t4 8 kd, aI G t5 8 nd, aI G t6 8 fw, (n, .inr (1, [.ref n1, .ref n2, .ref n3, .ref n4, .ref n5, .ref n6, .ref n7, .int lo, .int mi, .int sd])), aI G n1 9 ht, aI G n2 8 wm, aI G n3 8 se, aI G n4 8 cd, aI G n5 8 sl, aI G n6 8 od, aI G n7 72 ow] sz (fun (u : (Nat → Int32) × (Nat → Int32) × (Nat → Int32) × (Int32) × (Int32) × (Int32)) => (PRel N0 (dP T v ib mq nn (mA lq) tn y.toInt pl S) u.2.2.1 u.2.2.2.1 u.2.1 ∧ (∀ k, k < tn → u.1 k = go k) ∧ (∀ L, L < 256 → ¬ subM L lq → u.2.2.1 L = gf L) ∧ (∀ L, L < 256 → subM L lq → PInv T v ib mq N0 u.2.2.1 (dP T v ib mq nn (mA lq) tn y.toInt pl S) L))) (fun (u : (Nat → Int32) × (Nat → Int32) × (Nat → Int32) × (Int32) × (Int32) × (Int32)) => [(g, .inr (2, [.ref s0, .ref g1, .ref g2, .ref g3, .int gs, .int gm, .int u.2.2.2.1])), aI G g1 6 u.1, aI G g2 6 u.2.1, aI G g3 256 u.2.2.1, (s0, .inr (4, [.int u.2.2.2.2.1, .int u.2.2.2.2.2])), (t, .inr (6, [.int ns, .int np, .int fu, .int fd, .int fi, .ref t1, .ref t2, .ref t3, .ref t4, .ref t5, .ref t6])), aI G t1 9 sz_, aI G t2 9 pt, aI G t3 9 fh, aI G t4 8 kd, aI G t5 8 nd, aI G t6 8 fw, (n, .inr (1, [.ref n1, .ref n2, .ref n3, .ref n4, .ref n5, .ref n6, .ref n7, .int lo, .int mi, .int sd])), aI G n1 9 ht, aI G n2 8 wm, aI G n3 8 se, aI G n4 8 cd, aI G n5 8 sl, aI G n6 8 od, aI G n7 72 ow]) := by
  refine x_startV (cc := cX2_place) (maxL := 7) (ret := none) (by decide) rfl (Nat.le_of_ble_eq_true rfl) ?_
  intro p e s m args below meth c A R Q ls hRf hRl hQ C hP hD hS hA hSS hl
  obtain ⟨hx, hb, hr, hml, hown, hts, hlocks, hKK⟩ := C
  have hown : s.vm.findClass RX2 = some m.cls := hown
  have hl : lv_has ls 7 [(0, .ref g), (1, .ref t), (2, .ref n), (3, .int x), (4, .int lf), (5, .int y)] := hl
  have hinX2 : ∀ w ∈ u_ws RX2 TX2 7, w ∈ wsX2_place := by decide +kernel
  have hinX6 : ∀ w ∈ u_ws RX6 TX6 11, w ∈ wsX2_place := by decide +kernel
  have kl18 := hts (.fieldLink RX2 18 "WarmStones$Passing" "order" "[I") (by decide +kernel)
  have kl25 := hts (.fieldLink RX2 25 "WarmStones$Passing" "followed" "[I") (by decide +kernel)
  have kl56 := hts (.fieldLink RX2 56 "WarmStones$Town" "persons" "I") (by decide +kernel)
  refine lv_iload hx hb dX2_place_0 (lv_at hl 4 rfl) ?_
  refine lv_if_lt (tgt := 27) hx hb dX2_place_2 (by decide) (fun hc_1 => ?_) (fun hc_1 => ?_)
  · have hv := hv.1 hc_1
    exact x_vret (go, gz, gf, gb, sw, sh) hQ hx hb hr hlocks hS dX2_place_27 hv hP hD
  · have hv := hv.2 hc_1
    refine lv_iload hx hb dX2_place_5 (lv_at hl 4 rfl) ?_
    refine lv_aload_n hx hb dX2_place_7 rfl (lv_at hl 0 rfl) ?_
    refine va_get (D := G.1) (ci := 2) (v := .ref g3) (C := RX2) (T := TX2) (N := 7) hx hb hts hinX2 hown hKK.1 hP 0 rfl rfl 3 (by decide) kl25 (fun _ h9 => h9) rfl dX2_place_8 ?_
    refine va_alen (v := 256) hx hb hKK.1 hP 3 0 rfl rfl rfl dX2_place_11 ?_
    refine lv_icmp_ge (tgt := 27) hx hb dX2_place_12 (by decide) (fun hc_2 => ?_) (fun hc_2 => ?_)
    · have hv := hv.1 hc_2
      exact x_vret (go, gz, gf, gb, sw, sh) hQ hx hb hr hlocks hS dX2_place_27 hv hP hD
    · have hv := hv.2 hc_2
      refine lv_iload hx hb dX2_place_15 (lv_at hl 5 rfl) ?_
      refine lv_aload_n hx hb dX2_place_17 rfl (lv_at hl 0 rfl) ?_
      refine va_get (D := G.1) (ci := 2) (v := .ref g3) (C := RX2) (T := TX2) (N := 7) hx hb hts hinX2 hown hKK.1 hP 0 rfl rfl 3 (by decide) kl25 (fun _ h9 => h9) rfl dX2_place_18 ?_
      refine lv_iload hx hb dX2_place_21 (lv_at hl 4 rfl) ?_
      obtain ⟨hin, hv⟩ := hv
      refine va_iald hx hb hKK.1 hP 3 0 rfl rfl hin dX2_place_23 ?_
      refine lv_icmp_gt (tgt := 28) hx hb dX2_place_24 (by decide) (fun hc_3 => ?_) (fun hc_3 => ?_)
      · have hv := hv.1 hc_3
        refine lv_aload_n hx hb dX2_place_28 rfl (lv_at hl 0 rfl) ?_
        refine va_get (D := G.1) (ci := 2) (v := .ref g3) (C := RX2) (T := TX2) (N := 7) hx hb hts hinX2 hown hKK.1 hP 0 rfl rfl 3 (by decide) kl25 (fun _ h9 => h9) rfl dX2_place_29 ?_
        refine lv_iload hx hb dX2_place_32 (lv_at hl 4 rfl) ?_
        refine lv_iload hx hb dX2_place_34 (lv_at hl 5 rfl) ?_
        obtain ⟨hin, hv⟩ := hv
        refine va_iast hx hb hKK.1 hP hD hS 3 0 rfl rfl hin dX2_place_36 (fun H locs hP hD hS => ?_)
        have hP : va_P G.1 vwCl [(g, .inr (2, [.ref s0, .ref g1, .ref g2, .ref g3, .int gs, .int gm, .int gb])), aI G g1 6 go, aI G g2 6 gz, aI G g3 256 (upd gf lf.toNatClampNeg y), (s0, .inr (4, [.int sw, .int sh])), (t, .inr (6, [.int ns, .int np, .int fu, .int fd, .int fi, .ref t1, .ref t2, .ref t3, .ref t4, .ref t5, .ref t6])), aI G t1 9 sz_, aI G t2 9 pt, aI G t3 9 fh, aI G t4 8 kd, aI G t5 8 nd, aI G t6 8 fw, (n, .inr (1, [.ref n1, .ref n2, .ref n3, .ref n4, .ref n5, .ref n6, .ref n7, .int lo, .int mi, .int sd])), aI G n1 9 ht, aI G n2 8 wm, aI G n3 8 se, aI G n4 8 cd, aI G n5 8 sl, aI G n6 8 od, aI G n7 72 ow] H := hP
        have hD : va_D A [(g, .inr (2, [.ref s0, .ref g1, .ref g2, .ref g3, .int gs, .int gm, .int gb])), aI G g1 6 go, aI G g2 6 gz, aI G g3 256 (upd gf lf.toNatClampNeg y), (s0, .inr (4, [.int sw, .int sh])), (t, .inr (6, [.int ns, .int np, .int fu, .int fd, .int fi, .ref t1, .ref t2, .ref t3, .ref t4, .ref t5, .ref t6])), aI G t1 9 sz_, aI G t2 9 pt, aI G t3 9 fh, aI G t4 8 kd, aI G t5 8 nd, aI G t6 8 fw, (n, .inr (1, [.ref n1, .ref n2, .ref n3, .ref n4, .ref n5, .ref n6, .ref n7, .int lo, .int mi, .int sd])), aI G n1 9 ht, aI G n2 8 wm, aI G n3 8 se, aI G n4 8 cd, aI G n5 8 sl, aI G n6 8 od, aI G n7 72 ow] := hD
        refine lv_iload hx hb dX2_place_37 (lv_at hl 4 rfl) ?_
        refine lv_if_eq (tgt := 48) hx hb dX2_place_39 (by decide) (fun hc_4 => ?_) (fun hc_4 => ?_)
        · have hv := hv.1 hc_4
          refine lv_aload_n hx hb dX2_place_48 rfl (lv_at hl 0 rfl) ?_
          refine lv_iload hx hb dX2_place_49 (lv_at hl 5 rfl) ?_
          refine x_callv (wr := [(s0, .inr (4, [.int sw, .int sh])), (t, .inr (6, [.int ns, .int np, .int fu, .int fd, .int fi, .ref t1, .ref t2, .ref t3, .ref t4, .ref t5, .ref t6])), aI G t1 9 sz_, aI G t2 9 pt, aI G t3 9 fh, aI G t4 8 kd, aI G t5 8 nd, aI G t6 8 fw, (n, .inr (1, [.ref n1, .ref n2, .ref n3, .ref n4, .ref n5, .ref n6, .ref n7, .int lo, .int mi, .int sd])), aI G n1 9 ht, aI G n2 8 wm, aI G n3 8 se, aI G n4 8 cd, aI G n5 8 sl, aI G n6 8 od, aI G n7 72 ow]) (w' := fun (u : (Nat → Int32) × (Int32)) => [(g, .inr (2, [.ref s0, .ref g1, .ref g2, .ref g3, .int gs, .int gm, .int u.2])), aI G g1 6 go, aI G g2 6 u.1, aI G g3 256 (upd gf lf.toNatClampNeg y), (s0, .inr (4, [.int sw, .int sh])), (t, .inr (6, [.int ns, .int np, .int fu, .int fd, .int fi, .ref t1, .ref t2, .ref t3, .ref t4, .ref t5, .ref t6])), aI G t1 9 sz_, aI G t2 9 pt, aI G t3 9 fh, aI G t4 8 kd, aI G t5 8 nd, aI G t6 8 fw, (n, .inr (1, [.ref n1, .ref n2, .ref n3, .ref n4, .ref n5, .ref n6, .ref n7, .int lo, .int mi, .int sd])), aI G n1 9 ht, aI G n2 8 wm, aI G n3 8 se, aI G n4 8 cd, aI G n5 8 sl, aI G n6 8 od, aI G n7 72 ow]) (x_runV (As := [.int y]) (rest := []) (n := 1) (C := RX2) (ci := 2) ⟨hx, hb, hml, hown, hts⟩ (k_X2_keepBest l G g g1 g2 g3 _ s0 gs gm gb go gz (upd gf lf.toNatClampNeg y) y) gX2_place_X2_keepBest rfl (by decide +kernel) ⟨by omega, by omega⟩ hKK hSS hS hA hP hD [0, 1, 2, 3] (by decide) rfl rfl rfl 0 rfl rfl hl.1 rfl (Nat.le_of_ble_eq_true rfl) dX2_place_51) hP hD hS hA [0, 1, 2, 3] [4, 5, 6, 7, 8, 9, 10, 11, 12, 13, 14, 15, 16, 17, 18, 19] [16, 17, 18, 19, 0, 1, 2, 3, 4, 5, 6, 7, 8, 9, 10, 11, 12, 13, 14, 15] rfl rfl (by decide) (by decide) (by decide) (fun _ => rfl) (fun  u H locs hw hP hD hS => ?_)
          obtain ⟨gz2_6, gb2_7⟩ := u
          obtain ⟨hw0, hw1⟩ := hw
          replace hw0 := hw0.symm; subst hw0
          replace hw1 := hw1.symm; subst hw1
          have hP : va_P G.1 vwCl [(g, .inr (2, [.ref s0, .ref g1, .ref g2, .ref g3, .int gs, .int gm, .int y])), aI G g1 6 go, aI G g2 6 (va_cpy go gz 0 0 6), aI G g3 256 (upd gf lf.toNatClampNeg y), (s0, .inr (4, [.int sw, .int sh])), (t, .inr (6, [.int ns, .int np, .int fu, .int fd, .int fi, .ref t1, .ref t2, .ref t3, .ref t4, .ref t5, .ref t6])), aI G t1 9 sz_, aI G t2 9 pt, aI G t3 9 fh, aI G t4 8 kd, aI G t5 8 nd, aI G t6 8 fw, (n, .inr (1, [.ref n1, .ref n2, .ref n3, .ref n4, .ref n5, .ref n6, .ref n7, .int lo, .int mi, .int sd])), aI G n1 9 ht, aI G n2 8 wm, aI G n3 8 se, aI G n4 8 cd, aI G n5 8 sl, aI G n6 8 od, aI G n7 72 ow] H := hP
          have hD : va_D A [(g, .inr (2, [.ref s0, .ref g1, .ref g2, .ref g3, .int gs, .int gm, .int y])), aI G g1 6 go, aI G g2 6 (va_cpy go gz 0 0 6), aI G g3 256 (upd gf lf.toNatClampNeg y), (s0, .inr (4, [.int sw, .int sh])), (t, .inr (6, [.int ns, .int np, .int fu, .int fd, .int fi, .ref t1, .ref t2, .ref t3, .ref t4, .ref t5, .ref t6])), aI G t1 9 sz_, aI G t2 9 pt, aI G t3 9 fh, aI G t4 8 kd, aI G t5 8 nd, aI G t6 8 fw, (n, .inr (1, [.ref n1, .ref n2, .ref n3, .ref n4, .ref n5, .ref n6, .ref n7, .int lo, .int mi, .int sd])), aI G n1 9 ht, aI G n2 8 wm, aI G n3 8 se, aI G n4 8 cd, aI G n5 8 sl, aI G n6 8 od, aI G n7 72 ow] := hD
          exact x_vret (go, (va_cpy go gz 0 0 6), (upd gf lf.toNatClampNeg y), y, sw, sh) hQ hx hb hr hlocks hS dX2_place_54 hv hP hD
        · have hv := hv.2 hc_4
          refine lv_iload_n hx hb dX2_place_42 rfl (lv_at hl 3 rfl) ?_
          refine lv_bipush (v := 6) hx hb dX2_place_43 (by decide) ?_
          refine lv_icmp_lt (tgt := 55) hx hb dX2_place_45 (by decide) (fun hc_8 => ?_) (fun hc_8 => ?_)
          · have hv := hv.1 hc_8
            refine lv_iconst (v := 0) hx hb dX2_place_55 (by decide) ?_
            refine lv_istore (lv' := [(6, .int 0), (0, .ref g), (1, .ref t), (2, .ref n), (3, .int x), (4, .int lf), (5, .int y)]) hx hb dX2_place_56 hl (by decide) rfl (fun ls hl => ?_)
            obtain ⟨I58_16, μ58_17, hi0, hs_56⟩ := hv
            have Lm_58 : ∀ (n_57 : Nat) (fg1_9 : (Nat → Int32)) (fg2_10 : (Nat → Int32)) (fg3_11 : (Nat → Int32)) (gg6_12 : Int32) (gs00_13 : Int32) (gs01_14 : Int32) (x6_15 : Int32) (H : Heap) (locs : List Loc) (ls : Array Slot), μ58_17 fg1_9 fg2_10 fg3_11 gg6_12 gs00_13 gs01_14 x6_15 < n_57 → I58_16 fg1_9 fg2_10 fg3_11 gg6_12 gs00_13 gs01_14 x6_15 → va_P G.1 vwCl [(g, .inr (2, [.ref s0, .ref g1, .ref g2, .ref g3, .int gs, .int gm, .int gg6_12])), aI G g1 6 fg1_9, aI G g2 6 fg2_10, aI G g3 256 fg3_11, (s0, .inr (4, [.int gs00_13, .int gs01_14])), (t, .inr (6, [.int ns, .int np, .int fu, .int fd, .int fi, .ref t1, .ref t2, .ref t3, .ref t4, .ref t5, .ref t6])), aI G t1 9 sz_, aI G t2 9 pt, aI G t3 9 fh, aI G t4 8 kd, aI G t5 8 nd, aI G t6 8 fw, (n, .inr (1, [.ref n1, .ref n2, .ref n3, .ref n4, .ref n5, .ref n6, .ref n7, .int lo, .int mi, .int sd])), aI G n1 9 ht, aI G n2 8 wm, aI G n3 8 se, aI G n4 8 cd, aI G n5 8 sl, aI G n6 8 od, aI G n7 72 ow] H → va_D A [(g, .inr (2, [.ref s0, .ref g1, .ref g2, .ref g3, .int gs, .int gm, .int gg6_12])), aI G g1 6 fg1_9, aI G g2 6 fg2_10, aI G g3 256 fg3_11, (s0, .inr (4, [.int gs00_13, .int gs01_14])), (t, .inr (6, [.int ns, .int np, .int fu, .int fd, .int fi, .ref t1, .ref t2, .ref t3, .ref t4, .ref t5, .ref t6])), aI G t1 9 sz_, aI G t2 9 pt, aI G t3 9 fh, aI G t4 8 kd, aI G t5 8 nd, aI G t6 8 fw, (n, .inr (1, [.ref n1, .ref n2, .ref n3, .ref n4, .ref n5, .ref n6, .ref n7, .int lo, .int mi, .int sd])), aI G n1 9 ht, aI G n2 8 wm, aI G n3 8 se, aI G n4 8 cd, aI G n5 8 sl, aI G n6 8 od, aI G n7 72 ow] → va_S A s.heap H locs → lv_has ls 7 [(6, .int x6_15), (0, .ref g), (1, .ref t), (2, .ref n), (3, .int x), (4, .int lf), (5, .int y)] → W p l e R s m args below meth c H locs 0 0 Q (F0 m 58 ls []) := by
              intro n_57
              induction n_57 with
              | zero => intro fg1_9 fg2_10 fg3_11 gg6_12 gs00_13 gs01_14 x6_15 H locs ls hm; exact absurd hm (Nat.not_lt_zero _)
              | succ n_57 ih_18 =>
                intro fg1_9 fg2_10 fg3_11 gg6_12 gs00_13 gs01_14 x6_15 H locs ls hI_19 hi hP hD hS hl
                have hv := hs_56 fg1_9 fg2_10 fg3_11 gg6_12 gs00_13 gs01_14 x6_15 hi
                refine lv_iload hx hb dX2_place_58 (lv_at hl 0 rfl) ?_
                refine lv_aload_n hx hb dX2_place_60 rfl (lv_at hl 2 rfl) ?_
                refine va_get (D := G.1) (ci := 6) (v := .int np) (C := RX6) (T := TX6) (N := 11) hx hb hts hinX6 hown hKK.1 hP 5 rfl rfl 1 (by decide) kl56 (fun _ h9 => h9) rfl dX2_place_61 ?_
                refine lv_icmp_ge (tgt := 120) hx hb dX2_place_64 (by decide) (fun hc_20 => ?_) (fun hc_20 => ?_)
                · have hv := hv.1 hc_20
                  exact x_vret (fg1_9, fg2_10, fg3_11, gg6_12, gs00_13, gs01_14) hQ hx hb hr hlocks hS dX2_place_120 hv hP hD
                · have hv := hv.2 hc_20
                  refine lv_iload hx hb dX2_place_67 (lv_at hl 5 rfl) ?_
                  refine lv_iload hx hb dX2_place_69 (lv_at hl 0 rfl) ?_
                  refine lv_ishr hx hb dX2_place_71 ?_
                  refine lv_iconst (v := 1) hx hb dX2_place_72 (by decide) ?_
                  refine lv_iand hx hb dX2_place_73 ?_
                  refine lv_if_eq (tgt := 114) hx hb dX2_place_74 (by decide) (fun hc_21 => ?_) (fun hc_21 => ?_)
                  · have hv := hv.1 hc_21
                    refine lv_iinc (v := (x6_15 + 1)) (lv' := [(6, .int (x6_15 + 1)), (0, .ref g), (1, .ref t), (2, .ref n), (3, .int x), (4, .int lf), (5, .int y)]) hx hb dX2_place_114 hl (k := 0) rfl rfl (by decide) rfl (fun ls hl => ?_)
                    refine lv_goto (tgt := 58) hx hb dX2_place_117 (by decide) ?_
                    exact ih_18 _ _ _ _ _ _ _ _ _ _ (Nat.lt_of_lt_of_le hv.2 (Nat.le_of_lt_succ hI_19)) hv.1 hP hD hS hl
                  · have hv := hv.2 hc_21
                    refine lv_aload_n hx hb dX2_place_77 rfl (lv_at hl 1 rfl) ?_
                    refine va_get (D := G.1) (ci := 2) (v := .ref g1) (C := RX2) (T := TX2) (N := 7) hx hb hts hinX2 hown hKK.1 hP 0 rfl rfl 1 (by decide) kl18 (fun _ h9 => h9) rfl dX2_place_78 ?_
                    refine lv_iload_n hx hb dX2_place_81 rfl (lv_at hl 4 rfl) ?_
                    refine lv_iload hx hb dX2_place_82 (lv_at hl 0 rfl) ?_
                    obtain ⟨hin, hv⟩ := hv
                    refine va_iast hx hb hKK.1 hP hD hS 1 0 rfl rfl hin dX2_place_84 (fun H locs hP hD hS => ?_)
                    have hP : va_P G.1 vwCl [(g, .inr (2, [.ref s0, .ref g1, .ref g2, .ref g3, .int gs, .int gm, .int gg6_12])), aI G g1 6 (upd fg1_9 x.toNatClampNeg x6_15), aI G g2 6 fg2_10, aI G g3 256 fg3_11, (s0, .inr (4, [.int gs00_13, .int gs01_14])), (t, .inr (6, [.int ns, .int np, .int fu, .int fd, .int fi, .ref t1, .ref t2, .ref t3, .ref t4, .ref t5, .ref t6])), aI G t1 9 sz_, aI G t2 9 pt, aI G t3 9 fh, aI G t4 8 kd, aI G t5 8 nd, aI G t6 8 fw, (n, .inr (1, [.ref n1, .ref n2, .ref n3, .ref n4, .ref n5, .ref n6, .ref n7, .int lo, .int mi, .int sd])), aI G n1 9 ht, aI G n2 8 wm, aI G n3 8 se, aI G n4 8 cd, aI G n5 8 sl, aI G n6 8 od, aI G n7 72 ow] H := hP
                    have hD : va_D A [(g, .inr (2, [.ref s0, .ref g1, .ref g2, .ref g3, .int gs, .int gm, .int gg6_12])), aI G g1 6 (upd fg1_9 x.toNatClampNeg x6_15), aI G g2 6 fg2_10, aI G g3 256 fg3_11, (s0, .inr (4, [.int gs00_13, .int gs01_14])), (t, .inr (6, [.int ns, .int np, .int fu, .int fd, .int fi, .ref t1, .ref t2, .ref t3, .ref t4, .ref t5, .ref t6])), aI G t1 9 sz_, aI G t2 9 pt, aI G t3 9 fh, aI G t4 8 kd, aI G t5 8 nd, aI G t6 8 fw, (n, .inr (1, [.ref n1, .ref n2, .ref n3, .ref n4, .ref n5, .ref n6, .ref n7, .int lo, .int mi, .int sd])), aI G n1 9 ht, aI G n2 8 wm, aI G n3 8 se, aI G n4 8 cd, aI G n5 8 sl, aI G n6 8 od, aI G n7 72 ow] := hD
                    refine lv_aload_n hx hb dX2_place_85 rfl (lv_at hl 1 rfl) ?_
                    refine lv_aload_n hx hb dX2_place_86 rfl (lv_at hl 2 rfl) ?_
                    refine lv_aload_n hx hb dX2_place_87 rfl (lv_at hl 3 rfl) ?_
                    refine lv_iload_n hx hb dX2_place_88 rfl (lv_at hl 4 rfl) ?_
                    refine lv_iconst (v := 1) hx hb dX2_place_89 (by decide) ?_
                    refine lv_iadd hx hb dX2_place_90 ?_
                    refine lv_iload hx hb dX2_place_91 (lv_at hl 5 rfl) ?_
                    refine lv_iconst (v := 1) hx hb dX2_place_93 (by decide) ?_
                    refine lv_iload hx hb dX2_place_94 (lv_at hl 0 rfl) ?_
                    refine lv_ishl hx hb dX2_place_96 ?_
                    refine lv_iconst (v := (-1)) hx hb dX2_place_97 (by decide) ?_
                    refine lv_ixor hx hb dX2_place_98 ?_
                    refine lv_iand hx hb dX2_place_99 ?_
                    refine lv_aload_n hx hb dX2_place_100 rfl (lv_at hl 1 rfl) ?_
                    refine lv_aload_n hx hb dX2_place_101 rfl (lv_at hl 2 rfl) ?_
                    refine lv_aload_n hx hb dX2_place_102 rfl (lv_at hl 3 rfl) ?_
                    refine lv_iload_n hx hb dX2_place_103 rfl (lv_at hl 4 rfl) ?_
                    refine lv_iload hx hb dX2_place_104 (lv_at hl 0 rfl) ?_
                    refine lv_iload hx hb dX2_place_106 (lv_at hl 6 rfl) ?_
                    obtain ⟨gT_22, gNs_23, gNp_24, gv_25, gkk_26, gM_27, gib_28, gmq_29, gtn_30, gip_31, hv⟩ := hv
                    obtain ⟨hp, hv⟩ := hv
                    refine x_calli (wr := []) (w' := fun (u : (Int32) × (Int32)) => [(g, .inr (2, [.ref s0, .ref g1, .ref g2, .ref g3, .int gs, .int gm, .int gg6_12])), aI G g1 6 (upd fg1_9 x.toNatClampNeg x6_15), aI G g2 6 fg2_10, aI G g3 256 fg3_11, (s0, .inr (4, [.int u.1, .int u.2])), (t, .inr (6, [.int ns, .int np, .int fu, .int fd, .int fi, .ref t1, .ref t2, .ref t3, .ref t4, .ref t5, .ref t6])), aI G t1 9 sz_, aI G t2 9 pt, aI G t3 9 fh, aI G t4 8 kd, aI G t5 8 nd, aI G t6 8 fw, (n, .inr (1, [.ref n1, .ref n2, .ref n3, .ref n4, .ref n5, .ref n6, .ref n7, .int lo, .int mi, .int sd])), aI G n1 9 ht, aI G n2 8 wm, aI G n3 8 se, aI G n4 8 cd, aI G n5 8 sl, aI G n6 8 od, aI G n7 72 ow]) (x_runV (As := [.ref t, .ref n, .int x, .int x6_15, .int y]) (rest := [.int (lf &&& (((1 : Int32) <<< (x6_15 &&& 31)) ^^^ (-1))), .int (x + 1), .ref n, .ref t, .ref g]) (n := 5) (C := RX2) (ci := 2) ⟨hx, hb, hml, hown, hts⟩ (k_X2_heatBehind l G g g1 g2 g3 s0 t t1 t2 t3 t4 t5 t6 n n1 n2 n3 n4 n5 n6 n7 _ gs gm gg6_12 (upd fg1_9 x.toNatClampNeg x6_15) fg2_10 fg3_11 gs00_13 gs01_14 ns np fu fd fi sz_ pt fh kd nd fw ht wm se cd sl od ow lo mi sd x x6_15 y gT_22 gNs_23 gNp_24 gv_25 gkk_26 gM_27 gib_28 gmq_29 gtn_30 gip_31 hp) gX2_place_X2_heatBehind rfl (by decide +kernel) ⟨by omega, by omega⟩ hKK hSS hS hA hP hD [0, 1, 2, 3, 4, 5, 6, 7, 8, 9, 10, 11, 12, 13, 14, 15, 16, 17, 18, 19] (by decide) rfl rfl rfl 0 rfl rfl hl.1 rfl (Nat.le_of_ble_eq_true rfl) dX2_place_108) hP hD hS hA [0, 1, 2, 3, 4, 5, 6, 7, 8, 9, 10, 11, 12, 13, 14, 15, 16, 17, 18, 19] [] [0, 1, 2, 3, 4, 5, 6, 7, 8, 9, 10, 11, 12, 13, 14, 15, 16, 17, 18, 19] rfl rfl (by decide) (by decide) (by decide) (fun _ => rfl) (fun r_32 u H locs hw hP hD hS => ?_)
                    obtain ⟨sw2_33, sh2_34⟩ := u
                    have hP : va_P G.1 vwCl [(g, .inr (2, [.ref s0, .ref g1, .ref g2, .ref g3, .int gs, .int gm, .int gg6_12])), aI G g1 6 (upd fg1_9 x.toNatClampNeg x6_15), aI G g2 6 fg2_10, aI G g3 256 fg3_11, (s0, .inr (4, [.int sw2_33, .int sh2_34])), (t, .inr (6, [.int ns, .int np, .int fu, .int fd, .int fi, .ref t1, .ref t2, .ref t3, .ref t4, .ref t5, .ref t6])), aI G t1 9 sz_, aI G t2 9 pt, aI G t3 9 fh, aI G t4 8 kd, aI G t5 8 nd, aI G t6 8 fw, (n, .inr (1, [.ref n1, .ref n2, .ref n3, .ref n4, .ref n5, .ref n6, .ref n7, .int lo, .int mi, .int sd])), aI G n1 9 ht, aI G n2 8 wm, aI G n3 8 se, aI G n4 8 cd, aI G n5 8 sl, aI G n6 8 od, aI G n7 72 ow] H := hP
                    have hD : va_D A [(g, .inr (2, [.ref s0, .ref g1, .ref g2, .ref g3, .int gs, .int gm, .int gg6_12])), aI G g1 6 (upd fg1_9 x.toNatClampNeg x6_15), aI G g2 6 fg2_10, aI G g3 256 fg3_11, (s0, .inr (4, [.int sw2_33, .int sh2_34])), (t, .inr (6, [.int ns, .int np, .int fu, .int fd, .int fi, .ref t1, .ref t2, .ref t3, .ref t4, .ref t5, .ref t6])), aI G t1 9 sz_, aI G t2 9 pt, aI G t3 9 fh, aI G t4 8 kd, aI G t5 8 nd, aI G t6 8 fw, (n, .inr (1, [.ref n1, .ref n2, .ref n3, .ref n4, .ref n5, .ref n6, .ref n7, .int lo, .int mi, .int sd])), aI G n1 9 ht, aI G n2 8 wm, aI G n3 8 se, aI G n4 8 cd, aI G n5 8 sl, aI G n6 8 od, aI G n7 72 ow] := hD
                    have hv := hv r_32 sw2_33 sh2_34 hw
                    obtain ⟨gT_35, gNs_36, gNp_37, gv_38, gkk_39, gM_40, gib_41, gmq_42, gN0_43, gnn_44, glq_45, gtn_46, gpl_47, gS_48, hv⟩ := hv
                    obtain ⟨hp, hv⟩ := hv
                    refine x_callv (wr := []) (w' := fun (u : (Nat → Int32) × (Nat → Int32) × (Nat → Int32) × (Int32) × (Int32) × (Int32)) => [(g, .inr (2, [.ref s0, .ref g1, .ref g2, .ref g3, .int gs, .int gm, .int u.2.2.2.1])), aI G g1 6 u.1, aI G g2 6 u.2.1, aI G g3 256 u.2.2.1, (s0, .inr (4, [.int u.2.2.2.2.1, .int u.2.2.2.2.2])), (t, .inr (6, [.int ns, .int np, .int fu, .int fd, .int fi, .ref t1, .ref t2, .ref t3, .ref t4, .ref t5, .ref t6])), aI G t1 9 sz_, aI G t2 9 pt, aI G t3 9 fh, aI G t4 8 kd, aI G t5 8 nd, aI G t6 8 fw, (n, .inr (1, [.ref n1, .ref n2, .ref n3, .ref n4, .ref n5, .ref n6, .ref n7, .int lo, .int mi, .int sd])), aI G n1 9 ht, aI G n2 8 wm, aI G n3 8 se, aI G n4 8 cd, aI G n5 8 sl, aI G n6 8 od, aI G n7 72 ow]) (x_runV (As := [.ref t, .ref n, .int (x + 1), .int (lf &&& (((1 : Int32) <<< (x6_15 &&& 31)) ^^^ (-1))), .int r_32]) (rest := []) (n := 5) (C := RX2) (ci := 2) ⟨hx, hb, hml, hown, hts⟩ (hrec _ gs gm gg6_12 (upd fg1_9 x.toNatClampNeg x6_15) fg2_10 fg3_11 sw2_33 sh2_34 ns np fu fd fi sz_ pt fh kd nd fw ht wm se cd sl od ow lo mi sd (x + 1) (lf &&& (((1 : Int32) <<< (x6_15 &&& 31)) ^^^ (-1))) r_32 gT_35 gNs_36 gNp_37 gv_38 gkk_39 gM_40 gib_41 gmq_42 gN0_43 gnn_44 glq_45 gtn_46 gpl_47 gS_48 hp) gX2_place_X2_place rfl (by decide +kernel) ⟨by omega, by omega⟩ hKK hSS hS hA hP hD [0, 1, 2, 3, 4, 5, 6, 7, 8, 9, 10, 11, 12, 13, 14, 15, 16, 17, 18, 19] (by decide) rfl rfl rfl 0 rfl rfl hl.1 rfl (Nat.le_of_ble_eq_true rfl) dX2_place_111) hP hD hS hA [0, 1, 2, 3, 4, 5, 6, 7, 8, 9, 10, 11, 12, 13, 14, 15, 16, 17, 18, 19] [] [0, 1, 2, 3, 4, 5, 6, 7, 8, 9, 10, 11, 12, 13, 14, 15, 16, 17, 18, 19] rfl rfl (by decide) (by decide) (by decide) (fun _ => rfl) (fun  u H locs hw hP hD hS => ?_)
                    obtain ⟨go2_50, gz2_51, gf2_52, gb2_53, sw2_54, sh2_55⟩ := u
                    have hP : va_P G.1 vwCl [(g, .inr (2, [.ref s0, .ref g1, .ref g2, .ref g3, .int gs, .int gm, .int gb2_53])), aI G g1 6 go2_50, aI G g2 6 gz2_51, aI G g3 256 gf2_52, (s0, .inr (4, [.int sw2_54, .int sh2_55])), (t, .inr (6, [.int ns, .int np, .int fu, .int fd, .int fi, .ref t1, .ref t2, .ref t3, .ref t4, .ref t5, .ref t6])), aI G t1 9 sz_, aI G t2 9 pt, aI G t3 9 fh, aI G t4 8 kd, aI G t5 8 nd, aI G t6 8 fw, (n, .inr (1, [.ref n1, .ref n2, .ref n3, .ref n4, .ref n5, .ref n6, .ref n7, .int lo, .int mi, .int sd])), aI G n1 9 ht, aI G n2 8 wm, aI G n3 8 se, aI G n4 8 cd, aI G n5 8 sl, aI G n6 8 od, aI G n7 72 ow] H := hP
                    have hD : va_D A [(g, .inr (2, [.ref s0, .ref g1, .ref g2, .ref g3, .int gs, .int gm, .int gb2_53])), aI G g1 6 go2_50, aI G g2 6 gz2_51, aI G g3 256 gf2_52, (s0, .inr (4, [.int sw2_54, .int sh2_55])), (t, .inr (6, [.int ns, .int np, .int fu, .int fd, .int fi, .ref t1, .ref t2, .ref t3, .ref t4, .ref t5, .ref t6])), aI G t1 9 sz_, aI G t2 9 pt, aI G t3 9 fh, aI G t4 8 kd, aI G t5 8 nd, aI G t6 8 fw, (n, .inr (1, [.ref n1, .ref n2, .ref n3, .ref n4, .ref n5, .ref n6, .ref n7, .int lo, .int mi, .int sd])), aI G n1 9 ht, aI G n2 8 wm, aI G n3 8 se, aI G n4 8 cd, aI G n5 8 sl, aI G n6 8 od, aI G n7 72 ow] := hD
                    have hv := hv go2_50 gz2_51 gf2_52 gb2_53 sw2_54 sh2_55 hw
                    refine lv_iinc (v := (x6_15 + 1)) (lv' := [(6, .int (x6_15 + 1)), (0, .ref g), (1, .ref t), (2, .ref n), (3, .int x), (4, .int lf), (5, .int y)]) hx hb dX2_place_114 hl (k := 0) rfl rfl (by decide) rfl (fun ls hl => ?_)
                    refine lv_goto (tgt := 58) hx hb dX2_place_117 (by decide) ?_
                    exact ih_18 _ _ _ _ _ _ _ _ _ _ (Nat.lt_of_lt_of_le hv.2 (Nat.le_of_lt_succ hI_19)) hv.1 hP hD hS hl
            exact Lm_58 _ _ _ _ _ _ _ _ _ _ _ (Nat.lt_succ_self _) hi0 hP hD hS hl
          · have hv := hv.2 hc_8
            refine lv_aload_n hx hb dX2_place_48 rfl (lv_at hl 0 rfl) ?_
            refine lv_iload hx hb dX2_place_49 (lv_at hl 5 rfl) ?_
            refine x_callv (wr := [(s0, .inr (4, [.int sw, .int sh])), (t, .inr (6, [.int ns, .int np, .int fu, .int fd, .int fi, .ref t1, .ref t2, .ref t3, .ref t4, .ref t5, .ref t6])), aI G t1 9 sz_, aI G t2 9 pt, aI G t3 9 fh, aI G t4 8 kd, aI G t5 8 nd, aI G t6 8 fw, (n, .inr (1, [.ref n1, .ref n2, .ref n3, .ref n4, .ref n5, .ref n6, .ref n7, .int lo, .int mi, .int sd])), aI G n1 9 ht, aI G n2 8 wm, aI G n3 8 se, aI G n4 8 cd, aI G n5 8 sl, aI G n6 8 od, aI G n7 72 ow]) (w' := fun (u : (Nat → Int32) × (Int32)) => [(g, .inr (2, [.ref s0, .ref g1, .ref g2, .ref g3, .int gs, .int gm, .int u.2])), aI G g1 6 go, aI G g2 6 u.1, aI G g3 256 (upd gf lf.toNatClampNeg y), (s0, .inr (4, [.int sw, .int sh])), (t, .inr (6, [.int ns, .int np, .int fu, .int fd, .int fi, .ref t1, .ref t2, .ref t3, .ref t4, .ref t5, .ref t6])), aI G t1 9 sz_, aI G t2 9 pt, aI G t3 9 fh, aI G t4 8 kd, aI G t5 8 nd, aI G t6 8 fw, (n, .inr (1, [.ref n1, .ref n2, .ref n3, .ref n4, .ref n5, .ref n6, .ref n7, .int lo, .int mi, .int sd])), aI G n1 9 ht, aI G n2 8 wm, aI G n3 8 se, aI G n4 8 cd, aI G n5 8 sl, aI G n6 8 od, aI G n7 72 ow]) (x_runV (As := [.int y]) (rest := []) (n := 1) (C := RX2) (ci := 2) ⟨hx, hb, hml, hown, hts⟩ (k_X2_keepBest l G g g1 g2 g3 _ s0 gs gm gb go gz (upd gf lf.toNatClampNeg y) y) gX2_place_X2_keepBest rfl (by decide +kernel) ⟨by omega, by omega⟩ hKK hSS hS hA hP hD [0, 1, 2, 3] (by decide) rfl rfl rfl 0 rfl rfl hl.1 rfl (Nat.le_of_ble_eq_true rfl) dX2_place_51) hP hD hS hA [0, 1, 2, 3] [4, 5, 6, 7, 8, 9, 10, 11, 12, 13, 14, 15, 16, 17, 18, 19] [16, 17, 18, 19, 0, 1, 2, 3, 4, 5, 6, 7, 8, 9, 10, 11, 12, 13, 14, 15] rfl rfl (by decide) (by decide) (by decide) (fun _ => rfl) (fun  u H locs hw hP hD hS => ?_)
            obtain ⟨gz2_60, gb2_61⟩ := u
            obtain ⟨hw0, hw1⟩ := hw
            replace hw0 := hw0.symm; subst hw0
            replace hw1 := hw1.symm; subst hw1
            have hP : va_P G.1 vwCl [(g, .inr (2, [.ref s0, .ref g1, .ref g2, .ref g3, .int gs, .int gm, .int y])), aI G g1 6 go, aI G g2 6 (va_cpy go gz 0 0 6), aI G g3 256 (upd gf lf.toNatClampNeg y), (s0, .inr (4, [.int sw, .int sh])), (t, .inr (6, [.int ns, .int np, .int fu, .int fd, .int fi, .ref t1, .ref t2, .ref t3, .ref t4, .ref t5, .ref t6])), aI G t1 9 sz_, aI G t2 9 pt, aI G t3 9 fh, aI G t4 8 kd, aI G t5 8 nd, aI G t6 8 fw, (n, .inr (1, [.ref n1, .ref n2, .ref n3, .ref n4, .ref n5, .ref n6, .ref n7, .int lo, .int mi, .int sd])), aI G n1 9 ht, aI G n2 8 wm, aI G n3 8 se, aI G n4 8 cd, aI G n5 8 sl, aI G n6 8 od, aI G n7 72 ow] H := hP
            have hD : va_D A [(g, .inr (2, [.ref s0, .ref g1, .ref g2, .ref g3, .int gs, .int gm, .int y])), aI G g1 6 go, aI G g2 6 (va_cpy go gz 0 0 6), aI G g3 256 (upd gf lf.toNatClampNeg y), (s0, .inr (4, [.int sw, .int sh])), (t, .inr (6, [.int ns, .int np, .int fu, .int fd, .int fi, .ref t1, .ref t2, .ref t3, .ref t4, .ref t5, .ref t6])), aI G t1 9 sz_, aI G t2 9 pt, aI G t3 9 fh, aI G t4 8 kd, aI G t5 8 nd, aI G t6 8 fw, (n, .inr (1, [.ref n1, .ref n2, .ref n3, .ref n4, .ref n5, .ref n6, .ref n7, .int lo, .int mi, .int sd])), aI G n1 9 ht, aI G n2 8 wm, aI G n3 8 se, aI G n4 8 cd, aI G n5 8 sl, aI G n6 8 od, aI G n7 72 ow] := hD
            exact x_vret (go, (va_cpy go gz 0 0 6), (upd gf lf.toNatClampNeg y), y, sw, sh) hQ hx hb hr hlocks hS dX2_place_54 hv hP hD
      · have hv := hv.2 hc_3
        exact x_vret (go, gz, gf, gb, sw, sh) hQ hx hb hr hlocks hS dX2_place_27 hv hP hD
theorem v_X2_place (l : Launch) (G : Gt) (g g1 g2 g3 s0 t t1 t2 t3 t4 t5 t6 n n1 n2 n3 n4 n5 n6 n7 : Nat) (sz : Nat) (gs : Int32) (gm : Int32) (gb : Int32) (go : Nat → Int32) (gz : Nat → Int32) (gf : Nat → Int32) (sw : Int32) (sh : Int32) (ns : Int32) (np : Int32) (fu : Int32) (fd : Int32) (fi : Int32) (sz_ : Nat → Int32) (pt : Nat → Int32) (fh : Nat → Int32) (kd : Nat → Int32) (nd : Nat → Int32) (fw : Nat → Int32) (ht : Nat → Int32) (wm : Nat → Int32) (se : Nat → Int32) (cd : Nat → Int32) (sl : Nat → Int32) (od : Nat → Int32) (ow : Nat → Int32) (lo : Int32) (mi : Int32) (sd : Int32) (x : Int32) (lf : Int32) (y : Int32) (T : Nat → Nat → Int) (Ns : Nat) (Np : Nat) (v : Nat → Int) (kk : Nat → Int) (M : Int) (ib : Nat) (mq : Nat) (N0 : Nat) (nn : Nat) (lq : Nat) (tn : Nat) (pl : List Nat) (S : Option (Int × List Nat)) (d : Nat) (hp : TOK T Ns Np ∧ CT T Ns Np ns np fu fd fi sz_ pt kd nd ∧ CN Ns Np v ht wm se cd sl od ow lo mi sd ∧ NOK T Ns Np kk M v ∧ gs = nI ib ∧ ib < Ns ∧ gm = nI mq ∧ mq ≤ 60 ∧ lf = nI lq ∧ lq < 2 ^ Np ∧ cntA (mA lq) 8 = nn ∧ x = nI tn ∧ tn + nn = N0 ∧ N0 ≤ 6 ∧ 0 ≤ y.toInt ∧ y.toInt ≤ T 0 ib ∧ pl.length = tn ∧ (∀ k, k < tn → go k = nI (pl.getD k 0)) ∧ PRel N0 S gf gb gz ∧ (∀ L, L < 256 → subM L lq → PInv T v ib mq N0 gf S L) ∧ nn < (d + 1)) : (lf < 0 → (PRel N0 (dP T v ib mq nn (mA lq) tn y.toInt pl S) gf gb gz ∧ (∀ k, k < tn → go k = go k) ∧ (∀ L, L < 256 → ¬ subM L lq → gf L = gf L) ∧ (∀ L, L < 256 → subM L lq → PInv T v ib mq N0 gf (dP T v ib mq nn (mA lq) tn y.toInt pl S) L))) ∧ (¬ (lf < 0) → (256 ≤ lf → (PRel N0 (dP T v ib mq nn (mA lq) tn y.toInt pl S) gf gb gz ∧ (∀ k, k < tn → go k = go k) ∧ (∀ L, L < 256 → ¬ subM L lq → gf L = gf L) ∧ (∀ L, L < 256 → subM L lq → PInv T v ib mq N0 gf (dP T v ib mq nn (mA lq) tn y.toInt pl S) L))) ∧ (¬ (256 ≤ lf) → (vp_in lf 256) ∧ (((gf lf.toNatClampNeg) < y → (vp_in lf 256) ∧ ((lf = 0 → (PRel N0 (dP T v ib mq nn (mA lq) tn y.toInt pl S) (upd gf lf.toNatClampNeg y) y (va_cpy go gz 0 0 6) ∧ (∀ k, k < tn → go k = go k) ∧ (∀ L, L < 256 → ¬ subM L lq → (upd gf lf.toNatClampNeg y) L = gf L) ∧ (∀ L, L < 256 → subM L lq → PInv T v ib mq N0 (upd gf lf.toNatClampNeg y) (dP T v ib mq nn (mA lq) tn y.toInt pl S) L))) ∧ (¬ (lf = 0) → (x < 6 → ∃ (I58_16 : (Nat → Int32) → (Nat → Int32) → (Nat → Int32) → Int32 → Int32 → Int32 → Int32 → Prop) (μ58_17 : (Nat → Int32) → (Nat → Int32) → (Nat → Int32) → Int32 → Int32 → Int32 → Int32 → Nat), I58_16 go gz (upd gf lf.toNatClampNeg y) gb sw sh 0 ∧ (∀ (fg1_9 : (Nat → Int32)) (fg2_10 : (Nat → Int32)) (fg3_11 : (Nat → Int32)) (gg6_12 : Int32) (gs00_13 : Int32) (gs01_14 : Int32) (x6_15 : Int32), I58_16 fg1_9 fg2_10 fg3_11 gg6_12 gs00_13 gs01_14 x6_15 → (np ≤ x6_15 → (PRel N0 (dP T v ib mq nn (mA lq) tn y.toInt pl S) fg3_11 gg6_12 fg2_10 ∧ (∀ k, k < tn → fg1_9 k = go k) ∧ (∀ L, L < 256 → ¬ subM L lq → fg3_11 L = gf L) ∧ (∀ L, L < 256 → subM L lq → PInv T v ib mq N0 fg3_11 (dP T v ib mq nn (mA lq) tn y.toInt pl S) L))) ∧ (¬ (np ≤ x6_15) → (((lf >>> (x6_15 &&& 31)) &&& 1) = 0 → I58_16 fg1_9 fg2_10 fg3_11 gg6_12 gs00_13 gs01_14 (x6_15 + 1) ∧ μ58_17 fg1_9 fg2_10 fg3_11 gg6_12 gs00_13 gs01_14 (x6_15 + 1) < μ58_17 fg1_9 fg2_10 fg3_11 gg6_12 gs00_13 gs01_14 x6_15) ∧ (¬ (((lf >>> (x6_15 &&& 31)) &&& 1) = 0) → (vp_in x 6) ∧ (∃ (gT_22 : Nat → Nat → Int) (gNs_23 : Nat) (gNp_24 : Nat) (gv_25 : Nat → Int) (gkk_26 : Nat → Int) (gM_27 : Int) (gib_28 : Nat) (gmq_29 : Nat) (gtn_30 : Nat) (gip_31 : Nat), ((TOK gT_22 gNs_23 gNp_24 ∧ CT gT_22 gNs_23 gNp_24 ns np fu fd fi sz_ pt kd nd ∧ CN gNs_23 gNp_24 gv_25 ht wm se cd sl od ow lo mi sd ∧ NOK gT_22 gNs_23 gNp_24 gkk_26 gM_27 gv_25 ∧ gs = nI gib_28 ∧ gib_28 < gNs_23 ∧ gm = nI gmq_29 ∧ gmq_29 ≤ 60 ∧ x = nI gtn_30 ∧ gtn_30 ≤ 6 ∧ x6_15 = nI gip_31 ∧ gip_31 < gNp_24 ∧ 0 ≤ y.toInt ∧ y.toInt ≤ gT_22 0 gib_28) ∧ (∀ (r_32 : Int32) (sw2_33 : Int32) (sh2_34 : Int32), (r_32.toInt = pSt gT_22 gv_25 gib_28 gmq_29 gtn_30 gip_31 y.toInt) → (∃ (gT_35 : Nat → Nat → Int) (gNs_36 : Nat) (gNp_37 : Nat) (gv_38 : Nat → Int) (gkk_39 : Nat → Int) (gM_40 : Int) (gib_41 : Nat) (gmq_42 : Nat) (gN0_43 : Nat) (gnn_44 : Nat) (glq_45 : Nat) (gtn_46 : Nat) (gpl_47 : List Nat) (gS_48 : Option (Int × List Nat)), ((TOK gT_35 gNs_36 gNp_37 ∧ CT gT_35 gNs_36 gNp_37 ns np fu fd fi sz_ pt kd nd ∧ CN gNs_36 gNp_37 gv_38 ht wm se cd sl od ow lo mi sd ∧ NOK gT_35 gNs_36 gNp_37 gkk_39 gM_40 gv_38 ∧ gs = nI gib_41 ∧ gib_41 < gNs_36 ∧ gm = nI gmq_42 ∧ gmq_42 ≤ 60 ∧ (lf &&& (((1 : Int32) <<< (x6_15 &&& 31)) ^^^ (-1))) = nI glq_45 ∧ glq_45 < 2 ^ gNp_37 ∧ cntA (mA glq_45) 8 = gnn_44 ∧ (x + 1) = nI gtn_46 ∧ gtn_46 + gnn_44 = gN0_43 ∧ gN0_43 ≤ 6 ∧ 0 ≤ r_32.toInt ∧ r_32.toInt ≤ gT_35 0 gib_41 ∧ gpl_47.length = gtn_46 ∧ (∀ k, k < gtn_46 → (upd fg1_9 x.toNatClampNeg x6_15) k = nI (gpl_47.getD k 0)) ∧ PRel gN0_43 gS_48 fg3_11 gg6_12 fg2_10 ∧ (∀ L, L < 256 → subM L glq_45 → PInv gT_35 gv_38 gib_41 gmq_42 gN0_43 fg3_11 gS_48 L) ∧ gnn_44 < d) ∧ (∀ (go2_50 : Nat → Int32) (gz2_51 : Nat → Int32) (gf2_52 : Nat → Int32) (gb2_53 : Int32) (sw2_54 : Int32) (sh2_55 : Int32), ((PRel gN0_43 (dP gT_35 gv_38 gib_41 gmq_42 gnn_44 (mA glq_45) gtn_46 r_32.toInt gpl_47 gS_48) gf2_52 gb2_53 gz2_51 ∧ (∀ k, k < gtn_46 → go2_50 k = (upd fg1_9 x.toNatClampNeg x6_15) k) ∧ (∀ L, L < 256 → ¬ subM L glq_45 → gf2_52 L = fg3_11 L) ∧ (∀ L, L < 256 → subM L glq_45 → PInv gT_35 gv_38 gib_41 gmq_42 gN0_43 gf2_52 (dP gT_35 gv_38 gib_41 gmq_42 gnn_44 (mA glq_45) gtn_46 r_32.toInt gpl_47 gS_48) L))) → (I58_16 go2_50 gz2_51 gf2_52 gb2_53 sw2_54 sh2_55 (x6_15 + 1) ∧ μ58_17 go2_50 gz2_51 gf2_52 gb2_53 sw2_54 sh2_55 (x6_15 + 1) < μ58_17 fg1_9 fg2_10 fg3_11 gg6_12 gs00_13 gs01_14 x6_15))))))))))) ∧ (¬ (x < 6) → (PRel N0 (dP T v ib mq nn (mA lq) tn y.toInt pl S) (upd gf lf.toNatClampNeg y) y (va_cpy go gz 0 0 6) ∧ (∀ k, k < tn → go k = go k) ∧ (∀ L, L < 256 → ¬ subM L lq → (upd gf lf.toNatClampNeg y) L = gf L) ∧ (∀ L, L < 256 → subM L lq → PInv T v ib mq N0 (upd gf lf.toNatClampNeg y) (dP T v ib mq nn (mA lq) tn y.toInt pl S) L)))))) ∧ (¬ ((gf lf.toNatClampNeg) < y) → (PRel N0 (dP T v ib mq nn (mA lq) tn y.toInt pl S) gf gb gz ∧ (∀ k, k < tn → go k = go k) ∧ (∀ L, L < 256 → ¬ subM L lq → gf L = gf L) ∧ (∀ L, L < 256 → subM L lq → PInv T v ib mq N0 gf (dP T v ib mq nn (mA lq) tn y.toInt pl S) L)))))) := by
  obtain ⟨hT, hC, hN, hO, hgs, hib, hgm, hmq, rfl, hlq, hnn, rfl, hN0, h6, hy0, hy1, hpl, hgo, hS, hI, hd⟩ := hp
  have t1 := hT.1
  have t2 := hT.2.1
  have hnp : np = nI Np := hC.2.1
  have hq8 : lq < 256 := Nat.lt_of_lt_of_le hlq (Nat.pow_le_pow_right (show 0 < 2 by omega) t2 : 2 ^ Np ≤ 2 ^ 8)
  have el : (nI lq).toNatClampNeg = lq := nI_clamp (by omega)
  have et : (nI tn).toNatClampNeg = tn := nI_clamp (by omega)
  have eli : (nI lq).toInt = (lq : Int) := nI_toInt (by omega)
  have hn0 : ¬ nI lq < 0 := by rw [i_lt eli i32_0]; omega
  have hn1 : ¬ 256 ≤ nI lq := by rw [i_le (show (256 : Int32).toInt = 256 from rfl) eli]; omega
  have hz : nI lq = 0 ↔ lq = 0 := by rw [i_eq eli i32_0]; omega
  have hx6 : nI tn < 6 ↔ tn < 6 := by rw [i_lt (nI_toInt (by omega)) (show (6 : Int32).toInt = 6 from rfl)]; omega
  have vl : vp_in (nI lq) 256 := vp_in_nI (by omega) (by omega)
  simp only [el, et, hz, hx6]
  have etn : N0 - cntA (mA lq) 8 = tn := by omega
  refine ⟨fun h => absurd h hn0, fun _ => ⟨fun h => absurd h hn1, fun _ => ⟨vl, fun hlt => ⟨vl, fun h0 => ?_, fun h0 => ⟨fun ht6 => ?_, fun ht6 => ?_⟩⟩, fun hge => ?_⟩⟩⟩
  · subst h0
    have n0 : nn = 0 := by rw [← hnn]; exact cnt_0
    subst n0
    obtain ⟨r1, r2⟩ := PRel_leaf (pl := pl) (gz2 := va_cpy go gz 0 0 6) hS hy0 hlt (by omega) (fun k hk => by
      rw [← hgo k (by omega)]
      unfold va_cpy
      rw [if_pos (by omega), show 0 + (k - 0) = k by omega])
    rw [dP_zero]
    refine ⟨r1, fun _ _ => trivial, fun L hL hs => ?_, fun L hL hs => ?_⟩
    · by_cases e : L = 0
      · exact absurd (by rw [e]; exact fun q hq => hq) hs
      · rw [upd_ne e]
    · have e := sub_00 hs
      subst e
      refine Or.inr ⟨by rw [upd_at]; exact hy0, fun c hc => ?_⟩
      rw [cnt_0] at hc ⊢
      rw [upd_at, r2]
      exact ⟨_, _, rfl, Int.le_refl _⟩
  · obtain ⟨n, rfl⟩ : ∃ n, nn = n + 1 := ⟨nn - 1, by have := mk_ne0 hq8 h0; omega⟩
    refine ⟨fun fo fz ff fb _ _ z => ∃ q, q ≤ Np ∧ z = nI q ∧ PRel N0 (pF (pH T v ib mq (n + 1) (mA lq) tn y.toInt pl) S 0 (cntA (mA lq) q * fac n)) ff fb fz ∧ (∀ k, k < tn → fo k = go k) ∧ (∀ L, L < 256 → ¬ subM L lq → ff L = gf L) ∧ ff lq = y ∧ (∀ L, L < 256 → subM L lq → L ≠ lq → PInv T v ib mq N0 ff (pF (pH T v ib mq (n + 1) (mA lq) tn y.toInt pl) S 0 (cntA (mA lq) q * fac n)) L), fun _ _ _ _ _ _ z => 9 - z.toNatClampNeg, ⟨0, by omega, rfl, ?_, fun _ _ => rfl, fun L hL hs => ?_, upd_at _ _ _, fun L hL hs hne => ?_⟩, ?_⟩
    · rw [show cntA (mA lq) 0 * fac n = 0 from Nat.zero_mul _]
      exact PRel_keep h0 hS
    · by_cases e : L = lq
      · exact absurd (by rw [e]; exact fun q hq => hq) hs
      · rw [upd_ne e]
    · rw [show cntA (mA lq) 0 * fac n = 0 from Nat.zero_mul _]
      exact (hI L hL hs).mono (upd_ne hne) (fun _ h => h)
    rintro fo fz ff fb s0_ s1_ z ⟨q, hq, rfl, hSq, hfo, hff, hfl, hIq⟩
    have eq1 : nI q + 1 = nI (q + 1) := nI_1 q
    have eqc : (nI q).toNatClampNeg = q := nI_clamp (by omega)
    have eqd : (nI (q + 1)).toNatClampNeg = q + 1 := nI_clamp (by omega)
    have hle : nI Np ≤ nI q ↔ Np ≤ q := nI_leI (by omega) (by omega)
    simp only [hnp, hle, eq1, eqc, eqd]
    refine ⟨fun hge => ?_, fun hge => ?_⟩
    · have e : q = Np := by omega
      subst e
      have hcn : cntA (mA lq) q = n + 1 := by rw [cnt_np hlq t2]; exact hnn
      rw [dP_end hcn] at hSq hIq
      refine ⟨hSq, hfo, hff, fun L hL hs => ?_⟩
      by_cases e : L = lq
      · subst e
        refine Or.inr ⟨by rw [hfl]; exact hy0, fun c hc => ?_⟩
        rw [hnn] at hc ⊢
        rw [hfl, show N0 - (n + 1) = tn by omega]
        exact dP_ge hc
      · exact hIq L hL hs e
    have hq8' : q < 8 := by omega
    rw [mk_tst lq hq8 q hq8']
    refine ⟨fun hb => ?_, fun hb => ?_⟩
    · have ec : cntA (mA lq) (q + 1) = cntA (mA lq) q := cntA_n hb
      refine ⟨⟨q + 1, by omega, rfl, ?_, hfo, hff, hfl, ?_⟩, by omega⟩
      · rw [ec]; exact hSq
      · rw [ec]; exact hIq
    have hbt : lq.testBit q = true := by
      cases u : lq.testBit q with
      | true => rfl
      | false => exact absurd u hb
    have hqn : q < Np := by omega
    refine ⟨vp_in_nI (by omega) (by omega), T, Ns, Np, v, kk, M, ib, mq, tn, q, ⟨hT, by rw [← hnp]; exact hC, hN, hO, hgs, hib, hgm, hmq, rfl, by omega, rfl, hqn, hy0, hy1⟩, fun r _ _ hr => ?_⟩
    have pb := pSt_bd (t := tn) (m := mq) hT hO hqn hib hy0 hy1
    have hcr : cntA (mA (lq - 2 ^ q)) 8 = n := by
      rw [mA_rm hq8 hq8' hbt]
      have := cntA_rm (A := mA lq) hbt hq8'
      omega
    have est := dP_step (T := T) (v := v) (b := ib) (m := mq) (n := n) (t := tn) (h := y.toInt) (pl := pl) (S := S) (A := mA lq) hbt hq8'
    rw [← mA_rm hq8 hq8' hbt, ← hr] at est
    refine ⟨T, Ns, Np, v, kk, M, ib, mq, N0, n, lq - 2 ^ q, tn + 1, pl ++ [q], _, ⟨hT, by rw [← hnp]; exact hC, hN, hO, hgs, hib, hgm, hmq, mk_rmI lq hq8 q hq8' hbt, sub_lt hq8 hq8' hbt hlq, hcr, nI_1 tn, by omega, h6, by omega, by omega, by rw [List.length_append, hpl]; rfl, fun k hk => ?_, hSq, fun L hL hs => ?_, by omega⟩, fun fo2 fz2 ff2 fb2 _ _ h2 => ?_⟩
    · by_cases e : k = tn
      · subst e; rw [upd_at, ← hpl, getD_new]
      · rw [upd_ne e, hfo k (by omega), hgo k (by omega), getD_pre (by omega)]
    · have hs2 := sub_rm hq8 hq8' hbt hs
      exact hIq L hL hs2.1 hs2.2
    · rw [← est] at h2
      obtain ⟨k1, k2, k3, k4⟩ := h2
      have nsub : ∀ L, ¬ subM L lq → ¬ subM L (lq - 2 ^ q) := fun L h z => h (sub_rm hq8 hq8' hbt z).1
      have nself : ¬ subM lq (lq - 2 ^ q) := fun z => (sub_rm hq8 hq8' hbt z).2 rfl
      refine ⟨⟨q + 1, by omega, rfl, k1, fun k hk => ?_, fun L hL hs => ?_, ?_, fun L hL hs hne => ?_⟩, by omega⟩
      · rw [k2 k (by omega), upd_ne (by omega), hfo k hk]
      · rw [k3 L hL (nsub L hs), hff L hL hs]
      · rw [k3 lq hq8 nself, hfl]
      · by_cases u : subM L (lq - 2 ^ q)
        · exact k4 L hL u
        · refine (hIq L hL hs hne).mono (k3 L hL u) (fun x hx => ?_)
          rw [est]
          exact leS_pF hx _
  · have := mk_ne0 hq8 h0
    omega
  · have hg : ¬ gf lq = -1 := fun z => hge (by rw [z, i_lt (show (-1 : Int32).toInt = -1 from rfl) rfl]; omega)
    have hil := (hI lq hq8 (fun q hq => hq)).resolve_left hg
    rw [hnn, show N0 - nn = tn by omega] at hil
    have hle : y.toInt ≤ (gf lq).toInt := by
      have := mt (i_lt (a := gf lq) (b := y) rfl rfl).mpr hge
      omega
    have e : dP T v ib mq nn (mA lq) tn y.toInt pl S = S := dP_no fun c hc => leS_mono (hil.2 c hc) (heatL_mono _ _ hle)
    rw [e]
    exact ⟨hS, fun _ _ => trivial, fun _ _ _ => trivial, hI⟩
theorem k_X2_place (d : Nat) : ∀ (l : Launch) (G : Gt) (g g1 g2 g3 s0 t t1 t2 t3 t4 t5 t6 n n1 n2 n3 n4 n5 n6 n7 : Nat) (sz : Nat) (gs : Int32) (gm : Int32) (gb : Int32) (go : Nat → Int32) (gz : Nat → Int32) (gf : Nat → Int32) (sw : Int32) (sh : Int32) (ns : Int32) (np : Int32) (fu : Int32) (fd : Int32) (fi : Int32) (sz_ : Nat → Int32) (pt : Nat → Int32) (fh : Nat → Int32) (kd : Nat → Int32) (nd : Nat → Int32) (fw : Nat → Int32) (ht : Nat → Int32) (wm : Nat → Int32) (se : Nat → Int32) (cd : Nat → Int32) (sl : Nat → Int32) (od : Nat → Int32) (ow : Nat → Int32) (lo : Int32) (mi : Int32) (sd : Int32) (x : Int32) (lf : Int32) (y : Int32) (T : Nat → Nat → Int) (Ns : Nat) (Np : Nat) (v : Nat → Int) (kk : Nat → Int) (M : Int) (ib : Nat) (mq : Nat) (N0 : Nat) (nn : Nat) (lq : Nat) (tn : Nat) (pl : List Nat) (S : Option (Int × List Nat)), TOK T Ns Np ∧ CT T Ns Np ns np fu fd fi sz_ pt kd nd ∧ CN Ns Np v ht wm se cd sl od ow lo mi sd ∧ NOK T Ns Np kk M v ∧ gs = nI ib ∧ ib < Ns ∧ gm = nI mq ∧ mq ≤ 60 ∧ lf = nI lq ∧ lq < 2 ^ Np ∧ cntA (mA lq) 8 = nn ∧ x = nI tn ∧ tn + nn = N0 ∧ N0 ≤ 6 ∧ 0 ≤ y.toInt ∧ y.toInt ≤ T 0 ib ∧ pl.length = tn ∧ (∀ k, k < tn → go k = nI (pl.getD k 0)) ∧ PRel N0 S gf gb gz ∧ (∀ L, L < 256 → subM L lq → PInv T v ib mq N0 gf S L) ∧ nn < d → MetV l yX2_place wsX2_place (4 + d) (97 + 26 * d) G [.ref g, .ref t, .ref n, .int x, .int lf, .int y] [(g, .inr (2, [.ref s0, .ref g1, .ref g2, .ref g3, .int gs, .int gm, .int gb])), aI G g1 6 go, aI G g2 6 gz, aI G g3 256 gf, (s0, .inr (4, [.int sw, .int sh])), (t, .inr (6, [.int ns, .int np, .int fu, .int fd, .int fi, .ref t1, .ref t2, .ref t3, .ref t4, .ref t5, .ref t6])), aI G t1 9 sz_, aI G t2 9 pt, aI G t3 9 fh, aI G t4 8 kd, aI G t5 8 nd, aI G t6 8 fw, (n, .inr (1, [.ref n1, .ref n2, .ref n3, .ref n4, .ref n5, .ref n6, .ref n7, .int lo, .int mi, .int sd])), aI G n1 9 ht, aI G n2 8 wm, aI G n3 8 se, aI G n4 8 cd, aI G n5 8 sl, aI G n6 8 od, aI G n7 72 ow] sz (fun (u : (Nat → Int32) × (Nat → Int32) × (Nat → Int32) × (Int32) × (Int32) × (Int32)) => (PRel N0 (dP T v ib mq nn (mA lq) tn y.toInt pl S) u.2.2.1 u.2.2.2.1 u.2.1 ∧ (∀ k, k < tn → u.1 k = go k) ∧ (∀ L, L < 256 → ¬ subM L lq → u.2.2.1 L = gf L) ∧ (∀ L, L < 256 → subM L lq → PInv T v ib mq N0 u.2.2.1 (dP T v ib mq nn (mA lq) tn y.toInt pl S) L))) (fun (u : (Nat → Int32) × (Nat → Int32) × (Nat → Int32) × (Int32) × (Int32) × (Int32)) => [(g, .inr (2, [.ref s0, .ref g1, .ref g2, .ref g3, .int gs, .int gm, .int u.2.2.2.1])), aI G g1 6 u.1, aI G g2 6 u.2.1, aI G g3 256 u.2.2.1, (s0, .inr (4, [.int u.2.2.2.2.1, .int u.2.2.2.2.2])), (t, .inr (6, [.int ns, .int np, .int fu, .int fd, .int fi, .ref t1, .ref t2, .ref t3, .ref t4, .ref t5, .ref t6])), aI G t1 9 sz_, aI G t2 9 pt, aI G t3 9 fh, aI G t4 8 kd, aI G t5 8 nd, aI G t6 8 fw, (n, .inr (1, [.ref n1, .ref n2, .ref n3, .ref n4, .ref n5, .ref n6, .ref n7, .int lo, .int mi, .int sd])), aI G n1 9 ht, aI G n2 8 wm, aI G n3 8 se, aI G n4 8 cd, aI G n5 8 sl, aI G n6 8 od, aI G n7 72 ow]) := by
  induction d with
  | zero =>
    intro l G g g1 g2 g3 s0 t t1 t2 t3 t4 t5 t6 n n1 n2 n3 n4 n5 n6 n7 sz gs gm gb go gz gf sw sh ns np fu fd fi sz_ pt fh kd nd fw ht wm se cd sl od ow lo mi sd x lf y T Ns Np v kk M ib mq N0 nn lq tn pl S hp
    exfalso
    have h1 := hp.2.2.2.2.2.2.2.2.2.2.2.2.2.2.2.2.2.2.2.2
    exact absurd h1 (Nat.not_lt_zero _)
  | succ d ih =>
    intro l G g g1 g2 g3 s0 t t1 t2 t3 t4 t5 t6 n n1 n2 n3 n4 n5 n6 n7 sz gs gm gb go gz gf sw sh ns np fu fd fi sz_ pt fh kd nd fw ht wm se cd sl od ow lo mi sd x lf y T Ns Np v kk M ib mq N0 nn lq tn pl S hp
    have e1 : 4 + (d + 1) = (4 + d) + 1 := by omega
    have e2 : 97 + 26 * (d + 1) = (97 + 26 * d) + 26 := by omega
    rw [e1, e2]
    exact c_X2_place l G g g1 g2 g3 s0 t t1 t2 t3 t4 t5 t6 n n1 n2 n3 n4 n5 n6 n7 sz gs gm gb go gz gf sw sh ns np fu fd fi sz_ pt fh kd nd fw ht wm se cd sl od ow lo mi sd x lf y T Ns Np v kk M ib mq N0 nn lq tn pl S d (4 + d) (97 + 26 * d) (by omega) (by omega) (fun sz gs gm gb go gz gf sw sh ns np fu fd fi sz_ pt fh kd nd fw ht wm se cd sl od ow lo mi sd x lf y T Ns Np v kk M ib mq N0 nn lq tn pl S hp => ih l G g g1 g2 g3 s0 t t1 t2 t3 t4 t5 t6 n n1 n2 n3 n4 n5 n6 n7 sz gs gm gb go gz gf sw sh ns np fu fd fi sz_ pt fh kd nd fw ht wm se cd sl od ow lo mi sd x lf y T Ns Np v kk M ib mq N0 nn lq tn pl S hp) (v_X2_place l G g g1 g2 g3 s0 t t1 t2 t3 t4 t5 t6 n n1 n2 n3 n4 n5 n6 n7 sz gs gm gb go gz gf sw sh ns np fu fd fi sz_ pt fh kd nd fw ht wm se cd sl od ow lo mi sd x lf y T Ns Np v kk M ib mq N0 nn lq tn pl S d hp)

set_option maxHeartbeats 4000000 in
set_option maxRecDepth 100000 in
theorem c_X2_search (l : Launch) (G : Gt) (g g1 g2 g3 s0 t t1 t2 t3 t4 t5 t6 n n1 n2 n3 n4 n5 n6 n7 : Nat) (sz : Nat) (gs : Int32) (gm : Int32) (gb : Int32) (go : Nat → Int32) (gz : Nat → Int32) (gf : Nat → Int32) (sw : Int32) (sh : Int32) (ns : Int32) (np : Int32) (fu : Int32) (fd : Int32) (fi : Int32) (sz_ : Nat → Int32) (pt : Nat → Int32) (fh : Nat → Int32) (kd : Nat → Int32) (nd : Nat → Int32) (fw : Nat → Int32) (ht : Nat → Int32) (wm : Nat → Int32) (se : Nat → Int32) (cd : Nat → Int32) (sl : Nat → Int32) (od : Nat → Int32) (ow : Nat → Int32) (lo : Int32) (mi : Int32) (sd : Int32) (x : Int32) (y : Int32) (z : Int32) (T : Nat → Nat → Int) (Ns : Nat) (Np : Nat) (v : Nat → Int) (kk : Nat → Int) (M : Int) (ib : Nat) (mq : Nat) (N0 : Nat) (lq : Nat) (hv : ∃ (I14_3 : (Nat → Int32) → Int32 → Prop) (μ14_4 : (Nat → Int32) → Int32 → Nat), I14_3 gf 0 ∧ (∀ (fg3_1 : (Nat → Int32)) (x6_2 : Int32), I14_3 fg3_1 x6_2 → (256 ≤ x6_2 → (vp_in x 9) ∧ (∃ (gT_8 : Nat → Nat → Int) (gNs_9 : Nat) (gNp_10 : Nat) (gv_11 : Nat → Int) (gkk_12 : Nat → Int) (gM_13 : Int) (gib_14 : Nat) (gmq_15 : Nat) (gN0_16 : Nat) (gnn_17 : Nat) (glq_18 : Nat) (gtn_19 : Nat) (gpl_20 : List Nat) (gS_21 : Option (Int × List Nat)), ((TOK gT_8 gNs_9 gNp_10 ∧ CT gT_8 gNs_9 gNp_10 ns np fu fd fi sz_ pt kd nd ∧ CN gNs_9 gNp_10 gv_11 ht wm se cd sl od ow lo mi sd ∧ NOK gT_8 gNs_9 gNp_10 gkk_12 gM_13 gv_11 ∧ x = nI gib_14 ∧ gib_14 < gNs_9 ∧ z = nI gmq_15 ∧ gmq_15 ≤ 60 ∧ y = nI glq_18 ∧ glq_18 < 2 ^ gNp_10 ∧ cntA (mA glq_18) 8 = gnn_17 ∧ (0 : Int32) = nI gtn_19 ∧ gtn_19 + gnn_17 = gN0_16 ∧ gN0_16 ≤ 6 ∧ 0 ≤ (ht x.toNatClampNeg).toInt ∧ (ht x.toNatClampNeg).toInt ≤ gT_8 0 gib_14 ∧ gpl_20.length = gtn_19 ∧ (∀ k, k < gtn_19 → go k = nI (gpl_20.getD k 0)) ∧ PRel gN0_16 gS_21 fg3_1 gb gz ∧ (∀ L, L < 256 → subM L glq_18 → PInv gT_8 gv_11 gib_14 gmq_15 gN0_16 fg3_1 gS_21 L) ∧ gnn_17 < 7) ∧ (∀ (go2_23 : Nat → Int32) (gz2_24 : Nat → Int32) (gf2_25 : Nat → Int32) (gb2_26 : Int32) (sw2_27 : Int32) (sh2_28 : Int32), ((PRel gN0_16 (dP gT_8 gv_11 gib_14 gmq_15 gnn_17 (mA glq_18) gtn_19 (ht x.toNatClampNeg).toInt gpl_20 gS_21) gf2_25 gb2_26 gz2_24 ∧ (∀ k, k < gtn_19 → go2_23 k = go k) ∧ (∀ L, L < 256 → ¬ subM L glq_18 → gf2_25 L = fg3_1 L) ∧ (∀ L, L < 256 → subM L glq_18 → PInv gT_8 gv_11 gib_14 gmq_15 gN0_16 gf2_25 (dP gT_8 gv_11 gib_14 gmq_15 gnn_17 (mA glq_18) gtn_19 (ht x.toNatClampNeg).toInt gpl_20 gS_21) L))) → (PRel N0 (dP T v ib mq N0 (mA lq) 0 (v ib) [] none) gf2_25 gb2_26 gz2_24))))) ∧ (¬ (256 ≤ x6_2) → (vp_in x6_2 256) ∧ (I14_3 (upd fg3_1 x6_2.toNatClampNeg (-1)) (x6_2 + 1) ∧ μ14_4 (upd fg3_1 x6_2.toNatClampNeg (-1)) (x6_2 + 1) < μ14_4 fg3_1 x6_2)))) : MetV l yX2_search wsX2_search 12 305 G [.ref g, .ref t, .ref n, .int x, .int y, .int z] [(g, .inr (2, [.ref s0, .ref g1, .ref g2, .ref g3, .int gs, .int gm, .int gb])), aI G g1 6 go, aI G g2 6 gz, aI G g3 256 gf, (s0, .inr (4, [.int sw, .int sh])), (t, .inr (6, [.int ns, .int np, .int fu, .int fd, .int fi, .ref t1, .ref t2, .ref t3, .ref t4, .ref t5, .ref t6])), aI G t1 9 sz_, aI G t2 9 pt, aI G t3 9 fh, aI G t4 8 kd, aI G t5 8 nd, aI G t6 8 fw, (n, .inr (1, [.ref n1, .ref n2, .ref n3, .ref n4, .ref n5, .ref n6, .ref n7, .int lo, .int mi, .int sd])), aI G n1 9 ht, aI G n2 8 wm, aI G n3 8 se, aI G n4 8 cd, aI G n5 8 sl, aI G n6 8 od, aI G n7 72 ow] sz (fun (u : (Nat → Int32) × (Nat → Int32) × (Nat → Int32) × (Int32) × (Int32) × (Int32) × (Int32) × (Int32)) => PRel N0 (dP T v ib mq N0 (mA lq) 0 (v ib) [] none) u.2.2.1 u.2.2.2.1 u.2.1) (fun (u : (Nat → Int32) × (Nat → Int32) × (Nat → Int32) × (Int32) × (Int32) × (Int32) × (Int32) × (Int32)) => [(g, .inr (2, [.ref s0, .ref g1, .ref g2, .ref g3, .int u.2.2.2.2.2.2.1, .int u.2.2.2.2.2.2.2, .int u.2.2.2.1])), aI G g1 6 u.1, aI G g2 6 u.2.1, aI G g3 256 u.2.2.1, (s0, .inr (4, [.int u.2.2.2.2.1, .int u.2.2.2.2.2.1])), (t, .inr (6, [.int ns, .int np, .int fu, .int fd, .int fi, .ref t1, .ref t2, .ref t3, .ref t4, .ref t5, .ref t6])), aI G t1 9 sz_, aI G t2 9 pt, aI G t3 9 fh, aI G t4 8 kd, aI G t5 8 nd, aI G t6 8 fw, (n, .inr (1, [.ref n1, .ref n2, .ref n3, .ref n4, .ref n5, .ref n6, .ref n7, .int lo, .int mi, .int sd])), aI G n1 9 ht, aI G n2 8 wm, aI G n3 8 se, aI G n4 8 cd, aI G n5 8 sl, aI G n6 8 od, aI G n7 72 ow]) := by
  refine x_startV (cc := cX2_search) (maxL := 7) (ret := none) (by decide) rfl (Nat.le_of_ble_eq_true rfl) ?_
  intro p e s m args below meth c A R Q ls hRf hRl hQ C hP hD hS hA hSS hl
  obtain ⟨hx, hb, hr, hml, hown, hts, hlocks, hKK⟩ := C
  have hown : s.vm.findClass RX2 = some m.cls := hown
  have hl : lv_has ls 7 [(0, .ref g), (1, .ref t), (2, .ref n), (3, .int x), (4, .int y), (5, .int z)] := hl
  have hinX1 : ∀ w ∈ u_ws RX1 TX1 10, w ∈ wsX2_search := by decide +kernel
  have hinX2 : ∀ w ∈ u_ws RX2 TX2 7, w ∈ wsX2_search := by decide +kernel
  have kl25 := hts (.fieldLink RX2 25 "WarmStones$Passing" "followed" "[I") (by decide +kernel)
  have kl28 := hts (.fieldLink RX2 28 "WarmStones$Passing" "stone" "I") (by decide +kernel)
  have kl32 := hts (.fieldLink RX2 32 "WarmStones$Passing" "minutes" "I") (by decide +kernel)
  have kl35 := hts (.fieldLink RX2 35 "WarmStones$Night" "heat" "[I") (by decide +kernel)
  refine lv_aload_n hx hb dX2_search_0 rfl (lv_at hl 0 rfl) ?_
  refine lv_iload_n hx hb dX2_search_1 rfl (lv_at hl 3 rfl) ?_
  refine va_put (D := G.1) (ci := 2) (v := .int x) (ty := .int) (C := RX2) (T := TX2) (N := 7) hx hb hts hinX2 tyX2 tyX2_ok nmX2 hown hKK.1 hP hD hS 0 rfl rfl 4 (by decide) kl28 (fun _ h9 => h9) rfl (by decide +kernel) rfl rfl (Nat.le_of_ble_eq_true rfl) dX2_search_2 (fun H locs hP hD hS => ?_)
  have hP : va_P G.1 vwCl [(g, .inr (2, [.ref s0, .ref g1, .ref g2, .ref g3, .int x, .int gm, .int gb])), aI G g1 6 go, aI G g2 6 gz, aI G g3 256 gf, (s0, .inr (4, [.int sw, .int sh])), (t, .inr (6, [.int ns, .int np, .int fu, .int fd, .int fi, .ref t1, .ref t2, .ref t3, .ref t4, .ref t5, .ref t6])), aI G t1 9 sz_, aI G t2 9 pt, aI G t3 9 fh, aI G t4 8 kd, aI G t5 8 nd, aI G t6 8 fw, (n, .inr (1, [.ref n1, .ref n2, .ref n3, .ref n4, .ref n5, .ref n6, .ref n7, .int lo, .int mi, .int sd])), aI G n1 9 ht, aI G n2 8 wm, aI G n3 8 se, aI G n4 8 cd, aI G n5 8 sl, aI G n6 8 od, aI G n7 72 ow] H := hP
  have hD : va_D A [(g, .inr (2, [.ref s0, .ref g1, .ref g2, .ref g3, .int x, .int gm, .int gb])), aI G g1 6 go, aI G g2 6 gz, aI G g3 256 gf, (s0, .inr (4, [.int sw, .int sh])), (t, .inr (6, [.int ns, .int np, .int fu, .int fd, .int fi, .ref t1, .ref t2, .ref t3, .ref t4, .ref t5, .ref t6])), aI G t1 9 sz_, aI G t2 9 pt, aI G t3 9 fh, aI G t4 8 kd, aI G t5 8 nd, aI G t6 8 fw, (n, .inr (1, [.ref n1, .ref n2, .ref n3, .ref n4, .ref n5, .ref n6, .ref n7, .int lo, .int mi, .int sd])), aI G n1 9 ht, aI G n2 8 wm, aI G n3 8 se, aI G n4 8 cd, aI G n5 8 sl, aI G n6 8 od, aI G n7 72 ow] := hD
  refine lv_aload_n hx hb dX2_search_5 rfl (lv_at hl 0 rfl) ?_
  refine lv_iload hx hb dX2_search_6 (lv_at hl 5 rfl) ?_
  refine va_put (D := G.1) (ci := 2) (v := .int z) (ty := .int) (C := RX2) (T := TX2) (N := 7) hx hb hts hinX2 tyX2 tyX2_ok nmX2 hown hKK.1 hP hD hS 0 rfl rfl 5 (by decide) kl32 (fun _ h9 => h9) rfl (by decide +kernel) rfl rfl (Nat.le_of_ble_eq_true rfl) dX2_search_8 (fun H locs hP hD hS => ?_)
  have hP : va_P G.1 vwCl [(g, .inr (2, [.ref s0, .ref g1, .ref g2, .ref g3, .int x, .int z, .int gb])), aI G g1 6 go, aI G g2 6 gz, aI G g3 256 gf, (s0, .inr (4, [.int sw, .int sh])), (t, .inr (6, [.int ns, .int np, .int fu, .int fd, .int fi, .ref t1, .ref t2, .ref t3, .ref t4, .ref t5, .ref t6])), aI G t1 9 sz_, aI G t2 9 pt, aI G t3 9 fh, aI G t4 8 kd, aI G t5 8 nd, aI G t6 8 fw, (n, .inr (1, [.ref n1, .ref n2, .ref n3, .ref n4, .ref n5, .ref n6, .ref n7, .int lo, .int mi, .int sd])), aI G n1 9 ht, aI G n2 8 wm, aI G n3 8 se, aI G n4 8 cd, aI G n5 8 sl, aI G n6 8 od, aI G n7 72 ow] H := hP
  have hD : va_D A [(g, .inr (2, [.ref s0, .ref g1, .ref g2, .ref g3, .int x, .int z, .int gb])), aI G g1 6 go, aI G g2 6 gz, aI G g3 256 gf, (s0, .inr (4, [.int sw, .int sh])), (t, .inr (6, [.int ns, .int np, .int fu, .int fd, .int fi, .ref t1, .ref t2, .ref t3, .ref t4, .ref t5, .ref t6])), aI G t1 9 sz_, aI G t2 9 pt, aI G t3 9 fh, aI G t4 8 kd, aI G t5 8 nd, aI G t6 8 fw, (n, .inr (1, [.ref n1, .ref n2, .ref n3, .ref n4, .ref n5, .ref n6, .ref n7, .int lo, .int mi, .int sd])), aI G n1 9 ht, aI G n2 8 wm, aI G n3 8 se, aI G n4 8 cd, aI G n5 8 sl, aI G n6 8 od, aI G n7 72 ow] := hD
  refine lv_iconst (v := 0) hx hb dX2_search_11 (by decide) ?_
  refine lv_istore (lv' := [(6, .int 0), (0, .ref g), (1, .ref t), (2, .ref n), (3, .int x), (4, .int y), (5, .int z)]) hx hb dX2_search_12 hl (by decide) rfl (fun ls hl => ?_)
  obtain ⟨I14_3, μ14_4, hi0, hs_29⟩ := hv
  have Lm_31 : ∀ (n_30 : Nat) (fg3_1 : (Nat → Int32)) (x6_2 : Int32) (H : Heap) (locs : List Loc) (ls : Array Slot), μ14_4 fg3_1 x6_2 < n_30 → I14_3 fg3_1 x6_2 → va_P G.1 vwCl [(g, .inr (2, [.ref s0, .ref g1, .ref g2, .ref g3, .int x, .int z, .int gb])), aI G g1 6 go, aI G g2 6 gz, aI G g3 256 fg3_1, (s0, .inr (4, [.int sw, .int sh])), (t, .inr (6, [.int ns, .int np, .int fu, .int fd, .int fi, .ref t1, .ref t2, .ref t3, .ref t4, .ref t5, .ref t6])), aI G t1 9 sz_, aI G t2 9 pt, aI G t3 9 fh, aI G t4 8 kd, aI G t5 8 nd, aI G t6 8 fw, (n, .inr (1, [.ref n1, .ref n2, .ref n3, .ref n4, .ref n5, .ref n6, .ref n7, .int lo, .int mi, .int sd])), aI G n1 9 ht, aI G n2 8 wm, aI G n3 8 se, aI G n4 8 cd, aI G n5 8 sl, aI G n6 8 od, aI G n7 72 ow] H → va_D A [(g, .inr (2, [.ref s0, .ref g1, .ref g2, .ref g3, .int x, .int z, .int gb])), aI G g1 6 go, aI G g2 6 gz, aI G g3 256 fg3_1, (s0, .inr (4, [.int sw, .int sh])), (t, .inr (6, [.int ns, .int np, .int fu, .int fd, .int fi, .ref t1, .ref t2, .ref t3, .ref t4, .ref t5, .ref t6])), aI G t1 9 sz_, aI G t2 9 pt, aI G t3 9 fh, aI G t4 8 kd, aI G t5 8 nd, aI G t6 8 fw, (n, .inr (1, [.ref n1, .ref n2, .ref n3, .ref n4, .ref n5, .ref n6, .ref n7, .int lo, .int mi, .int sd])), aI G n1 9 ht, aI G n2 8 wm, aI G n3 8 se, aI G n4 8 cd, aI G n5 8 sl, aI G n6 8 od, aI G n7 72 ow] → va_S A s.heap H locs → lv_has ls 7 [(6, .int x6_2), (0, .ref g), (1, .ref t), (2, .ref n), (3, .int x), (4, .int y), (5, .int z)] → W p l e R s m args below meth c H locs 0 0 Q (F0 m 14 ls []) := by
    intro n_30
    induction n_30 with
    | zero => intro fg3_1 x6_2 H locs ls hm; exact absurd hm (Nat.not_lt_zero _)
    | succ n_30 ih_5 =>
      intro fg3_1 x6_2 H locs ls hI_6 hi hP hD hS hl
      have hv := hs_29 fg3_1 x6_2 hi
      refine lv_iload hx hb dX2_search_14 (lv_at hl 0 rfl) ?_
      refine lv_aload_n hx hb dX2_search_16 rfl (lv_at hl 1 rfl) ?_
      refine va_get (D := G.1) (ci := 2) (v := .ref g3) (C := RX2) (T := TX2) (N := 7) hx hb hts hinX2 hown hKK.1 hP 0 rfl rfl 3 (by decide) kl25 (fun _ h9 => h9) rfl dX2_search_17 ?_
      refine va_alen (v := 256) hx hb hKK.1 hP 3 0 rfl rfl rfl dX2_search_20 ?_
      refine lv_icmp_ge (tgt := 38) hx hb dX2_search_21 (by decide) (fun hc_7 => ?_) (fun hc_7 => ?_)
      · have hv := hv.1 hc_7
        refine lv_aload_n hx hb dX2_search_38 rfl (lv_at hl 1 rfl) ?_
        refine lv_aload_n hx hb dX2_search_39 rfl (lv_at hl 2 rfl) ?_
        refine lv_aload_n hx hb dX2_search_40 rfl (lv_at hl 3 rfl) ?_
        refine lv_iconst (v := 0) hx hb dX2_search_41 (by decide) ?_
        refine lv_iload hx hb dX2_search_42 (lv_at hl 5 rfl) ?_
        refine lv_aload_n hx hb dX2_search_44 rfl (lv_at hl 3 rfl) ?_
        refine va_get (D := G.1) (ci := 1) (v := .ref n1) (C := RX1) (T := TX1) (N := 10) hx hb hts hinX1 hown hKK.1 hP 12 rfl rfl 0 (by decide) kl35 (fun _ h9 => h9) rfl dX2_search_45 ?_
        refine lv_iload_n hx hb dX2_search_48 rfl (lv_at hl 4 rfl) ?_
        obtain ⟨hin, hv⟩ := hv
        refine va_iald hx hb hKK.1 hP 13 0 rfl rfl hin dX2_search_49 ?_
        obtain ⟨gT_8, gNs_9, gNp_10, gv_11, gkk_12, gM_13, gib_14, gmq_15, gN0_16, gnn_17, glq_18, gtn_19, gpl_20, gS_21, hv⟩ := hv
        obtain ⟨hp, hv⟩ := hv
        refine x_callv (wr := []) (w' := fun (u : (Nat → Int32) × (Nat → Int32) × (Nat → Int32) × (Int32) × (Int32) × (Int32)) => [(g, .inr (2, [.ref s0, .ref g1, .ref g2, .ref g3, .int x, .int z, .int u.2.2.2.1])), aI G g1 6 u.1, aI G g2 6 u.2.1, aI G g3 256 u.2.2.1, (s0, .inr (4, [.int u.2.2.2.2.1, .int u.2.2.2.2.2])), (t, .inr (6, [.int ns, .int np, .int fu, .int fd, .int fi, .ref t1, .ref t2, .ref t3, .ref t4, .ref t5, .ref t6])), aI G t1 9 sz_, aI G t2 9 pt, aI G t3 9 fh, aI G t4 8 kd, aI G t5 8 nd, aI G t6 8 fw, (n, .inr (1, [.ref n1, .ref n2, .ref n3, .ref n4, .ref n5, .ref n6, .ref n7, .int lo, .int mi, .int sd])), aI G n1 9 ht, aI G n2 8 wm, aI G n3 8 se, aI G n4 8 cd, aI G n5 8 sl, aI G n6 8 od, aI G n7 72 ow]) (x_runV (As := [.ref t, .ref n, .int 0, .int y, .int (ht x.toNatClampNeg)]) (rest := []) (n := 5) (C := RX2) (ci := 2) ⟨hx, hb, hml, hown, hts⟩ (k_X2_place 7 l G g g1 g2 g3 s0 t t1 t2 t3 t4 t5 t6 n n1 n2 n3 n4 n5 n6 n7 _ x z gb go gz fg3_1 sw sh ns np fu fd fi sz_ pt fh kd nd fw ht wm se cd sl od ow lo mi sd 0 y (ht x.toNatClampNeg) gT_8 gNs_9 gNp_10 gv_11 gkk_12 gM_13 gib_14 gmq_15 gN0_16 gnn_17 glq_18 gtn_19 gpl_20 gS_21 hp) gX2_search_X2_place rfl (by decide +kernel) ⟨Nat.le_trans (Nat.le_of_ble_eq_true rfl) hRf, Nat.le_trans (Nat.le_of_ble_eq_true rfl) hRl⟩ hKK hSS hS hA hP hD [0, 1, 2, 3, 4, 5, 6, 7, 8, 9, 10, 11, 12, 13, 14, 15, 16, 17, 18, 19] (by decide) rfl rfl rfl 0 rfl rfl hl.1 rfl (Nat.le_of_ble_eq_true rfl) dX2_search_50) hP hD hS hA [0, 1, 2, 3, 4, 5, 6, 7, 8, 9, 10, 11, 12, 13, 14, 15, 16, 17, 18, 19] [] [0, 1, 2, 3, 4, 5, 6, 7, 8, 9, 10, 11, 12, 13, 14, 15, 16, 17, 18, 19] rfl rfl (by decide) (by decide) (by decide) (fun _ => rfl) (fun  u H locs hw hP hD hS => ?_)
        obtain ⟨go2_23, gz2_24, gf2_25, gb2_26, sw2_27, sh2_28⟩ := u
        have hP : va_P G.1 vwCl [(g, .inr (2, [.ref s0, .ref g1, .ref g2, .ref g3, .int x, .int z, .int gb2_26])), aI G g1 6 go2_23, aI G g2 6 gz2_24, aI G g3 256 gf2_25, (s0, .inr (4, [.int sw2_27, .int sh2_28])), (t, .inr (6, [.int ns, .int np, .int fu, .int fd, .int fi, .ref t1, .ref t2, .ref t3, .ref t4, .ref t5, .ref t6])), aI G t1 9 sz_, aI G t2 9 pt, aI G t3 9 fh, aI G t4 8 kd, aI G t5 8 nd, aI G t6 8 fw, (n, .inr (1, [.ref n1, .ref n2, .ref n3, .ref n4, .ref n5, .ref n6, .ref n7, .int lo, .int mi, .int sd])), aI G n1 9 ht, aI G n2 8 wm, aI G n3 8 se, aI G n4 8 cd, aI G n5 8 sl, aI G n6 8 od, aI G n7 72 ow] H := hP
        have hD : va_D A [(g, .inr (2, [.ref s0, .ref g1, .ref g2, .ref g3, .int x, .int z, .int gb2_26])), aI G g1 6 go2_23, aI G g2 6 gz2_24, aI G g3 256 gf2_25, (s0, .inr (4, [.int sw2_27, .int sh2_28])), (t, .inr (6, [.int ns, .int np, .int fu, .int fd, .int fi, .ref t1, .ref t2, .ref t3, .ref t4, .ref t5, .ref t6])), aI G t1 9 sz_, aI G t2 9 pt, aI G t3 9 fh, aI G t4 8 kd, aI G t5 8 nd, aI G t6 8 fw, (n, .inr (1, [.ref n1, .ref n2, .ref n3, .ref n4, .ref n5, .ref n6, .ref n7, .int lo, .int mi, .int sd])), aI G n1 9 ht, aI G n2 8 wm, aI G n3 8 se, aI G n4 8 cd, aI G n5 8 sl, aI G n6 8 od, aI G n7 72 ow] := hD
        have hv := hv go2_23 gz2_24 gf2_25 gb2_26 sw2_27 sh2_28 hw
        exact x_vret (go2_23, gz2_24, gf2_25, gb2_26, sw2_27, sh2_28, x, z) hQ hx hb hr hlocks hS dX2_search_53 hv hP hD
      · have hv := hv.2 hc_7
        refine lv_aload_n hx hb dX2_search_24 rfl (lv_at hl 1 rfl) ?_
        refine va_get (D := G.1) (ci := 2) (v := .ref g3) (C := RX2) (T := TX2) (N := 7) hx hb hts hinX2 hown hKK.1 hP 0 rfl rfl 3 (by decide) kl25 (fun _ h9 => h9) rfl dX2_search_25 ?_
        refine lv_iload hx hb dX2_search_28 (lv_at hl 0 rfl) ?_
        refine lv_iconst (v := (-1)) hx hb dX2_search_30 (by decide) ?_
        obtain ⟨hin, hv⟩ := hv
        refine va_iast hx hb hKK.1 hP hD hS 3 0 rfl rfl hin dX2_search_31 (fun H locs hP hD hS => ?_)
        have hP : va_P G.1 vwCl [(g, .inr (2, [.ref s0, .ref g1, .ref g2, .ref g3, .int x, .int z, .int gb])), aI G g1 6 go, aI G g2 6 gz, aI G g3 256 (upd fg3_1 x6_2.toNatClampNeg (-1)), (s0, .inr (4, [.int sw, .int sh])), (t, .inr (6, [.int ns, .int np, .int fu, .int fd, .int fi, .ref t1, .ref t2, .ref t3, .ref t4, .ref t5, .ref t6])), aI G t1 9 sz_, aI G t2 9 pt, aI G t3 9 fh, aI G t4 8 kd, aI G t5 8 nd, aI G t6 8 fw, (n, .inr (1, [.ref n1, .ref n2, .ref n3, .ref n4, .ref n5, .ref n6, .ref n7, .int lo, .int mi, .int sd])), aI G n1 9 ht, aI G n2 8 wm, aI G n3 8 se, aI G n4 8 cd, aI G n5 8 sl, aI G n6 8 od, aI G n7 72 ow] H := hP
        have hD : va_D A [(g, .inr (2, [.ref s0, .ref g1, .ref g2, .ref g3, .int x, .int z, .int gb])), aI G g1 6 go, aI G g2 6 gz, aI G g3 256 (upd fg3_1 x6_2.toNatClampNeg (-1)), (s0, .inr (4, [.int sw, .int sh])), (t, .inr (6, [.int ns, .int np, .int fu, .int fd, .int fi, .ref t1, .ref t2, .ref t3, .ref t4, .ref t5, .ref t6])), aI G t1 9 sz_, aI G t2 9 pt, aI G t3 9 fh, aI G t4 8 kd, aI G t5 8 nd, aI G t6 8 fw, (n, .inr (1, [.ref n1, .ref n2, .ref n3, .ref n4, .ref n5, .ref n6, .ref n7, .int lo, .int mi, .int sd])), aI G n1 9 ht, aI G n2 8 wm, aI G n3 8 se, aI G n4 8 cd, aI G n5 8 sl, aI G n6 8 od, aI G n7 72 ow] := hD
        refine lv_iinc (v := (x6_2 + 1)) (lv' := [(6, .int (x6_2 + 1)), (0, .ref g), (1, .ref t), (2, .ref n), (3, .int x), (4, .int y), (5, .int z)]) hx hb dX2_search_32 hl (k := 0) rfl rfl (by decide) rfl (fun ls hl => ?_)
        refine lv_goto (tgt := 14) hx hb dX2_search_35 (by decide) ?_
        exact ih_5 _ _ _ _ _ (Nat.lt_of_lt_of_le hv.2 (Nat.le_of_lt_succ hI_6)) hv.1 hP hD hS hl
  exact Lm_31 _ _ _ _ _ _ (Nat.lt_succ_self _) hi0 hP hD hS hl
theorem v_X2_search (l : Launch) (G : Gt) (g g1 g2 g3 s0 t t1 t2 t3 t4 t5 t6 n n1 n2 n3 n4 n5 n6 n7 : Nat) (sz : Nat) (gs : Int32) (gm : Int32) (gb : Int32) (go : Nat → Int32) (gz : Nat → Int32) (gf : Nat → Int32) (sw : Int32) (sh : Int32) (ns : Int32) (np : Int32) (fu : Int32) (fd : Int32) (fi : Int32) (sz_ : Nat → Int32) (pt : Nat → Int32) (fh : Nat → Int32) (kd : Nat → Int32) (nd : Nat → Int32) (fw : Nat → Int32) (ht : Nat → Int32) (wm : Nat → Int32) (se : Nat → Int32) (cd : Nat → Int32) (sl : Nat → Int32) (od : Nat → Int32) (ow : Nat → Int32) (lo : Int32) (mi : Int32) (sd : Int32) (x : Int32) (y : Int32) (z : Int32) (T : Nat → Nat → Int) (Ns : Nat) (Np : Nat) (v : Nat → Int) (kk : Nat → Int) (M : Int) (ib : Nat) (mq : Nat) (N0 : Nat) (lq : Nat) (hp : TOK T Ns Np ∧ CT T Ns Np ns np fu fd fi sz_ pt kd nd ∧ CN Ns Np v ht wm se cd sl od ow lo mi sd ∧ NOK T Ns Np kk M v ∧ x = nI ib ∧ ib < Ns ∧ z = nI mq ∧ mq ≤ 60 ∧ y = nI lq ∧ lq < 2 ^ Np ∧ cntA (mA lq) 8 = N0 ∧ N0 ≤ 6) : ∃ (I14_3 : (Nat → Int32) → Int32 → Prop) (μ14_4 : (Nat → Int32) → Int32 → Nat), I14_3 gf 0 ∧ (∀ (fg3_1 : (Nat → Int32)) (x6_2 : Int32), I14_3 fg3_1 x6_2 → (256 ≤ x6_2 → (vp_in x 9) ∧ (∃ (gT_8 : Nat → Nat → Int) (gNs_9 : Nat) (gNp_10 : Nat) (gv_11 : Nat → Int) (gkk_12 : Nat → Int) (gM_13 : Int) (gib_14 : Nat) (gmq_15 : Nat) (gN0_16 : Nat) (gnn_17 : Nat) (glq_18 : Nat) (gtn_19 : Nat) (gpl_20 : List Nat) (gS_21 : Option (Int × List Nat)), ((TOK gT_8 gNs_9 gNp_10 ∧ CT gT_8 gNs_9 gNp_10 ns np fu fd fi sz_ pt kd nd ∧ CN gNs_9 gNp_10 gv_11 ht wm se cd sl od ow lo mi sd ∧ NOK gT_8 gNs_9 gNp_10 gkk_12 gM_13 gv_11 ∧ x = nI gib_14 ∧ gib_14 < gNs_9 ∧ z = nI gmq_15 ∧ gmq_15 ≤ 60 ∧ y = nI glq_18 ∧ glq_18 < 2 ^ gNp_10 ∧ cntA (mA glq_18) 8 = gnn_17 ∧ (0 : Int32) = nI gtn_19 ∧ gtn_19 + gnn_17 = gN0_16 ∧ gN0_16 ≤ 6 ∧ 0 ≤ (ht x.toNatClampNeg).toInt ∧ (ht x.toNatClampNeg).toInt ≤ gT_8 0 gib_14 ∧ gpl_20.length = gtn_19 ∧ (∀ k, k < gtn_19 → go k = nI (gpl_20.getD k 0)) ∧ PRel gN0_16 gS_21 fg3_1 gb gz ∧ (∀ L, L < 256 → subM L glq_18 → PInv gT_8 gv_11 gib_14 gmq_15 gN0_16 fg3_1 gS_21 L) ∧ gnn_17 < 7) ∧ (∀ (go2_23 : Nat → Int32) (gz2_24 : Nat → Int32) (gf2_25 : Nat → Int32) (gb2_26 : Int32) (sw2_27 : Int32) (sh2_28 : Int32), ((PRel gN0_16 (dP gT_8 gv_11 gib_14 gmq_15 gnn_17 (mA glq_18) gtn_19 (ht x.toNatClampNeg).toInt gpl_20 gS_21) gf2_25 gb2_26 gz2_24 ∧ (∀ k, k < gtn_19 → go2_23 k = go k) ∧ (∀ L, L < 256 → ¬ subM L glq_18 → gf2_25 L = fg3_1 L) ∧ (∀ L, L < 256 → subM L glq_18 → PInv gT_8 gv_11 gib_14 gmq_15 gN0_16 gf2_25 (dP gT_8 gv_11 gib_14 gmq_15 gnn_17 (mA glq_18) gtn_19 (ht x.toNatClampNeg).toInt gpl_20 gS_21) L))) → (PRel N0 (dP T v ib mq N0 (mA lq) 0 (v ib) [] none) gf2_25 gb2_26 gz2_24))))) ∧ (¬ (256 ≤ x6_2) → (vp_in x6_2 256) ∧ (I14_3 (upd fg3_1 x6_2.toNatClampNeg (-1)) (x6_2 + 1) ∧ μ14_4 (upd fg3_1 x6_2.toNatClampNeg (-1)) (x6_2 + 1) < μ14_4 fg3_1 x6_2))) := by
  obtain ⟨hT, hC, hN, hO, rfl, hib, rfl, hmq, rfl, hlq, hnn, h6⟩ := hp
  have t1 := hT.1
  have t2 := hT.2.1
  have eb : (nI ib).toNatClampNeg = ib := nI_clamp (by omega)
  have eh := hN.h t1 hib
  have bh := hO.1 ib hib
  refine ⟨fun f z => ∃ i, i ≤ 256 ∧ z = nI i ∧ ∀ j, j < i → f j = -1, fun _ z => 257 - z.toNatClampNeg, ⟨0, by omega, rfl, fun j hj => absurd hj (Nat.not_lt_zero _)⟩, ?_⟩
  rintro f z ⟨i, hi, rfl, hf⟩
  have ei : (nI i).toNatClampNeg = i := nI_clamp (by omega)
  have ei1 : nI i + 1 = nI (i + 1) := nI_1 i
  have ej : (nI (i + 1)).toNatClampNeg = i + 1 := nI_clamp (by omega)
  have hle : 256 ≤ nI i ↔ 256 ≤ i := nI_leI (a := 256) (by omega) (by omega)
  simp only [ei, ei1, ej, hle, eb]
  refine ⟨fun q => ⟨vp_in_nI (by omega) (by omega), T, Ns, Np, v, kk, M, ib, mq, N0, N0, lq, 0, [], none, ⟨hT, hC, hN, hO, rfl, hib, rfl, hmq, rfl, hlq, hnn, rfl, by omega, h6, by omega, by omega, rfl, fun k hk => absurd hk (Nat.not_lt_zero _), hf 0 (by omega), fun L hL _ => Or.inl (hf L (by omega)), by omega⟩, fun _ gz2 gf2 gb2 _ _ h2 => ?_⟩, fun q => ⟨vp_in_nI (by omega) (by omega), ⟨i + 1, by omega, rfl, fun j hj => ?_⟩, by omega⟩⟩
  · have h3 := h2.1
    rw [eh] at h3
    exact h3
  · by_cases e : j = i
    · subst e; rw [upd_at]
    · rw [upd_ne e]; exact hf j (by omega)
theorem k_X2_search (l : Launch) (G : Gt) (g g1 g2 g3 s0 t t1 t2 t3 t4 t5 t6 n n1 n2 n3 n4 n5 n6 n7 : Nat) (sz : Nat) (gs : Int32) (gm : Int32) (gb : Int32) (go : Nat → Int32) (gz : Nat → Int32) (gf : Nat → Int32) (sw : Int32) (sh : Int32) (ns : Int32) (np : Int32) (fu : Int32) (fd : Int32) (fi : Int32) (sz_ : Nat → Int32) (pt : Nat → Int32) (fh : Nat → Int32) (kd : Nat → Int32) (nd : Nat → Int32) (fw : Nat → Int32) (ht : Nat → Int32) (wm : Nat → Int32) (se : Nat → Int32) (cd : Nat → Int32) (sl : Nat → Int32) (od : Nat → Int32) (ow : Nat → Int32) (lo : Int32) (mi : Int32) (sd : Int32) (x : Int32) (y : Int32) (z : Int32) (T : Nat → Nat → Int) (Ns : Nat) (Np : Nat) (v : Nat → Int) (kk : Nat → Int) (M : Int) (ib : Nat) (mq : Nat) (N0 : Nat) (lq : Nat) (hp : TOK T Ns Np ∧ CT T Ns Np ns np fu fd fi sz_ pt kd nd ∧ CN Ns Np v ht wm se cd sl od ow lo mi sd ∧ NOK T Ns Np kk M v ∧ x = nI ib ∧ ib < Ns ∧ z = nI mq ∧ mq ≤ 60 ∧ y = nI lq ∧ lq < 2 ^ Np ∧ cntA (mA lq) 8 = N0 ∧ N0 ≤ 6) : MetV l yX2_search wsX2_search 12 305 G [.ref g, .ref t, .ref n, .int x, .int y, .int z] [(g, .inr (2, [.ref s0, .ref g1, .ref g2, .ref g3, .int gs, .int gm, .int gb])), aI G g1 6 go, aI G g2 6 gz, aI G g3 256 gf, (s0, .inr (4, [.int sw, .int sh])), (t, .inr (6, [.int ns, .int np, .int fu, .int fd, .int fi, .ref t1, .ref t2, .ref t3, .ref t4, .ref t5, .ref t6])), aI G t1 9 sz_, aI G t2 9 pt, aI G t3 9 fh, aI G t4 8 kd, aI G t5 8 nd, aI G t6 8 fw, (n, .inr (1, [.ref n1, .ref n2, .ref n3, .ref n4, .ref n5, .ref n6, .ref n7, .int lo, .int mi, .int sd])), aI G n1 9 ht, aI G n2 8 wm, aI G n3 8 se, aI G n4 8 cd, aI G n5 8 sl, aI G n6 8 od, aI G n7 72 ow] sz (fun (u : (Nat → Int32) × (Nat → Int32) × (Nat → Int32) × (Int32) × (Int32) × (Int32) × (Int32) × (Int32)) => PRel N0 (dP T v ib mq N0 (mA lq) 0 (v ib) [] none) u.2.2.1 u.2.2.2.1 u.2.1) (fun (u : (Nat → Int32) × (Nat → Int32) × (Nat → Int32) × (Int32) × (Int32) × (Int32) × (Int32) × (Int32)) => [(g, .inr (2, [.ref s0, .ref g1, .ref g2, .ref g3, .int u.2.2.2.2.2.2.1, .int u.2.2.2.2.2.2.2, .int u.2.2.2.1])), aI G g1 6 u.1, aI G g2 6 u.2.1, aI G g3 256 u.2.2.1, (s0, .inr (4, [.int u.2.2.2.2.1, .int u.2.2.2.2.2.1])), (t, .inr (6, [.int ns, .int np, .int fu, .int fd, .int fi, .ref t1, .ref t2, .ref t3, .ref t4, .ref t5, .ref t6])), aI G t1 9 sz_, aI G t2 9 pt, aI G t3 9 fh, aI G t4 8 kd, aI G t5 8 nd, aI G t6 8 fw, (n, .inr (1, [.ref n1, .ref n2, .ref n3, .ref n4, .ref n5, .ref n6, .ref n7, .int lo, .int mi, .int sd])), aI G n1 9 ht, aI G n2 8 wm, aI G n3 8 se, aI G n4 8 cd, aI G n5 8 sl, aI G n6 8 od, aI G n7 72 ow]) :=
  c_X2_search l G g g1 g2 g3 s0 t t1 t2 t3 t4 t5 t6 n n1 n2 n3 n4 n5 n6 n7 sz gs gm gb go gz gf sw sh ns np fu fd fi sz_ pt fh kd nd fw ht wm se cd sl od ow lo mi sd x y z T Ns Np v kk M ib mq N0 lq (v_X2_search l G g g1 g2 g3 s0 t t1 t2 t3 t4 t5 t6 n n1 n2 n3 n4 n5 n6 n7 sz gs gm gb go gz gf sw sh ns np fu fd fi sz_ pt fh kd nd fw ht wm se cd sl od ow lo mi sd x y z T Ns Np v kk M ib mq N0 lq hp)
