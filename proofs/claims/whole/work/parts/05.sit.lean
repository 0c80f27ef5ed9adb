set_option maxHeartbeats 4000000 in
set_option maxRecDepth 100000 in
theorem c_X4_begin (l : Launch) (G : Gt) (s0 : Nat) (sz : Nat) (sw : Int32) (sh : Int32) (x : Int32) (y : Int32) (hv : (x : Int32) = x ∧ (y : Int32) = y) : MetV l yX4_begin wsX4_begin 0 0 G [.ref s0, .int x, .int y] [(s0, .inr (4, [.int sw, .int sh]))] sz (fun (u : (Int32) × (Int32)) => (u.1 : Int32) = x ∧ (u.2 : Int32) = y) (fun (u : (Int32) × (Int32)) => [(s0, .inr (4, [.int u.1, .int u.2]))]) := by
  refine x_startV (cc := cX4_begin) (maxL := 3) (ret := none) (by decide) rfl (Nat.le_of_ble_eq_true rfl) ?_
  intro p e s m args below meth c A R Q ls hRf hRl hQ C hP hD hS hA hSS hl
  obtain ⟨hx, hb, hr, hml, hown, hts, hlocks, hKK⟩ := C
  have hown : s.vm.findClass RX4 = some m.cls := hown
  have hl : lv_has ls 3 [(0, .ref s0), (1, .int x), (2, .int y)] := hl
  have hinX4 : ∀ w ∈ u_ws RX4 TX4 2, w ∈ wsX4_begin := by decide +kernel
  have kl13 := hts (.fieldLink RX4 13 "WarmStones$Sitting" "heat" "I") (by decide +kernel)
  have kl7 := hts (.fieldLink RX4 7 "WarmStones$Sitting" "warmth" "I") (by decide +kernel)
  refine lv_aload_n hx hb dX4_begin_0 rfl (lv_at hl 0 rfl) ?_
  refine lv_iload_n hx hb dX4_begin_1 rfl (lv_at hl 1 rfl) ?_
  refine va_put (D := G.1) (ci := 4) (v := .int x) (ty := .int) (C := RX4) (T := TX4) (N := 2) hx hb hts hinX4 tyX4 tyX4_ok nmX4 hown hKK.1 hP hD hS 0 rfl rfl 0 (by decide) kl7 (fun _ h9 => h9) rfl (by decide +kernel) rfl rfl (Nat.le_of_ble_eq_true rfl) dX4_begin_2 (fun H locs hP hD hS => ?_)
  have hP : va_P G.1 vwCl [(s0, .inr (4, [.int x, .int sh]))] H := hP
  have hD : va_D A [(s0, .inr (4, [.int x, .int sh]))] := hD
  refine lv_aload_n hx hb dX4_begin_5 rfl (lv_at hl 0 rfl) ?_
  refine lv_iload_n hx hb dX4_begin_6 rfl (lv_at hl 2 rfl) ?_
  refine va_put (D := G.1) (ci := 4) (v := .int y) (ty := .int) (C := RX4) (T := TX4) (N := 2) hx hb hts hinX4 tyX4 tyX4_ok nmX4 hown hKK.1 hP hD hS 0 rfl rfl 1 (by decide) kl13 (fun _ h9 => h9) rfl (by decide +kernel) rfl rfl (Nat.le_of_ble_eq_true rfl) dX4_begin_7 (fun H locs hP hD hS => ?_)
  have hP : va_P G.1 vwCl [(s0, .inr (4, [.int x, .int y]))] H := hP
  have hD : va_D A [(s0, .inr (4, [.int x, .int y]))] := hD
  exact x_vret (x, y) hQ hx hb hr hlocks hS dX4_begin_10 hv hP hD
theorem k_X4_begin (l : Launch) (G : Gt) (s0 : Nat) (sz : Nat) (sw : Int32) (sh : Int32) (x : Int32) (y : Int32) : MetV l yX4_begin wsX4_begin 0 0 G [.ref s0, .int x, .int y] [(s0, .inr (4, [.int sw, .int sh]))] sz (fun (u : (Int32) × (Int32)) => (u.1 : Int32) = x ∧ (u.2 : Int32) = y) (fun (u : (Int32) × (Int32)) => [(s0, .inr (4, [.int u.1, .int u.2]))]) :=
  c_X4_begin l G s0 sz sw sh x y (by
    exact ⟨rfl, rfl⟩)

/-- one minute of one person on one stone (or standing): what the person has, what the stone has -/
def sitF (ns : Int32) (k z bq w h : Int32) : Int32 := if ¬ bq < 0 ∧ ¬ ns ≤ bq then flowI k z w h else 0
def sitW (ns fu fd : Int32) (k z bq w h : Int32) : Int32 :=
  if ¬ bq < 0 ∧ ¬ ns ≤ bq then (w - flowI k z w h) - minI (w - flowI k z w h) (frostI k fu fd 1) else w - minI w (frostI k fu fd 0)
def sitH (ns : Int32) (k z bq w h : Int32) : Int32 := if ¬ bq < 0 ∧ ¬ ns ≤ bq then h + flowI k z w h else h

set_option maxHeartbeats 4000000 in
set_option maxRecDepth 100000 in
theorem c_X4_passMinute (l : Launch) (G : Gt) (s0 t t1 t2 t3 t4 t5 t6 : Nat) (sz : Nat) (sw : Int32) (sh : Int32) (ns : Int32) (np : Int32) (fu : Int32) (fd : Int32) (fi : Int32) (sz_ : Nat → Int32) (pt : Nat → Int32) (fh : Nat → Int32) (kd : Nat → Int32) (nd : Nat → Int32) (fw : Nat → Int32) (pq : Int32) (bq : Int32) (hv : (¬ (¬ bq < 0 ∧ ¬ ns ≤ bq) → (vp_in pq 8) ∧ (((sw - (if (frostI (kd pq.toNatClampNeg) fu fd (if ¬ bq < 0 ∧ ¬ ns ≤ bq then 1 else 0)) < sw then (frostI (kd pq.toNatClampNeg) fu fd (if ¬ bq < 0 ∧ ¬ ns ≤ bq then 1 else 0)) else sw)) : Int32) = sitW ns fu fd (kd pq.toNatClampNeg) (sz_ bq.toNatClampNeg) bq sw sh ∧ (sh : Int32) = sitH ns (kd pq.toNatClampNeg) (sz_ bq.toNatClampNeg) bq sw sh)) ∧ (¬ bq < 0 ∧ ¬ ns ≤ bq → (vp_in pq 8 ∧ vp_in bq 9) ∧ ((vp_in pq 8) ∧ ((((sw - (flowI (kd pq.toNatClampNeg) (sz_ bq.toNatClampNeg) sw sh)) - (if (frostI (kd pq.toNatClampNeg) fu fd (if ¬ bq < 0 ∧ ¬ ns ≤ bq then 1 else 0)) < (sw - (flowI (kd pq.toNatClampNeg) (sz_ bq.toNatClampNeg) sw sh)) then (frostI (kd pq.toNatClampNeg) fu fd (if ¬ bq < 0 ∧ ¬ ns ≤ bq then 1 else 0)) else (sw - (flowI (kd pq.toNatClampNeg) (sz_ bq.toNatClampNeg) sw sh)))) : Int32) = sitW ns fu fd (kd pq.toNatClampNeg) (sz_ bq.toNatClampNeg) bq sw sh ∧ ((sh + (flowI (kd pq.toNatClampNeg) (sz_ bq.toNatClampNeg) sw sh)) : Int32) = sitH ns (kd pq.toNatClampNeg) (sz_ bq.toNatClampNeg) bq sw sh)))) : MetV l yX4_passMinute wsX4_passMinute 2 45 G [.ref s0, .ref t, .int pq, .int bq] [(s0, .inr (4, [.int sw, .int sh])), (t, .inr (6, [.int ns, .int np, .int fu, .int fd, .int fi, .ref t1, .ref t2, .ref t3, .ref t4, .ref t5, .ref t6])), aI G t1 9 sz_, aI G t2 9 pt, aI G t3 9 fh, aI G t4 8 kd, aI G t5 8 nd, aI G t6 8 fw] sz (fun (u : (Int32) × (Int32)) => (u.1 : Int32) = sitW ns fu fd (kd pq.toNatClampNeg) (sz_ bq.toNatClampNeg) bq sw sh ∧ (u.2 : Int32) = sitH ns (kd pq.toNatClampNeg) (sz_ bq.toNatClampNeg) bq sw sh) (fun (u : (Int32) × (Int32)) => [(s0, .inr (4, [.int u.1, .int u.2])), (t, .inr (6, [.int ns, .int np, .int fu, .int fd, .int fi, .ref t1, .ref t2, .ref t3, .ref t4, .ref t5, .ref t6])), aI G t1 9 sz_, aI G t2 9 pt, aI G t3 9 fh, aI G t4 8 kd, aI G t5 8 nd, aI G t6 8 fw]) := by
  refine x_startV (cc := cX4_passMinute) (maxL := 6) (ret := none) (by decide) rfl (Nat.le_of_ble_eq_true rfl) ?_
  intro p e s m args below meth c A R Q ls hRf hRl hQ C hP hD hS hA hSS hl
  obtain ⟨hx, hb, hr, hml, hown, hts, hlocks, hKK⟩ := C
  have hown : s.vm.findClass RX4 = some m.cls := hown
  have hl : lv_has ls 6 [(0, .ref s0), (1, .ref t), (2, .int pq), (3, .int bq)] := hl
  have hinX4 : ∀ w ∈ u_ws RX4 TX4 2, w ∈ wsX4_passMinute := by decide +kernel
  have kl13 := hts (.fieldLink RX4 13 "WarmStones$Sitting" "heat" "I") (by decide +kernel)
  have kl30 := hts (.methodLink RX4 30 Lib.Math.min.name) (by decide +kernel)
  have kl7 := hts (.fieldLink RX4 7 "WarmStones$Sitting" "warmth" "I") (by decide +kernel)
  have km_c_min := hts (.code Lib.Math.min.name Lib.Math.min.code 2 (some .int)) (by decide +kernel)
  have km_i := hts (.initialized "java/lang/Math") (by decide +kernel)
  have km_s_min := hts (.static Lib.Math.min.name) (by decide +kernel)
  refine lv_aload_n hx hb dX4_passMinute_0 rfl (lv_at hl 1 rfl) ?_
  refine lv_iload_n hx hb dX4_passMinute_1 rfl (lv_at hl 3 rfl) ?_
  refine x_calliR (x_runV (As := [.int bq]) (rest := []) (n := 1) (C := RX6) (ci := 6) ⟨hx, hb, hml, hown, hts⟩ (k_X6_hasStone l G t t1 t2 t3 t4 t5 t6 _ ns np fu fd fi sz_ pt fh kd nd fw bq) gX4_passMinute_X6_hasStone rfl (by decide +kernel) ⟨Nat.le_trans (Nat.le_of_ble_eq_true rfl) hRf, Nat.le_trans (Nat.le_of_ble_eq_true rfl) hRl⟩ hKK hSS hS hA hP hD [1, 2, 3, 4, 5, 6, 7] (by decide) rfl rfl rfl 1 rfl rfl hl.1 rfl (Nat.le_of_ble_eq_true rfl) dX4_passMinute_2) hP hD hS hA [1, 2, 3, 4, 5, 6, 7] rfl (fun r_1 _ H locs hw hP hS => ?_)
  replace hw := hw.symm; subst hw
  refine lv_istore (lv' := [(4, .int (if ¬ bq < 0 ∧ ¬ ns ≤ bq then 1 else 0)), (0, .ref s0), (1, .ref t), (2, .int pq), (3, .int bq)]) hx hb dX4_passMinute_5 hl (by decide) rfl (fun ls hl => ?_)
  refine lv_iload hx hb dX4_passMinute_7 (lv_at hl 0 rfl) ?_
  refine lv_if_eq (tgt := 50) hx hb dX4_passMinute_9 (by decide) (fun hc_2 => ?_) (fun hc_2 => ?_)
  · have hv := hv.1 (tv_eq.mp hc_2)
    refine lv_aload_n hx hb dX4_passMinute_50 rfl (lv_at hl 1 rfl) ?_
    refine lv_dup hx hb dX4_passMinute_51 rfl ?_
    refine va_get (D := G.1) (ci := 4) (v := .int sw) (C := RX4) (T := TX4) (N := 2) hx hb hts hinX4 hown hKK.1 hP 0 rfl rfl 0 (by decide) kl7 (fun _ h9 => h9) rfl dX4_passMinute_52 ?_
    refine lv_aload_n hx hb dX4_passMinute_55 rfl (lv_at hl 1 rfl) ?_
    refine va_get (D := G.1) (ci := 4) (v := .int sw) (C := RX4) (T := TX4) (N := 2) hx hb hts hinX4 hown hKK.1 hP 0 rfl rfl 0 (by decide) kl7 (fun _ h9 => h9) rfl dX4_passMinute_56 ?_
    refine lv_aload_n hx hb dX4_passMinute_59 rfl (lv_at hl 2 rfl) ?_
    refine lv_iload_n hx hb dX4_passMinute_60 rfl (lv_at hl 3 rfl) ?_
    refine lv_iload hx hb dX4_passMinute_61 (lv_at hl 0 rfl) ?_
    obtain ⟨hp, hv⟩ := hv
    refine x_calliR (x_runV (As := [.int pq, .int (if ¬ bq < 0 ∧ ¬ ns ≤ bq then 1 else 0)]) (rest := [.int sw, .int sw, .ref s0]) (n := 2) (C := RX6) (ci := 6) ⟨hx, hb, hml, hown, hts⟩ (k_X6_frostOn l G t t1 t2 t3 t4 t5 t6 _ ns np fu fd fi sz_ pt fh kd nd fw pq (if ¬ bq < 0 ∧ ¬ ns ≤ bq then 1 else 0) hp) gX4_passMinute_X6_frostOn rfl (by decide +kernel) ⟨Nat.le_trans (Nat.le_of_ble_eq_true rfl) hRf, Nat.le_trans (Nat.le_of_ble_eq_true rfl) hRl⟩ hKK hSS hS hA hP hD [1, 2, 3, 4, 5, 6, 7] (by decide) rfl rfl rfl 1 rfl rfl hl.1 rfl (Nat.le_of_ble_eq_true rfl) dX4_passMinute_63) hP hD hS hA [1, 2, 3, 4, 5, 6, 7] rfl (fun r_3 _ H locs hw hP hS => ?_)
    replace hw := hw.symm; subst hw
    refine va_mmin hx hb (hml.trans hl.1.symm) hown kl30 km_s_min km_i km_c_min (Nat.le_trans (Nat.le_of_ble_eq_true rfl) hRf) (Nat.le_trans (Nat.le_of_ble_eq_true rfl) hRl) (Nat.zero_le _) (Nat.zero_le _) dX4_passMinute_66 ?_
    refine lv_isub hx hb dX4_passMinute_69 ?_
    refine va_put (D := G.1) (ci := 4) (v := .int (sw - (if (frostI (kd pq.toNatClampNeg) fu fd (if ¬ bq < 0 ∧ ¬ ns ≤ bq then 1 else 0)) < sw then (frostI (kd pq.toNatClampNeg) fu fd (if ¬ bq < 0 ∧ ¬ ns ≤ bq then 1 else 0)) else sw))) (ty := .int) (C := RX4) (T := TX4) (N := 2) hx hb hts hinX4 tyX4 tyX4_ok nmX4 hown hKK.1 hP hD hS 0 rfl rfl 0 (by decide) kl7 (fun _ h9 => h9) rfl (by decide +kernel) rfl rfl (Nat.le_of_ble_eq_true rfl) dX4_passMinute_70 (fun H locs hP hD hS => ?_)
    have hP : va_P G.1 vwCl [(s0, .inr (4, [.int (sw - (if (frostI (kd pq.toNatClampNeg) fu fd (if ¬ bq < 0 ∧ ¬ ns ≤ bq then 1 else 0)) < sw then (frostI (kd pq.toNatClampNeg) fu fd (if ¬ bq < 0 ∧ ¬ ns ≤ bq then 1 else 0)) else sw)), .int sh])), (t, .inr (6, [.int ns, .int np, .int fu, .int fd, .int fi, .ref t1, .ref t2, .ref t3, .ref t4, .ref t5, .ref t6])), aI G t1 9 sz_, aI G t2 9 pt, aI G t3 9 fh, aI G t4 8 kd, aI G t5 8 nd, aI G t6 8 fw] H := hP
    have hD : va_D A [(s0, .inr (4, [.int (sw - (if (frostI (kd pq.toNatClampNeg) fu fd (if ¬ bq < 0 ∧ ¬ ns ≤ bq then 1 else 0)) < sw then (frostI (kd pq.toNatClampNeg) fu fd (if ¬ bq < 0 ∧ ¬ ns ≤ bq then 1 else 0)) else sw)), .int sh])), (t, .inr (6, [.int ns, .int np, .int fu, .int fd, .int fi, .ref t1, .ref t2, .ref t3, .ref t4, .ref t5, .ref t6])), aI G t1 9 sz_, aI G t2 9 pt, aI G t3 9 fh, aI G t4 8 kd, aI G t5 8 nd, aI G t6 8 fw] := hD
    exact x_vret ((sw - (if (frostI (kd pq.toNatClampNeg) fu fd (if ¬ bq < 0 ∧ ¬ ns ≤ bq then 1 else 0)) < sw then (frostI (kd pq.toNatClampNeg) fu fd (if ¬ bq < 0 ∧ ¬ ns ≤ bq then 1 else 0)) else sw)), sh) hQ hx hb hr hlocks hS dX4_passMinute_73 hv hP hD
  · have hv := hv.2 (tv_eqn.mp hc_2)
    refine lv_aload_n hx hb dX4_passMinute_12 rfl (lv_at hl 2 rfl) ?_
    refine lv_iload_n hx hb dX4_passMinute_13 rfl (lv_at hl 3 rfl) ?_
    refine lv_iload_n hx hb dX4_passMinute_14 rfl (lv_at hl 4 rfl) ?_
    refine lv_aload_n hx hb dX4_passMinute_15 rfl (lv_at hl 1 rfl) ?_
    refine va_get (D := G.1) (ci := 4) (v := .int sw) (C := RX4) (T := TX4) (N := 2) hx hb hts hinX4 hown hKK.1 hP 0 rfl rfl 0 (by decide) kl7 (fun _ h9 => h9) rfl dX4_passMinute_16 ?_
    refine lv_aload_n hx hb dX4_passMinute_19 rfl (lv_at hl 1 rfl) ?_
    refine va_get (D := G.1) (ci := 4) (v := .int sh) (C := RX4) (T := TX4) (N := 2) hx hb hts hinX4 hown hKK.1 hP 0 rfl rfl 1 (by decide) kl13 (fun _ h9 => h9) rfl dX4_passMinute_20 ?_
    obtain ⟨hp, hv⟩ := hv
    refine x_calliR (x_runV (As := [.int pq, .int bq, .int sw, .int sh]) (rest := []) (n := 4) (C := RX6) (ci := 6) ⟨hx, hb, hml, hown, hts⟩ (k_X6_flow l G t t1 t2 t3 t4 t5 t6 _ ns np fu fd fi sz_ pt fh kd nd fw pq bq sw sh hp) gX4_passMinute_X6_flow rfl (by decide +kernel) ⟨Nat.le_trans (Nat.le_of_ble_eq_true rfl) hRf, Nat.le_trans (Nat.le_of_ble_eq_true rfl) hRl⟩ hKK hSS hS hA hP hD [1, 2, 3, 4, 5, 6, 7] (by decide) rfl rfl rfl 1 rfl rfl hl.1 rfl (Nat.le_of_ble_eq_true rfl) dX4_passMinute_23) hP hD hS hA [1, 2, 3, 4, 5, 6, 7] rfl (fun r_4 _ H locs hw hP hS => ?_)
    replace hw := hw.symm; subst hw
    refine lv_istore (lv' := [(5, .int (flowI (kd pq.toNatClampNeg) (sz_ bq.toNatClampNeg) sw sh)), (4, .int (if ¬ bq < 0 ∧ ¬ ns ≤ bq then 1 else 0)), (0, .ref s0), (1, .ref t), (2, .int pq), (3, .int bq)]) hx hb dX4_passMinute_26 hl (by decide) rfl (fun ls hl => ?_)
    refine lv_aload_n hx hb dX4_passMinute_28 rfl (lv_at hl 2 rfl) ?_
    refine lv_dup hx hb dX4_passMinute_29 rfl ?_
    refine va_get (D := G.1) (ci := 4) (v := .int sw) (C := RX4) (T := TX4) (N := 2) hx hb hts hinX4 hown hKK.1 hP 0 rfl rfl 0 (by decide) kl7 (fun _ h9 => h9) rfl dX4_passMinute_30 ?_
    refine lv_iload hx hb dX4_passMinute_33 (lv_at hl 0 rfl) ?_
    refine lv_isub hx hb dX4_passMinute_35 ?_
    refine va_put (D := G.1) (ci := 4) (v := .int (sw - (flowI (kd pq.toNatClampNeg) (sz_ bq.toNatClampNeg) sw sh))) (ty := .int) (C := RX4) (T := TX4) (N := 2) hx hb hts hinX4 tyX4 tyX4_ok nmX4 hown hKK.1 hP hD hS 0 rfl rfl 0 (by decide) kl7 (fun _ h9 => h9) rfl (by decide +kernel) rfl rfl (Nat.le_of_ble_eq_true rfl) dX4_passMinute_36 (fun H locs hP hD hS => ?_)
    have hP : va_P G.1 vwCl [(s0, .inr (4, [.int (sw - (flowI (kd pq.toNatClampNeg) (sz_ bq.toNatClampNeg) sw sh)), .int sh])), (t, .inr (6, [.int ns, .int np, .int fu, .int fd, .int fi, .ref t1, .ref t2, .ref t3, .ref t4, .ref t5, .ref t6])), aI G t1 9 sz_, aI G t2 9 pt, aI G t3 9 fh, aI G t4 8 kd, aI G t5 8 nd, aI G t6 8 fw] H := hP
    have hD : va_D A [(s0, .inr (4, [.int (sw - (flowI (kd pq.toNatClampNeg) (sz_ bq.toNatClampNeg) sw sh)), .int sh])), (t, .inr (6, [.int ns, .int np, .int fu, .int fd, .int fi, .ref t1, .ref t2, .ref t3, .ref t4, .ref t5, .ref t6])), aI G t1 9 sz_, aI G t2 9 pt, aI G t3 9 fh, aI G t4 8 kd, aI G t5 8 nd, aI G t6 8 fw] := hD
    refine lv_aload_n hx hb dX4_passMinute_39 rfl (lv_at hl 2 rfl) ?_
    refine lv_dup hx hb dX4_passMinute_40 rfl ?_
    refine va_get (D := G.1) (ci := 4) (v := .int sh) (C := RX4) (T := TX4) (N := 2) hx hb hts hinX4 hown hKK.1 hP 0 rfl rfl 1 (by decide) kl13 (fun _ h9 => h9) rfl dX4_passMinute_41 ?_
    refine lv_iload hx hb dX4_passMinute_44 (lv_at hl 0 rfl) ?_
    refine lv_iadd hx hb dX4_passMinute_46 ?_
    refine va_put (D := G.1) (ci := 4) (v := .int (sh + (flowI (kd pq.toNatClampNeg) (sz_ bq.toNatClampNeg) sw sh))) (ty := .int) (C := RX4) (T := TX4) (N := 2) hx hb hts hinX4 tyX4 tyX4_ok nmX4 hown hKK.1 hP hD hS 0 rfl rfl 1 (by decide) kl13 (fun _ h9 => h9) rfl (by decide +kernel) rfl rfl (Nat.le_of_ble_eq_true rfl) dX4_passMinute_47 (fun H locs hP hD hS => ?_)
    have hP : va_P G.1 vwCl [(s0, .inr (4, [.int (sw - (flowI (kd pq.toNatClampNeg) (sz_ bq.toNatClampNeg) sw sh)), .int (sh + (flowI (kd pq.toNatClampNeg) (sz_ bq.toNatClampNeg) sw sh))])), (t, .inr (6, [.int ns, .int np, .int fu, .int fd, .int fi, .ref t1, .ref t2, .ref t3, .ref t4, .ref t5, .ref t6])), aI G t1 9 sz_, aI G t2 9 pt, aI G t3 9 fh, aI G t4 8 kd, aI G t5 8 nd, aI G t6 8 fw] H := hP
    have hD : va_D A [(s0, .inr (4, [.int (sw - (flowI (kd pq.toNatClampNeg) (sz_ bq.toNatClampNeg) sw sh)), .int (sh + (flowI (kd pq.toNatClampNeg) (sz_ bq.toNatClampNeg) sw sh))])), (t, .inr (6, [.int ns, .int np, .int fu, .int fd, .int fi, .ref t1, .ref t2, .ref t3, .ref t4, .ref t5, .ref t6])), aI G t1 9 sz_, aI G t2 9 pt, aI G t3 9 fh, aI G t4 8 kd, aI G t5 8 nd, aI G t6 8 fw] := hD
    refine lv_aload_n hx hb dX4_passMinute_50 rfl (lv_at hl 2 rfl) ?_
    refine lv_dup hx hb dX4_passMinute_51 rfl ?_
    refine va_get (D := G.1) (ci := 4) (v := .int (sw - (flowI (kd pq.toNatClampNeg) (sz_ bq.toNatClampNeg) sw sh))) (C := RX4) (T := TX4) (N := 2) hx hb hts hinX4 hown hKK.1 hP 0 rfl rfl 0 (by decide) kl7 (fun _ h9 => h9) rfl dX4_passMinute_52 ?_
    refine lv_aload_n hx hb dX4_passMinute_55 rfl (lv_at hl 2 rfl) ?_
    refine va_get (D := G.1) (ci := 4) (v := .int (sw - (flowI (kd pq.toNatClampNeg) (sz_ bq.toNatClampNeg) sw sh))) (C := RX4) (T := TX4) (N := 2) hx hb hts hinX4 hown hKK.1 hP 0 rfl rfl 0 (by decide) kl7 (fun _ h9 => h9) rfl dX4_passMinute_56 ?_
    refine lv_aload_n hx hb dX4_passMinute_59 rfl (lv_at hl 3 rfl) ?_
    refine lv_iload_n hx hb dX4_passMinute_60 rfl (lv_at hl 4 rfl) ?_
    refine lv_iload hx hb dX4_passMinute_61 (lv_at hl 1 rfl) ?_
    obtain ⟨hp, hv⟩ := hv
    refine x_calliR (x_runV (As := [.int pq, .int (if ¬ bq < 0 ∧ ¬ ns ≤ bq then 1 else 0)]) (rest := [.int (sw - (flowI (kd pq.toNatClampNeg) (sz_ bq.toNatClampNeg) sw sh)), .int (sw - (flowI (kd pq.toNatClampNeg) (sz_ bq.toNatClampNeg) sw sh)), .ref s0]) (n := 2) (C := RX6) (ci := 6) ⟨hx, hb, hml, hown, hts⟩ (k_X6_frostOn l G t t1 t2 t3 t4 t5 t6 _ ns np fu fd fi sz_ pt fh kd nd fw pq (if ¬ bq < 0 ∧ ¬ ns ≤ bq then 1 else 0) hp) gX4_passMinute_X6_frostOn rfl (by decide +kernel) ⟨Nat.le_trans (Nat.le_of_ble_eq_true rfl) hRf, Nat.le_trans (Nat.le_of_ble_eq_true rfl) hRl⟩ hKK hSS hS hA hP hD [1, 2, 3, 4, 5, 6, 7] (by decide) rfl rfl rfl 1 rfl rfl hl.1 rfl (Nat.le_of_ble_eq_true rfl) dX4_passMinute_63) hP hD hS hA [1, 2, 3, 4, 5, 6, 7] rfl (fun r_5 _ H locs hw hP hS => ?_)
    replace hw := hw.symm; subst hw
    refine va_mmin hx hb (hml.trans hl.1.symm) hown kl30 km_s_min km_i km_c_min (Nat.le_trans (Nat.le_of_ble_eq_true rfl) hRf) (Nat.le_trans (Nat.le_of_ble_eq_true rfl) hRl) (Nat.zero_le _) (Nat.zero_le _) dX4_passMinute_66 ?_
    refine lv_isub hx hb dX4_passMinute_69 ?_
    refine va_put (D := G.1) (ci := 4) (v := .int ((sw - (flowI (kd pq.toNatClampNeg) (sz_ bq.toNatClampNeg) sw sh)) - (if (frostI (kd pq.toNatClampNeg) fu fd (if ¬ bq < 0 ∧ ¬ ns ≤ bq then 1 else 0)) < (sw - (flowI (kd pq.toNatClampNeg) (sz_ bq.toNatClampNeg) sw sh)) then (frostI (kd pq.toNatClampNeg) fu fd (if ¬ bq < 0 ∧ ¬ ns ≤ bq then 1 else 0)) else (sw - (flowI (kd pq.toNatClampNeg) (sz_ bq.toNatClampNeg) sw sh))))) (ty := .int) (C := RX4) (T := TX4) (N := 2) hx hb hts hinX4 tyX4 tyX4_ok nmX4 hown hKK.1 hP hD hS 0 rfl rfl 0 (by decide) kl7 (fun _ h9 => h9) rfl (by decide +kernel) rfl rfl (Nat.le_of_ble_eq_true rfl) dX4_passMinute_70 (fun H locs hP hD hS => ?_)
    have hP : va_P G.1 vwCl [(s0, .inr (4, [.int ((sw - (flowI (kd pq.toNatClampNeg) (sz_ bq.toNatClampNeg) sw sh)) - (if (frostI (kd pq.toNatClampNeg) fu fd (if ¬ bq < 0 ∧ ¬ ns ≤ bq then 1 else 0)) < (sw - (flowI (kd pq.toNatClampNeg) (sz_ bq.toNatClampNeg) sw sh)) then (frostI (kd pq.toNatClampNeg) fu fd (if ¬ bq < 0 ∧ ¬ ns ≤ bq then 1 else 0)) else (sw - (flowI (kd pq.toNatClampNeg) (sz_ bq.toNatClampNeg) sw sh)))), .int (sh + (flowI (kd pq.toNatClampNeg) (sz_ bq.toNatClampNeg) sw sh))])), (t, .inr (6, [.int ns, .int np, .int fu, .int fd, .int fi, .ref t1, .ref t2, .ref t3, .ref t4, .ref t5, .ref t6])), aI G t1 9 sz_, aI G t2 9 pt, aI G t3 9 fh, aI G t4 8 kd, aI G t5 8 nd, aI G t6 8 fw] H := hP
    have hD : va_D A [(s0, .inr (4, [.int ((sw - (flowI (kd pq.toNatClampNeg) (sz_ bq.toNatClampNeg) sw sh)) - (if (frostI (kd pq.toNatClampNeg) fu fd (if ¬ bq < 0 ∧ ¬ ns ≤ bq then 1 else 0)) < (sw - (flowI (kd pq.toNatClampNeg) (sz_ bq.toNatClampNeg) sw sh)) then (frostI (kd pq.toNatClampNeg) fu fd (if ¬ bq < 0 ∧ ¬ ns ≤ bq then 1 else 0)) else (sw - (flowI (kd pq.toNatClampNeg) (sz_ bq.toNatClampNeg) sw sh)))), .int (sh + (flowI (kd pq.toNatClampNeg) (sz_ bq.toNatClampNeg) sw sh))])), (t, .inr (6, [.int ns, .int np, .int fu, .int fd, .int fi, .ref t1, .ref t2, .ref t3, .ref t4, .ref t5, .ref t6])), aI G t1 9 sz_, aI G t2 9 pt, aI G t3 9 fh, aI G t4 8 kd, aI G t5 8 nd, aI G t6 8 fw] := hD
    exact x_vret (((sw - (flowI (kd pq.toNatClampNeg) (sz_ bq.toNatClampNeg) sw sh)) - (if (frostI (kd pq.toNatClampNeg) fu fd (if ¬ bq < 0 ∧ ¬ ns ≤ bq then 1 else 0)) < (sw - (flowI (kd pq.toNatClampNeg) (sz_ bq.toNatClampNeg) sw sh)) then (frostI (kd pq.toNatClampNeg) fu fd (if ¬ bq < 0 ∧ ¬ ns ≤ bq then 1 else 0)) else (sw - (flowI (kd pq.toNatClampNeg) (sz_ bq.toNatClampNeg) sw sh)))), (sh + (flowI (kd pq.toNatClampNeg) (sz_ bq.toNatClampNeg) sw sh))) hQ hx hb hr hlocks hS dX4_passMinute_73 hv hP hD
theorem k_X4_passMinute (l : Launch) (G : Gt) (s0 t t1 t2 t3 t4 t5 t6 : Nat) (sz : Nat) (sw : Int32) (sh : Int32) (ns : Int32) (np : Int32) (fu : Int32) (fd : Int32) (fi : Int32) (sz_ : Nat → Int32) (pt : Nat → Int32) (fh : Nat → Int32) (kd : Nat → Int32) (nd : Nat → Int32) (fw : Nat → Int32) (pq : Int32) (bq : Int32) (hp : vp_in pq 8 ∧ (¬ bq < 0 → ¬ ns ≤ bq → vp_in bq 9)) : MetV l yX4_passMinute wsX4_passMinute 2 45 G [.ref s0, .ref t, .int pq, .int bq] [(s0, .inr (4, [.int sw, .int sh])), (t, .inr (6, [.int ns, .int np, .int fu, .int fd, .int fi, .ref t1, .ref t2, .ref t3, .ref t4, .ref t5, .ref t6])), aI G t1 9 sz_, aI G t2 9 pt, aI G t3 9 fh, aI G t4 8 kd, aI G t5 8 nd, aI G t6 8 fw] sz (fun (u : (Int32) × (Int32)) => (u.1 : Int32) = sitW ns fu fd (kd pq.toNatClampNeg) (sz_ bq.toNatClampNeg) bq sw sh ∧ (u.2 : Int32) = sitH ns (kd pq.toNatClampNeg) (sz_ bq.toNatClampNeg) bq sw sh) (fun (u : (Int32) × (Int32)) => [(s0, .inr (4, [.int u.1, .int u.2])), (t, .inr (6, [.int ns, .int np, .int fu, .int fd, .int fi, .ref t1, .ref t2, .ref t3, .ref t4, .ref t5, .ref t6])), aI G t1 9 sz_, aI G t2 9 pt, aI G t3 9 fh, aI G t4 8 kd, aI G t5 8 nd, aI G t6 8 fw]) :=
  c_X4_passMinute l G s0 t t1 t2 t3 t4 t5 t6 sz sw sh ns np fu fd fi sz_ pt fh kd nd fw pq bq (by
    sorry)

set_option maxHeartbeats 4000000 in
set_option maxRecDepth 100000 in
theorem c_X0_append (l : Launch) (G : Gt) (b0 b01 b02 : Nat) (sz : Nat) (en : Int32) (bs : Nat → Int32) (bh : Nat → Int32) (x : Int32) (y : Int32) (hv : (30 ≤ en → (en : Int32) = en + 1 ∧ ((bs : Nat → Int32) = upd bs en.toNatClampNeg x) ∧ ((bh : Nat → Int32) = upd bh en.toNatClampNeg y)) ∧ (¬ (30 ≤ en) → (vp_in en 30) ∧ ((vp_in en 30) ∧ (((en + 1) : Int32) = en + 1 ∧ (((upd bs en.toNatClampNeg x) : Nat → Int32) = upd bs en.toNatClampNeg x) ∧ (((upd bh en.toNatClampNeg y) : Nat → Int32) = upd bh en.toNatClampNeg y))))) : MetV l yX0_append wsX0_append 0 0 G [.ref b0, .int x, .int y] [(b0, .inr (0, [.ref b01, .ref b02, .int en])), aI G b01 30 bs, aI G b02 30 bh] sz (fun (u : (Int32) × (Nat → Int32) × (Nat → Int32)) => (u.1 : Int32) = en + 1 ∧ ((u.2.1 : Nat → Int32) = upd bs en.toNatClampNeg x) ∧ ((u.2.2 : Nat → Int32) = upd bh en.toNatClampNeg y)) (fun (u : (Int32) × (Nat → Int32) × (Nat → Int32)) => [(b0, .inr (0, [.ref b01, .ref b02, .int u.1])), aI G b01 30 u.2.1, aI G b02 30 u.2.2]) := by
  refine x_startV (cc := cX0_append) (maxL := 3) (ret := none) (by decide) rfl (Nat.le_of_ble_eq_true rfl) ?_
  intro p e s m args below meth c A R Q ls hRf hRl hQ C hP hD hS hA hSS hl
  obtain ⟨hx, hb, hr, hml, hown, hts, hlocks, hKK⟩ := C
  have hown : s.vm.findClass RX0 = some m.cls := hown
  have hl : lv_has ls 3 [(0, .ref b0), (1, .int x), (2, .int y)] := hl
  have hinX0 : ∀ w ∈ u_ws RX0 TX0 3, w ∈ wsX0_append := by decide +kernel
  have kl15 := hts (.fieldLink RX0 15 "WarmStones$Book" "heat" "[I") (by decide +kernel)
  have kl18 := hts (.fieldLink RX0 18 "WarmStones$Book" "entries" "I") (by decide +kernel)
  have kl9 := hts (.fieldLink RX0 9 "WarmStones$Book" "stone" "[I") (by decide +kernel)
  refine lv_aload_n hx hb dX0_append_0 rfl (lv_at hl 0 rfl) ?_
  refine va_get (D := G.1) (ci := 0) (v := .int en) (C := RX0) (T := TX0) (N := 3) hx hb hts hinX0 hown hKK.1 hP 0 rfl rfl 2 (by decide) kl18 (fun _ h9 => h9) rfl dX0_append_1 ?_
  refine lv_bipush (v := 30) hx hb dX0_append_4 (by decide) ?_
  refine lv_icmp_ge (tgt := 39) hx hb dX0_append_6 (by decide) (fun hc_1 => ?_) (fun hc_1 => ?_)
  · have hv := hv.1 hc_1
    exact x_vret (en, bs, bh) hQ hx hb hr hlocks hS dX0_append_39 hv hP hD
  · have hv := hv.2 hc_1
    refine lv_aload_n hx hb dX0_append_9 rfl (lv_at hl 0 rfl) ?_
    refine va_get (D := G.1) (ci := 0) (v := .ref b01) (C := RX0) (T := TX0) (N := 3) hx hb hts hinX0 hown hKK.1 hP 0 rfl rfl 0 (by decide) kl9 (fun _ h9 => h9) rfl dX0_append_10 ?_
    refine lv_aload_n hx hb dX0_append_13 rfl (lv_at hl 0 rfl) ?_
    refine va_get (D := G.1) (ci := 0) (v := .int en) (C := RX0) (T := TX0) (N := 3) hx hb hts hinX0 hown hKK.1 hP 0 rfl rfl 2 (by decide) kl18 (fun _ h9 => h9) rfl dX0_append_14 ?_
    refine lv_iload_n hx hb dX0_append_17 rfl (lv_at hl 1 rfl) ?_
    obtain ⟨hin, hv⟩ := hv
    refine va_iast hx hb hKK.1 hP hD hS 1 0 rfl rfl hin dX0_append_18 (fun H locs hP hD hS => ?_)
    have hP : va_P G.1 vwCl [(b0, .inr (0, [.ref b01, .ref b02, .int en])), aI G b01 30 (upd bs en.toNatClampNeg x), aI G b02 30 bh] H := hP
    have hD : va_D A [(b0, .inr (0, [.ref b01, .ref b02, .int en])), aI G b01 30 (upd bs en.toNatClampNeg x), aI G b02 30 bh] := hD
    refine lv_aload_n hx hb dX0_append_19 rfl (lv_at hl 0 rfl) ?_
    refine va_get (D := G.1) (ci := 0) (v := .ref b02) (C := RX0) (T := TX0) (N := 3) hx hb hts hinX0 hown hKK.1 hP 0 rfl rfl 1 (by decide) kl15 (fun _ h9 => h9) rfl dX0_append_20 ?_
    refine lv_aload_n hx hb dX0_append_23 rfl (lv_at hl 0 rfl) ?_
    refine va_get (D := G.1) (ci := 0) (v := .int en) (C := RX0) (T := TX0) (N := 3) hx hb hts hinX0 hown hKK.1 hP 0 rfl rfl 2 (by decide) kl18 (fun _ h9 => h9) rfl dX0_append_24 ?_
    refine lv_iload_n hx hb dX0_append_27 rfl (lv_at hl 2 rfl) ?_
    obtain ⟨hin, hv⟩ := hv
    refine va_iast hx hb hKK.1 hP hD hS 2 0 rfl rfl hin dX0_append_28 (fun H locs hP hD hS => ?_)
    have hP : va_P G.1 vwCl [(b0, .inr (0, [.ref b01, .ref b02, .int en])), aI G b01 30 (upd bs en.toNatClampNeg x), aI G b02 30 (upd bh en.toNatClampNeg y)] H := hP
    have hD : va_D A [(b0, .inr (0, [.ref b01, .ref b02, .int en])), aI G b01 30 (upd bs en.toNatClampNeg x), aI G b02 30 (upd bh en.toNatClampNeg y)] := hD
    refine lv_aload_n hx hb dX0_append_29 rfl (lv_at hl 0 rfl) ?_
    refine lv_dup hx hb dX0_append_30 rfl ?_
    refine va_get (D := G.1) (ci := 0) (v := .int en) (C := RX0) (T := TX0) (N := 3) hx hb hts hinX0 hown hKK.1 hP 0 rfl rfl 2 (by decide) kl18 (fun _ h9 => h9) rfl dX0_append_31 ?_
    refine lv_iconst (v := 1) hx hb dX0_append_34 (by decide) ?_
    refine lv_iadd hx hb dX0_append_35 ?_
    refine va_put (D := G.1) (ci := 0) (v := .int (en + 1)) (ty := .int) (C := RX0) (T := TX0) (N := 3) hx hb hts hinX0 tyX0 tyX0_ok nmX0 hown hKK.1 hP hD hS 0 rfl rfl 2 (by decide) kl18 (fun _ h9 => h9) rfl (by decide +kernel) rfl rfl (Nat.le_of_ble_eq_true rfl) dX0_append_36 (fun H locs hP hD hS => ?_)
    have hP : va_P G.1 vwCl [(b0, .inr (0, [.ref b01, .ref b02, .int (en + 1)])), aI G b01 30 (upd bs en.toNatClampNeg x), aI G b02 30 (upd bh en.toNatClampNeg y)] H := hP
    have hD : va_D A [(b0, .inr (0, [.ref b01, .ref b02, .int (en + 1)])), aI G b01 30 (upd bs en.toNatClampNeg x), aI G b02 30 (upd bh en.toNatClampNeg y)] := hD
    exact x_vret ((en + 1), (upd bs en.toNatClampNeg x), (upd bh en.toNatClampNeg y)) hQ hx hb hr hlocks hS dX0_append_39 hv hP hD
theorem k_X0_append (l : Launch) (G : Gt) (b0 b01 b02 : Nat) (sz : Nat) (en : Int32) (bs : Nat → Int32) (bh : Nat → Int32) (x : Int32) (y : Int32) (hp : vp_in en 30 ∧ en < 30) : MetV l yX0_append wsX0_append 0 0 G [.ref b0, .int x, .int y] [(b0, .inr (0, [.ref b01, .ref b02, .int en])), aI G b01 30 bs, aI G b02 30 bh] sz (fun (u : (Int32) × (Nat → Int32) × (Nat → Int32)) => (u.1 : Int32) = en + 1 ∧ ((u.2.1 : Nat → Int32) = upd bs en.toNatClampNeg x) ∧ ((u.2.2 : Nat → Int32) = upd bh en.toNatClampNeg y)) (fun (u : (Int32) × (Nat → Int32) × (Nat → Int32)) => [(b0, .inr (0, [.ref b01, .ref b02, .int u.1])), aI G b01 30 u.2.1, aI G b02 30 u.2.2]) :=
  c_X0_append l G b0 b01 b02 sz en bs bh x y (by
    simp_all)

set_option maxHeartbeats 4000000 in
set_option maxRecDepth 100000 in
theorem c_X0_firstWrong (l : Launch) (G : Gt) (b0 b01 b02 t t1 t2 t3 t4 t5 t6 n n1 n2 n3 n4 n5 n6 n7 : Nat) (sz : Nat) (en : Int32) (bs : Nat → Int32) (bh : Nat → Int32) (ns : Int32) (np : Int32) (fu : Int32) (fd : Int32) (fi : Int32) (sz_ : Nat → Int32) (pt : Nat → Int32) (fh : Nat → Int32) (kd : Nat → Int32) (nd : Nat → Int32) (fw : Nat → Int32) (ht : Nat → Int32) (wm : Nat → Int32) (se : Nat → Int32) (cd : Nat → Int32) (sl : Nat → Int32) (od : Nat → Int32) (ow : Nat → Int32) (lo : Int32) (mi : Int32) (sd : Int32) (hv : ∃ (I2_10 : (Nat → Int32) → (Nat → Int32) → (Nat → Int32) → (Nat → Int32) → (Nat → Int32) → (Nat → Int32) → Int32 → Int32 → Int32 → Prop) (μ2_11 : (Nat → Int32) → (Nat → Int32) → (Nat → Int32) → (Nat → Int32) → (Nat → Int32) → (Nat → Int32) → Int32 → Int32 → Int32 → Nat), I2_10 ht wm cd sl od ow lo mi 0 ∧ (∀ (fn1_1 : (Nat → Int32)) (fn2_2 : (Nat → Int32)) (fn4_3 : (Nat → Int32)) (fn5_4 : (Nat → Int32)) (fn6_5 : (Nat → Int32)) (fn7_6 : (Nat → Int32)) (gn7_7 : Int32) (gn8_8 : Int32) (x3_9 : Int32), I2_10 fn1_1 fn2_2 fn4_3 fn5_4 fn6_5 fn7_6 gn7_7 gn8_8 x3_9 → (en ≤ x3_9 → True) ∧ (¬ (en ≤ x3_9) → (vp_in x3_9 30) ∧ ((¬ (¬ (bs x3_9.toNatClampNeg) < 0 ∧ ¬ ns ≤ (bs x3_9.toNatClampNeg)) → True) ∧ (¬ (bs x3_9.toNatClampNeg) < 0 ∧ ¬ ns ≤ (bs x3_9.toNatClampNeg) → (vp_in x3_9 30) ∧ ((vp_in (bs x3_9.toNatClampNeg) 9) ∧ ((vp_in x3_9 30) ∧ (((fn1_1 (bs x3_9.toNatClampNeg).toNatClampNeg) = (bh x3_9.toNatClampNeg) → (True) ∧ (∀ (r_18 : Int32) (ht2_19 : Nat → Int32) (wm2_20 : Nat → Int32) (cd2_21 : Nat → Int32) (sl2_22 : Nat → Int32) (od2_23 : Nat → Int32) (ow2_24 : Nat → Int32) (lo2_25 : Int32) (mi2_26 : Int32), (True) → (I2_10 ht2_19 wm2_20 cd2_21 sl2_22 od2_23 ow2_24 lo2_25 mi2_26 (x3_9 + 1) ∧ μ2_11 ht2_19 wm2_20 cd2_21 sl2_22 od2_23 ow2_24 lo2_25 mi2_26 (x3_9 + 1) < μ2_11 fn1_1 fn2_2 fn4_3 fn5_4 fn6_5 fn7_6 gn7_7 gn8_8 x3_9))) ∧ (¬ ((fn1_1 (bs x3_9.toNatClampNeg).toNatClampNeg) = (bh x3_9.toNatClampNeg)) → True))))))))) : MetI l yX0_firstWrong wsX0_firstWrong 4 95 G [.ref b0, .ref t, .ref n] [(b0, .inr (0, [.ref b01, .ref b02, .int en])), aI G b01 30 bs, aI G b02 30 bh, (t, .inr (6, [.int ns, .int np, .int fu, .int fd, .int fi, .ref t1, .ref t2, .ref t3, .ref t4, .ref t5, .ref t6])), aI G t1 9 sz_, aI G t2 9 pt, aI G t3 9 fh, aI G t4 8 kd, aI G t5 8 nd, aI G t6 8 fw, (n, .inr (1, [.ref n1, .ref n2, .ref n3, .ref n4, .ref n5, .ref n6, .ref n7, .int lo, .int mi, .int sd])), aI G n1 9 ht, aI G n2 8 wm, aI G n3 8 se, aI G n4 8 cd, aI G n5 8 sl, aI G n6 8 od, aI G n7 72 ow] sz (fun (r : Int32) (u : (Nat → Int32) × (Nat → Int32) × (Nat → Int32) × (Nat → Int32) × (Nat → Int32) × (Nat → Int32) × (Int32) × (Int32)) => True) (fun (u : (Nat → Int32) × (Nat → Int32) × (Nat → Int32) × (Nat → Int32) × (Nat → Int32) × (Nat → Int32) × (Int32) × (Int32)) => [(b0, .inr (0, [.ref b01, .ref b02, .int en])), aI G b01 30 bs, aI G b02 30 bh, (t, .inr (6, [.int ns, .int np, .int fu, .int fd, .int fi, .ref t1, .ref t2, .ref t3, .ref t4, .ref t5, .ref t6])), aI G t1 9 sz_, aI G t2 9 pt, aI G t3 9 fh, aI G t4 8 kd, aI G t5 8 nd, aI G t6 8 fw, (n, .inr (1, [.ref n1, .ref n2, .ref n3, .ref n4, .ref n5, .ref n6, .ref n7, .int u.2.2.2.2.2.2.1, .int u.2.2.2.2.2.2.2, .int sd])), aI G n1 9 u.1, aI G n2 8 u.2.1, aI G n3 8 se, aI G n4 8 u.2.2.1, aI G n5 8 u.2.2.2.1, aI G n6 8 u.2.2.2.2.1, aI G n7 72 u.2.2.2.2.2.1]) := by
  refine x_startI (cc := cX0_firstWrong) (maxL := 4) (ret := (some .int)) (by decide) rfl (Nat.le_of_ble_eq_true rfl) ?_
  intro p e s m args below meth c A R Q ls hRf hRl hQ C hP hD hS hA hSS hl
  obtain ⟨hx, hb, hr, hml, hown, hts, hlocks, hKK⟩ := C
  have hown : s.vm.findClass RX0 = some m.cls := hown
  have hl : lv_has ls 4 [(0, .ref b0), (1, .ref t), (2, .ref n)] := hl
  have hinX0 : ∀ w ∈ u_ws RX0 TX0 3, w ∈ wsX0_firstWrong := by decide +kernel
  have hinX1 : ∀ w ∈ u_ws RX1 TX1 10, w ∈ wsX0_firstWrong := by decide +kernel
  have kl15 := hts (.fieldLink RX0 15 "WarmStones$Book" "heat" "[I") (by decide +kernel)
  have kl18 := hts (.fieldLink RX0 18 "WarmStones$Book" "entries" "I") (by decide +kernel)
  have kl28 := hts (.fieldLink RX0 28 "WarmStones$Night" "heat" "[I") (by decide +kernel)
  have kl9 := hts (.fieldLink RX0 9 "WarmStones$Book" "stone" "[I") (by decide +kernel)
  refine lv_iconst (v := 0) hx hb dX0_firstWrong_0 (by decide) ?_
  refine lv_istore_n (lv' := [(3, .int 0), (0, .ref b0), (1, .ref t), (2, .ref n)]) hx hb dX0_firstWrong_1 rfl hl (by decide) rfl (fun ls hl => ?_)
  obtain ⟨I2_10, μ2_11, hi0, hs_27⟩ := hv
  have Lm_29 : ∀ (n_28 : Nat) (fn1_1 : (Nat → Int32)) (fn2_2 : (Nat → Int32)) (fn4_3 : (Nat → Int32)) (fn5_4 : (Nat → Int32)) (fn6_5 : (Nat → Int32)) (fn7_6 : (Nat → Int32)) (gn7_7 : Int32) (gn8_8 : Int32) (x3_9 : Int32) (H : Heap) (locs : List Loc) (ls : Array Slot), μ2_11 fn1_1 fn2_2 fn4_3 fn5_4 fn6_5 fn7_6 gn7_7 gn8_8 x3_9 < n_28 → I2_10 fn1_1 fn2_2 fn4_3 fn5_4 fn6_5 fn7_6 gn7_7 gn8_8 x3_9 → va_P G.1 vwCl [(b0, .inr (0, [.ref b01, .ref b02, .int en])), aI G b01 30 bs, aI G b02 30 bh, (t, .inr (6, [.int ns, .int np, .int fu, .int fd, .int fi, .ref t1, .ref t2, .ref t3, .ref t4, .ref t5, .ref t6])), aI G t1 9 sz_, aI G t2 9 pt, aI G t3 9 fh, aI G t4 8 kd, aI G t5 8 nd, aI G t6 8 fw, (n, .inr (1, [.ref n1, .ref n2, .ref n3, .ref n4, .ref n5, .ref n6, .ref n7, .int gn7_7, .int gn8_8, .int sd])), aI G n1 9 fn1_1, aI G n2 8 fn2_2, aI G n3 8 se, aI G n4 8 fn4_3, aI G n5 8 fn5_4, aI G n6 8 fn6_5, aI G n7 72 fn7_6] H → va_D A [(b0, .inr (0, [.ref b01, .ref b02, .int en])), aI G b01 30 bs, aI G b02 30 bh, (t, .inr (6, [.int ns, .int np, .int fu, .int fd, .int fi, .ref t1, .ref t2, .ref t3, .ref t4, .ref t5, .ref t6])), aI G t1 9 sz_, aI G t2 9 pt, aI G t3 9 fh, aI G t4 8 kd, aI G t5 8 nd, aI G t6 8 fw, (n, .inr (1, [.ref n1, .ref n2, .ref n3, .ref n4, .ref n5, .ref n6, .ref n7, .int gn7_7, .int gn8_8, .int sd])), aI G n1 9 fn1_1, aI G n2 8 fn2_2, aI G n3 8 se, aI G n4 8 fn4_3, aI G n5 8 fn5_4, aI G n6 8 fn6_5, aI G n7 72 fn7_6] → va_S A s.heap H locs → lv_has ls 4 [(3, .int x3_9), (0, .ref b0), (1, .ref t), (2, .ref n)] → W p l e R s m args below meth c H locs 0 0 Q (F0 m 2 ls []) := by
    intro n_28
    induction n_28 with
    | zero => intro fn1_1 fn2_2 fn4_3 fn5_4 fn6_5 fn7_6 gn7_7 gn8_8 x3_9 H locs ls hm; exact absurd hm (Nat.not_lt_zero _)
    | succ n_28 ih_12 =>
      intro fn1_1 fn2_2 fn4_3 fn5_4 fn6_5 fn7_6 gn7_7 gn8_8 x3_9 H locs ls hI_13 hi hP hD hS hl
      have hv := hs_27 fn1_1 fn2_2 fn4_3 fn5_4 fn6_5 fn7_6 gn7_7 gn8_8 x3_9 hi
      refine lv_iload_n hx hb dX0_firstWrong_2 rfl (lv_at hl 0 rfl) ?_
      refine lv_aload_n hx hb dX0_firstWrong_3 rfl (lv_at hl 1 rfl) ?_
      refine va_get (D := G.1) (ci := 0) (v := .int en) (C := RX0) (T := TX0) (N := 3) hx hb hts hinX0 hown hKK.1 hP 0 rfl rfl 2 (by decide) kl18 (fun _ h9 => h9) rfl dX0_firstWrong_4 ?_
      refine lv_icmp_ge (tgt := 57) hx hb dX0_firstWrong_7 (by decide) (fun hc_14 => ?_) (fun hc_14 => ?_)
      · have hv := hv.1 hc_14
        refine lv_iconst (v := (-1)) hx hb dX0_firstWrong_57 (by decide) ?_
        exact x_iret (v := (-1)) (fn1_1, fn2_2, fn4_3, fn5_4, fn6_5, fn7_6, gn7_7, gn8_8) hQ hx hb hr hlocks hS dX0_firstWrong_58 hv hP hD
      · have hv := hv.2 hc_14
        refine lv_aload_n hx hb dX0_firstWrong_10 rfl (lv_at hl 2 rfl) ?_
        refine lv_aload_n hx hb dX0_firstWrong_11 rfl (lv_at hl 1 rfl) ?_
        refine va_get (D := G.1) (ci := 0) (v := .ref b01) (C := RX0) (T := TX0) (N := 3) hx hb hts hinX0 hown hKK.1 hP 0 rfl rfl 0 (by decide) kl9 (fun _ h9 => h9) rfl dX0_firstWrong_12 ?_
        refine lv_iload_n hx hb dX0_firstWrong_15 rfl (lv_at hl 0 rfl) ?_
        obtain ⟨hin, hv⟩ := hv
        refine va_iald hx hb hKK.1 hP 1 0 rfl rfl hin dX0_firstWrong_16 ?_
        refine x_calliR (x_runV (As := [.int (bs x3_9.toNatClampNeg)]) (rest := []) (n := 1) (C := RX6) (ci := 6) ⟨hx, hb, hml, hown, hts⟩ (k_X6_hasStone l G t t1 t2 t3 t4 t5 t6 _ ns np fu fd fi sz_ pt fh kd nd fw (bs x3_9.toNatClampNeg)) gX0_firstWrong_X6_hasStone rfl (by decide +kernel) ⟨Nat.le_trans (Nat.le_of_ble_eq_true rfl) hRf, Nat.le_trans (Nat.le_of_ble_eq_true rfl) hRl⟩ hKK hSS hS hA hP hD [3, 4, 5, 6, 7, 8, 9] (by decide) rfl rfl rfl 3 rfl rfl hl.1 rfl (Nat.le_of_ble_eq_true rfl) dX0_firstWrong_17) hP hD hS hA [3, 4, 5, 6, 7, 8, 9] rfl (fun r_15 _ H locs hw hP hS => ?_)
        replace hw := hw.symm; subst hw
        refine lv_if_eq (tgt := 43) hx hb dX0_firstWrong_20 (by decide) (fun hc_16 => ?_) (fun hc_16 => ?_)
        · have hv := hv.1 (tv_eq.mp hc_16)
          refine lv_iload_n hx hb dX0_firstWrong_43 rfl (lv_at hl 0 rfl) ?_
          exact x_iret (v := x3_9) (fn1_1, fn2_2, fn4_3, fn5_4, fn6_5, fn7_6, gn7_7, gn8_8) hQ hx hb hr hlocks hS dX0_firstWrong_44 hv hP hD
        · have hv := hv.2 (tv_eqn.mp hc_16)
          refine lv_aload_n hx hb dX0_firstWrong_23 rfl (lv_at hl 3 rfl) ?_
          refine va_get (D := G.1) (ci := 1) (v := .ref n1) (C := RX1) (T := TX1) (N := 10) hx hb hts hinX1 hown hKK.1 hP 10 rfl rfl 0 (by decide) kl28 (fun _ h9 => h9) rfl dX0_firstWrong_24 ?_
          refine lv_aload_n hx hb dX0_firstWrong_27 rfl (lv_at hl 1 rfl) ?_
          refine va_get (D := G.1) (ci := 0) (v := .ref b01) (C := RX0) (T := TX0) (N := 3) hx hb hts hinX0 hown hKK.1 hP 0 rfl rfl 0 (by decide) kl9 (fun _ h9 => h9) rfl dX0_firstWrong_28 ?_
          refine lv_iload_n hx hb dX0_firstWrong_31 rfl (lv_at hl 0 rfl) ?_
          obtain ⟨hin, hv⟩ := hv
          refine va_iald hx hb hKK.1 hP 1 0 rfl rfl hin dX0_firstWrong_32 ?_
          obtain ⟨hin, hv⟩ := hv
          refine va_iald hx hb hKK.1 hP 11 0 rfl rfl hin dX0_firstWrong_33 ?_
          refine lv_aload_n hx hb dX0_firstWrong_34 rfl (lv_at hl 1 rfl) ?_
          refine va_get (D := G.1) (ci := 0) (v := .ref b02) (C := RX0) (T := TX0) (N := 3) hx hb hts hinX0 hown hKK.1 hP 0 rfl rfl 1 (by decide) kl15 (fun _ h9 => h9) rfl dX0_firstWrong_35 ?_
          refine lv_iload_n hx hb dX0_firstWrong_38 rfl (lv_at hl 0 rfl) ?_
          obtain ⟨hin, hv⟩ := hv
          refine va_iald hx hb hKK.1 hP 2 0 rfl rfl hin dX0_firstWrong_39 ?_
          refine lv_icmp_eq (tgt := 45) hx hb dX0_firstWrong_40 (by decide) (fun hc_17 => ?_) (fun hc_17 => ?_)
          · have hv := hv.1 hc_17
            refine lv_aload_n hx hb dX0_firstWrong_45 rfl (lv_at hl 3 rfl) ?_
            refine lv_aload_n hx hb dX0_firstWrong_46 rfl (lv_at hl 2 rfl) ?_
            obtain ⟨hp, hv⟩ := hv
            refine x_calli (wr := [(b0, .inr (0, [.ref b01, .ref b02, .int en])), aI G b01 30 bs, aI G b02 30 bh]) (w' := fun (u : (Nat → Int32) × (Nat → Int32) × (Nat → Int32) × (Nat → Int32) × (Nat → Int32) × (Nat → Int32) × (Int32) × (Int32)) => [(b0, .inr (0, [.ref b01, .ref b02, .int en])), aI G b01 30 bs, aI G b02 30 bh, (t, .inr (6, [.int ns, .int np, .int fu, .int fd, .int fi, .ref t1, .ref t2, .ref t3, .ref t4, .ref t5, .ref t6])), aI G t1 9 sz_, aI G t2 9 pt, aI G t3 9 fh, aI G t4 8 kd, aI G t5 8 nd, aI G t6 8 fw, (n, .inr (1, [.ref n1, .ref n2, .ref n3, .ref n4, .ref n5, .ref n6, .ref n7, .int u.2.2.2.2.2.2.1, .int u.2.2.2.2.2.2.2, .int sd])), aI G n1 9 u.1, aI G n2 8 u.2.1, aI G n3 8 se, aI G n4 8 u.2.2.1, aI G n5 8 u.2.2.2.1, aI G n6 8 u.2.2.2.2.1, aI G n7 72 u.2.2.2.2.2.1]) (x_runV (As := [.ref t]) (rest := []) (n := 1) (C := RX1) (ci := 1) ⟨hx, hb, hml, hown, hts⟩ (k_X1_passMinute l G n n1 n2 n3 n4 n5 n6 n7 t t1 t2 t3 t4 t5 t6 _ fn1_1 fn2_2 se fn4_3 fn5_4 fn6_5 fn7_6 gn7_7 gn8_8 sd ns np fu fd fi sz_ pt fh kd nd fw hp) gX0_firstWrong_X1_passMinute rfl (by decide +kernel) ⟨Nat.le_trans (Nat.le_of_ble_eq_true rfl) hRf, Nat.le_trans (Nat.le_of_ble_eq_true rfl) hRl⟩ hKK hSS hS hA hP hD [10, 11, 12, 13, 14, 15, 16, 17, 3, 4, 5, 6, 7, 8, 9] (by decide) rfl rfl rfl 10 rfl rfl hl.1 rfl (Nat.le_of_ble_eq_true rfl) dX0_firstWrong_47) hP hD hS hA [10, 11, 12, 13, 14, 15, 16, 17, 3, 4, 5, 6, 7, 8, 9] [0, 1, 2] [0, 1, 2, 11, 12, 13, 14, 15, 16, 17, 3, 4, 5, 6, 7, 8, 9, 10] rfl rfl (by decide) (by decide) (by decide) (fun _ => rfl) (fun r_18 u H locs hw hP hD hS => ?_)
            obtain ⟨ht2_19, wm2_20, cd2_21, sl2_22, od2_23, ow2_24, lo2_25, mi2_26⟩ := u
            have hP : va_P G.1 vwCl [(b0, .inr (0, [.ref b01, .ref b02, .int en])), aI G b01 30 bs, aI G b02 30 bh, (t, .inr (6, [.int ns, .int np, .int fu, .int fd, .int fi, .ref t1, .ref t2, .ref t3, .ref t4, .ref t5, .ref t6])), aI G t1 9 sz_, aI G t2 9 pt, aI G t3 9 fh, aI G t4 8 kd, aI G t5 8 nd, aI G t6 8 fw, (n, .inr (1, [.ref n1, .ref n2, .ref n3, .ref n4, .ref n5, .ref n6, .ref n7, .int lo2_25, .int mi2_26, .int sd])), aI G n1 9 ht2_19, aI G n2 8 wm2_20, aI G n3 8 se, aI G n4 8 cd2_21, aI G n5 8 sl2_22, aI G n6 8 od2_23, aI G n7 72 ow2_24] H := hP
            have hD : va_D A [(b0, .inr (0, [.ref b01, .ref b02, .int en])), aI G b01 30 bs, aI G b02 30 bh, (t, .inr (6, [.int ns, .int np, .int fu, .int fd, .int fi, .ref t1, .ref t2, .ref t3, .ref t4, .ref t5, .ref t6])), aI G t1 9 sz_, aI G t2 9 pt, aI G t3 9 fh, aI G t4 8 kd, aI G t5 8 nd, aI G t6 8 fw, (n, .inr (1, [.ref n1, .ref n2, .ref n3, .ref n4, .ref n5, .ref n6, .ref n7, .int lo2_25, .int mi2_26, .int sd])), aI G n1 9 ht2_19, aI G n2 8 wm2_20, aI G n3 8 se, aI G n4 8 cd2_21, aI G n5 8 sl2_22, aI G n6 8 od2_23, aI G n7 72 ow2_24] := hD
            have hv := hv r_18 ht2_19 wm2_20 cd2_21 sl2_22 od2_23 ow2_24 lo2_25 mi2_26 hw
            refine lv_pop hx hb dX0_firstWrong_50 rfl ?_
            refine lv_iinc (v := (x3_9 + 1)) (lv' := [(3, .int (x3_9 + 1)), (0, .ref b0), (1, .ref t), (2, .ref n)]) hx hb dX0_firstWrong_51 hl (k := 0) rfl rfl (by decide) rfl (fun ls hl => ?_)
            refine lv_goto (tgt := 2) hx hb dX0_firstWrong_54 (by decide) ?_
            exact ih_12 _ _ _ _ _ _ _ _ _ _ _ _ (Nat.lt_of_lt_of_le hv.2 (Nat.le_of_lt_succ hI_13)) hv.1 hP hD hS hl
          · have hv := hv.2 hc_17
            refine lv_iload_n hx hb dX0_firstWrong_43 rfl (lv_at hl 0 rfl) ?_
            exact x_iret (v := x3_9) (fn1_1, fn2_2, fn4_3, fn5_4, fn6_5, fn7_6, gn7_7, gn8_8) hQ hx hb hr hlocks hS dX0_firstWrong_44 hv hP hD
  exact Lm_29 _ _ _ _ _ _ _ _ _ _ _ _ _ (Nat.lt_succ_self _) hi0 hP hD hS hl
theorem k_X0_firstWrong (l : Launch) (G : Gt) (b0 b01 b02 t t1 t2 t3 t4 t5 t6 n n1 n2 n3 n4 n5 n6 n7 : Nat) (sz : Nat) (en : Int32) (bs : Nat → Int32) (bh : Nat → Int32) (ns : Int32) (np : Int32) (fu : Int32) (fd : Int32) (fi : Int32) (sz_ : Nat → Int32) (pt : Nat → Int32) (fh : Nat → Int32) (kd : Nat → Int32) (nd : Nat → Int32) (fw : Nat → Int32) (ht : Nat → Int32) (wm : Nat → Int32) (se : Nat → Int32) (cd : Nat → Int32) (sl : Nat → Int32) (od : Nat → Int32) (ow : Nat → Int32) (lo : Int32) (mi : Int32) (sd : Int32) (hp : True) : MetI l yX0_firstWrong wsX0_firstWrong 4 95 G [.ref b0, .ref t, .ref n] [(b0, .inr (0, [.ref b01, .ref b02, .int en])), aI G b01 30 bs, aI G b02 30 bh, (t, .inr (6, [.int ns, .int np, .int fu, .int fd, .int fi, .ref t1, .ref t2, .ref t3, .ref t4, .ref t5, .ref t6])), aI G t1 9 sz_, aI G t2 9 pt, aI G t3 9 fh, aI G t4 8 kd, aI G t5 8 nd, aI G t6 8 fw, (n, .inr (1, [.ref n1, .ref n2, .ref n3, .ref n4, .ref n5, .ref n6, .ref n7, .int lo, .int mi, .int sd])), aI G n1 9 ht, aI G n2 8 wm, aI G n3 8 se, aI G n4 8 cd, aI G n5 8 sl, aI G n6 8 od, aI G n7 72 ow] sz (fun (r : Int32) (u : (Nat → Int32) × (Nat → Int32) × (Nat → Int32) × (Nat → Int32) × (Nat → Int32) × (Nat → Int32) × (Int32) × (Int32)) => True) (fun (u : (Nat → Int32) × (Nat → Int32) × (Nat → Int32) × (Nat → Int32) × (Nat → Int32) × (Nat → Int32) × (Int32) × (Int32)) => [(b0, .inr (0, [.ref b01, .ref b02, .int en])), aI G b01 30 bs, aI G b02 30 bh, (t, .inr (6, [.int ns, .int np, .int fu, .int fd, .int fi, .ref t1, .ref t2, .ref t3, .ref t4, .ref t5, .ref t6])), aI G t1 9 sz_, aI G t2 9 pt, aI G t3 9 fh, aI G t4 8 kd, aI G t5 8 nd, aI G t6 8 fw, (n, .inr (1, [.ref n1, .ref n2, .ref n3, .ref n4, .ref n5, .ref n6, .ref n7, .int u.2.2.2.2.2.2.1, .int u.2.2.2.2.2.2.2, .int sd])), aI G n1 9 u.1, aI G n2 8 u.2.1, aI G n3 8 se, aI G n4 8 u.2.2.1, aI G n5 8 u.2.2.2.1, aI G n6 8 u.2.2.2.2.1, aI G n7 72 u.2.2.2.2.2.1]) :=
  c_X0_firstWrong l G b0 b01 b02 t t1 t2 t3 t4 t5 t6 n n1 n2 n3 n4 n5 n6 n7 sz en bs bh ns np fu fd fi sz_ pt fh kd nd fw ht wm se cd sl od ow lo mi sd (by
    sorry)

set_option maxHeartbeats 4000000 in
set_option maxRecDepth 100000 in
theorem c_X3_seatAt (l : Launch) (G : Gt) (sz : Nat) (x : Int32) (y : Int32) (hv : ((((x * 10) + y) + 1) : Int32) = x * 10 + y + 1) : MetI l yX3_seatAt wsX3_seatAt 0 0 G [.int x, .int y] [] sz (fun (r : Int32) (_ : Unit) => (r : Int32) = x * 10 + y + 1) (fun (_ : Unit) => []) := by
  refine x_startI (cc := cX3_seatAt) (maxL := 2) (ret := (some .int)) (by decide) rfl (Nat.le_of_ble_eq_true rfl) ?_
  intro p e s m args below meth c A R Q ls hRf hRl hQ C hP hD hS hA hSS hl
  obtain ⟨hx, hb, hr, hml, hown, hts, hlocks, hKK⟩ := C
  have hown : s.vm.findClass RX3 = some m.cls := hown
  have hl : lv_has ls 2 [(0, .int x), (1, .int y)] := hl
  refine lv_iload_n hx hb dX3_seatAt_0 rfl (lv_at hl 0 rfl) ?_
  refine lv_bipush (v := 10) hx hb dX3_seatAt_1 (by decide) ?_
  refine lv_imul hx hb dX3_seatAt_3 ?_
  refine lv_iload_n hx hb dX3_seatAt_4 rfl (lv_at hl 1 rfl) ?_
  refine lv_iadd hx hb dX3_seatAt_5 ?_
  refine lv_iconst (v := 1) hx hb dX3_seatAt_6 (by decide) ?_
  refine lv_iadd hx hb dX3_seatAt_7 ?_
  exact x_iret (v := (((x * 10) + y) + 1)) () hQ hx hb hr hlocks hS dX3_seatAt_8 hv hP hD
theorem k_X3_seatAt (l : Launch) (G : Gt) (sz : Nat) (x : Int32) (y : Int32) : MetI l yX3_seatAt wsX3_seatAt 0 0 G [.int x, .int y] [] sz (fun (r : Int32) (_ : Unit) => (r : Int32) = x * 10 + y + 1) (fun (_ : Unit) => []) :=
  c_X3_seatAt l G  sz x y (by
    rfl)

set_option maxHeartbeats 4000000 in
set_option maxRecDepth 100000 in
theorem c_X3_weigh (l : Launch) (G : Gt) (q q1 q2 q3 q4 : Nat) (sz : Nat) (s0 : Nat) (bc : Int32) (bl : Int32) (co : Nat → Int32) (wo : Nat → Int32) (ch : Nat → Int32) (be : Nat → Int32) (x : Int32) (y : Int32) (hv : (x < bc → ((x : Int32) = (if x < bc ∨ (x = bc ∧ bl < y) then x else bc)) ∧ ((y : Int32) = (if x < bc ∨ (x = bc ∧ bl < y) then y else bl)) ∧ (((va_cpy ch be 0 0 4) : Nat → Int32) = (if x < bc ∨ (x = bc ∧ bl < y) then va_cpy ch be 0 0 4 else be))) ∧ (¬ (x < bc) → (¬ x = bc → ((bc : Int32) = (if x < bc ∨ (x = bc ∧ bl < y) then x else bc)) ∧ ((bl : Int32) = (if x < bc ∨ (x = bc ∧ bl < y) then y else bl)) ∧ ((be : Nat → Int32) = (if x < bc ∨ (x = bc ∧ bl < y) then va_cpy ch be 0 0 4 else be))) ∧ (x = bc → (y ≤ bl → ((bc : Int32) = (if x < bc ∨ (x = bc ∧ bl < y) then x else bc)) ∧ ((bl : Int32) = (if x < bc ∨ (x = bc ∧ bl < y) then y else bl)) ∧ ((be : Nat → Int32) = (if x < bc ∨ (x = bc ∧ bl < y) then va_cpy ch be 0 0 4 else be))) ∧ (¬ (y ≤ bl) → ((x : Int32) = (if x < bc ∨ (x = bc ∧ bl < y) then x else bc)) ∧ ((y : Int32) = (if x < bc ∨ (x = bc ∧ bl < y) then y else bl)) ∧ (((va_cpy ch be 0 0 4) : Nat → Int32) = (if x < bc ∨ (x = bc ∧ bl < y) then va_cpy ch be 0 0 4 else be)))))) : MetV l yX3_weigh wsX3_weigh 1 30 G [.ref q, .int x, .int y] [(q, .inr (3, [.ref s0, .ref q1, .ref q2, .ref q3, .ref q4, .int bc, .int bl])), aI G q1 40 co, aI G q2 40 wo, aI G q3 4 ch, aI G q4 4 be] sz (fun (u : (Int32) × (Int32) × (Nat → Int32)) => ((u.1 : Int32) = (if x < bc ∨ (x = bc ∧ bl < y) then x else bc)) ∧ ((u.2.1 : Int32) = (if x < bc ∨ (x = bc ∧ bl < y) then y else bl)) ∧ ((u.2.2 : Nat → Int32) = (if x < bc ∨ (x = bc ∧ bl < y) then va_cpy ch be 0 0 4 else be))) (fun (u : (Int32) × (Int32) × (Nat → Int32)) => [(q, .inr (3, [.ref s0, .ref q1, .ref q2, .ref q3, .ref q4, .int u.1, .int u.2.1])), aI G q1 40 co, aI G q2 40 wo, aI G q3 4 ch, aI G q4 4 u.2.2]) := by
  refine x_startV (cc := cX3_weigh) (maxL := 3) (ret := none) (by decide) rfl (Nat.le_of_ble_eq_true rfl) ?_
  intro p e s m args below meth c A R Q ls hRf hRl hQ C hP hD hS hA hSS hl
  obtain ⟨hx, hb, hr, hml, hown, hts, hlocks, hKK⟩ := C
  have hown : s.vm.findClass RX3 = some m.cls := hown
  have hl : lv_has ls 3 [(0, .ref q), (1, .int x), (2, .int y)] := hl
  have hinX3 : ∀ w ∈ u_ws RX3 TX3 7, w ∈ wsX3_weigh := by decide +kernel
  have ka_i := hts (.initialized "java/lang/System") (by decide +kernel)
  have ka_n := hts (.native arraycopyName) (by decide +kernel)
  have ka_s := hts (.static arraycopyName) (by decide +kernel)
  have kl25 := hts (.fieldLink RX3 25 "WarmStones$Seating" "chosen" "[I") (by decide +kernel)
  have kl28 := hts (.fieldLink RX3 28 "WarmStones$Seating" "best" "[I") (by decide +kernel)
  have kl44 := hts (.fieldLink RX3 44 "WarmStones$Seating" "bestCold" "I") (by decide +kernel)
  have kl51 := hts (.fieldLink RX3 51 "WarmStones$Seating" "bestLeast" "I") (by decide +kernel)
  have kl92 := hts (.methodLink RX3 92 arraycopyName) (by decide +kernel)
  refine lv_iload_n hx hb dX3_weigh_0 rfl (lv_at hl 1 rfl) ?_
  refine lv_aload_n hx hb dX3_weigh_1 rfl (lv_at hl 0 rfl) ?_
  refine va_get (D := G.1) (ci := 3) (v := .int bc) (C := RX3) (T := TX3) (N := 7) hx hb hts hinX3 hown hKK.1 hP 0 rfl rfl 5 (by decide) kl44 (fun _ h9 => h9) rfl dX3_weigh_2 ?_
  refine lv_icmp_lt (tgt := 24) hx hb dX3_weigh_5 (by decide) (fun hc_1 => ?_) (fun hc_1 => ?_)
  · have hv := hv.1 hc_1
    refine lv_aload_n hx hb dX3_weigh_24 rfl (lv_at hl 0 rfl) ?_
    refine lv_iload_n hx hb dX3_weigh_25 rfl (lv_at hl 1 rfl) ?_
    refine va_put (D := G.1) (ci := 3) (v := .int x) (ty := .int) (C := RX3) (T := TX3) (N := 7) hx hb hts hinX3 tyX3 tyX3_ok nmX3 hown hKK.1 hP hD hS 0 rfl rfl 5 (by decide) kl44 (fun _ h9 => h9) rfl (by decide +kernel) rfl rfl (Nat.le_of_ble_eq_true rfl) dX3_weigh_26 (fun H locs hP hD hS => ?_)
    have hP : va_P G.1 vwCl [(q, .inr (3, [.ref s0, .ref q1, .ref q2, .ref q3, .ref q4, .int x, .int bl])), aI G q1 40 co, aI G q2 40 wo, aI G q3 4 ch, aI G q4 4 be] H := hP
    have hD : va_D A [(q, .inr (3, [.ref s0, .ref q1, .ref q2, .ref q3, .ref q4, .int x, .int bl])), aI G q1 40 co, aI G q2 40 wo, aI G q3 4 ch, aI G q4 4 be] := hD
    refine lv_aload_n hx hb dX3_weigh_29 rfl (lv_at hl 0 rfl) ?_
    refine lv_iload_n hx hb dX3_weigh_30 rfl (lv_at hl 2 rfl) ?_
    refine va_put (D := G.1) (ci := 3) (v := .int y) (ty := .int) (C := RX3) (T := TX3) (N := 7) hx hb hts hinX3 tyX3 tyX3_ok nmX3 hown hKK.1 hP hD hS 0 rfl rfl 6 (by decide) kl51 (fun _ h9 => h9) rfl (by decide +kernel) rfl rfl (Nat.le_of_ble_eq_true rfl) dX3_weigh_31 (fun H locs hP hD hS => ?_)
    have hP : va_P G.1 vwCl [(q, .inr (3, [.ref s0, .ref q1, .ref q2, .ref q3, .ref q4, .int x, .int y])), aI G q1 40 co, aI G q2 40 wo, aI G q3 4 ch, aI G q4 4 be] H := hP
    have hD : va_D A [(q, .inr (3, [.ref s0, .ref q1, .ref q2, .ref q3, .ref q4, .int x, .int y])), aI G q1 40 co, aI G q2 40 wo, aI G q3 4 ch, aI G q4 4 be] := hD
    refine lv_aload_n hx hb dX3_weigh_34 rfl (lv_at hl 0 rfl) ?_
    refine va_get (D := G.1) (ci := 3) (v := .ref q3) (C := RX3) (T := TX3) (N := 7) hx hb hts hinX3 hown hKK.1 hP 0 rfl rfl 3 (by decide) kl25 (fun _ h9 => h9) rfl dX3_weigh_35 ?_
    refine lv_iconst (v := 0) hx hb dX3_weigh_38 (by decide) ?_
    refine lv_aload_n hx hb dX3_weigh_39 rfl (lv_at hl 0 rfl) ?_
    refine va_get (D := G.1) (ci := 3) (v := .ref q4) (C := RX3) (T := TX3) (N := 7) hx hb hts hinX3 hown hKK.1 hP 0 rfl rfl 4 (by decide) kl28 (fun _ h9 => h9) rfl dX3_weigh_40 ?_
    refine lv_iconst (v := 0) hx hb dX3_weigh_43 (by decide) ?_
    refine lv_iconst (v := 4) hx hb dX3_weigh_44 (by decide) ?_
    refine va_copyi (ty := .int) hx hb (hml.trans hl.1.symm) hown kl92 ka_n ka_s ka_i hKK.1 hP hD hS 3 4 0 0 rfl rfl rfl rfl rfl (by decide) (by decide) (by decide) (by decide) (by decide) (fun _ _ => rfl) (Nat.le_trans (Nat.le_of_ble_eq_true rfl) hRf) (Nat.le_trans (by decide) hRl) dX3_weigh_45 (fun H locs hP hD hS => ?_)
    have hP : va_P G.1 vwCl [(q, .inr (3, [.ref s0, .ref q1, .ref q2, .ref q3, .ref q4, .int x, .int y])), aI G q1 40 co, aI G q2 40 wo, aI G q3 4 ch, aI G q4 4 (va_cpy ch be 0 0 4)] H := hP
    have hD : va_D A [(q, .inr (3, [.ref s0, .ref q1, .ref q2, .ref q3, .ref q4, .int x, .int y])), aI G q1 40 co, aI G q2 40 wo, aI G q3 4 ch, aI G q4 4 (va_cpy ch be 0 0 4)] := hD
    exact x_vret (x, y, (va_cpy ch be 0 0 4)) hQ hx hb hr hlocks hS dX3_weigh_48 hv hP hD
  · have hv := hv.2 hc_1
    refine lv_iload_n hx hb dX3_weigh_8 rfl (lv_at hl 1 rfl) ?_
    refine lv_aload_n hx hb dX3_weigh_9 rfl (lv_at hl 0 rfl) ?_
    refine va_get (D := G.1) (ci := 3) (v := .int bc) (C := RX3) (T := TX3) (N := 7) hx hb hts hinX3 hown hKK.1 hP 0 rfl rfl 5 (by decide) kl44 (fun _ h9 => h9) rfl dX3_weigh_10 ?_
    refine lv_icmp_ne (tgt := 48) hx hb dX3_weigh_13 (by decide) (fun hc_2 => ?_) (fun hc_2 => ?_)
    · have hv := hv.1 hc_2
      exact x_vret (bc, bl, be) hQ hx hb hr hlocks hS dX3_weigh_48 hv hP hD
    · have hv := hv.2 hc_2
      refine lv_iload_n hx hb dX3_weigh_16 rfl (lv_at hl 2 rfl) ?_
      refine lv_aload_n hx hb dX3_weigh_17 rfl (lv_at hl 0 rfl) ?_
      refine va_get (D := G.1) (ci := 3) (v := .int bl) (C := RX3) (T := TX3) (N := 7) hx hb hts hinX3 hown hKK.1 hP 0 rfl rfl 6 (by decide) kl51 (fun _ h9 => h9) rfl dX3_weigh_18 ?_
      refine lv_icmp_le (tgt := 48) hx hb dX3_weigh_21 (by decide) (fun hc_3 => ?_) (fun hc_3 => ?_)
      · have hv := hv.1 hc_3
        exact x_vret (bc, bl, be) hQ hx hb hr hlocks hS dX3_weigh_48 hv hP hD
      · have hv := hv.2 hc_3
        refine lv_aload_n hx hb dX3_weigh_24 rfl (lv_at hl 0 rfl) ?_
        refine lv_iload_n hx hb dX3_weigh_25 rfl (lv_at hl 1 rfl) ?_
        refine va_put (D := G.1) (ci := 3) (v := .int x) (ty := .int) (C := RX3) (T := TX3) (N := 7) hx hb hts hinX3 tyX3 tyX3_ok nmX3 hown hKK.1 hP hD hS 0 rfl rfl 5 (by decide) kl44 (fun _ h9 => h9) rfl (by decide +kernel) rfl rfl (Nat.le_of_ble_eq_true rfl) dX3_weigh_26 (fun H locs hP hD hS => ?_)
        have hP : va_P G.1 vwCl [(q, .inr (3, [.ref s0, .ref q1, .ref q2, .ref q3, .ref q4, .int x, .int bl])), aI G q1 40 co, aI G q2 40 wo, aI G q3 4 ch, aI G q4 4 be] H := hP
        have hD : va_D A [(q, .inr (3, [.ref s0, .ref q1, .ref q2, .ref q3, .ref q4, .int x, .int bl])), aI G q1 40 co, aI G q2 40 wo, aI G q3 4 ch, aI G q4 4 be] := hD
        refine lv_aload_n hx hb dX3_weigh_29 rfl (lv_at hl 0 rfl) ?_
        refine lv_iload_n hx hb dX3_weigh_30 rfl (lv_at hl 2 rfl) ?_
        refine va_put (D := G.1) (ci := 3) (v := .int y) (ty := .int) (C := RX3) (T := TX3) (N := 7) hx hb hts hinX3 tyX3 tyX3_ok nmX3 hown hKK.1 hP hD hS 0 rfl rfl 6 (by decide) kl51 (fun _ h9 => h9) rfl (by decide +kernel) rfl rfl (Nat.le_of_ble_eq_true rfl) dX3_weigh_31 (fun H locs hP hD hS => ?_)
        have hP : va_P G.1 vwCl [(q, .inr (3, [.ref s0, .ref q1, .ref q2, .ref q3, .ref q4, .int x, .int y])), aI G q1 40 co, aI G q2 40 wo, aI G q3 4 ch, aI G q4 4 be] H := hP
        have hD : va_D A [(q, .inr (3, [.ref s0, .ref q1, .ref q2, .ref q3, .ref q4, .int x, .int y])), aI G q1 40 co, aI G q2 40 wo, aI G q3 4 ch, aI G q4 4 be] := hD
        refine lv_aload_n hx hb dX3_weigh_34 rfl (lv_at hl 0 rfl) ?_
        refine va_get (D := G.1) (ci := 3) (v := .ref q3) (C := RX3) (T := TX3) (N := 7) hx hb hts hinX3 hown hKK.1 hP 0 rfl rfl 3 (by decide) kl25 (fun _ h9 => h9) rfl dX3_weigh_35 ?_
        refine lv_iconst (v := 0) hx hb dX3_weigh_38 (by decide) ?_
        refine lv_aload_n hx hb dX3_weigh_39 rfl (lv_at hl 0 rfl) ?_
        refine va_get (D := G.1) (ci := 3) (v := .ref q4) (C := RX3) (T := TX3) (N := 7) hx hb hts hinX3 hown hKK.1 hP 0 rfl rfl 4 (by decide) kl28 (fun _ h9 => h9) rfl dX3_weigh_40 ?_
        refine lv_iconst (v := 0) hx hb dX3_weigh_43 (by decide) ?_
        refine lv_iconst (v := 4) hx hb dX3_weigh_44 (by decide) ?_
        refine va_copyi (ty := .int) hx hb (hml.trans hl.1.symm) hown kl92 ka_n ka_s ka_i hKK.1 hP hD hS 3 4 0 0 rfl rfl rfl rfl rfl (by decide) (by decide) (by decide) (by decide) (by decide) (fun _ _ => rfl) (Nat.le_trans (Nat.le_of_ble_eq_true rfl) hRf) (Nat.le_trans (by decide) hRl) dX3_weigh_45 (fun H locs hP hD hS => ?_)
        have hP : va_P G.1 vwCl [(q, .inr (3, [.ref s0, .ref q1, .ref q2, .ref q3, .ref q4, .int x, .int y])), aI G q1 40 co, aI G q2 40 wo, aI G q3 4 ch, aI G q4 4 (va_cpy ch be 0 0 4)] H := hP
        have hD : va_D A [(q, .inr (3, [.ref s0, .ref q1, .ref q2, .ref q3, .ref q4, .int x, .int y])), aI G q1 40 co, aI G q2 40 wo, aI G q3 4 ch, aI G q4 4 (va_cpy ch be 0 0 4)] := hD
        exact x_vret (x, y, (va_cpy ch be 0 0 4)) hQ hx hb hr hlocks hS dX3_weigh_48 hv hP hD
theorem k_X3_weigh (l : Launch) (G : Gt) (q q1 q2 q3 q4 : Nat) (sz : Nat) (s0 : Nat) (bc : Int32) (bl : Int32) (co : Nat → Int32) (wo : Nat → Int32) (ch : Nat → Int32) (be : Nat → Int32) (x : Int32) (y : Int32) : MetV l yX3_weigh wsX3_weigh 1 30 G [.ref q, .int x, .int y] [(q, .inr (3, [.ref s0, .ref q1, .ref q2, .ref q3, .ref q4, .int bc, .int bl])), aI G q1 40 co, aI G q2 40 wo, aI G q3 4 ch, aI G q4 4 be] sz (fun (u : (Int32) × (Int32) × (Nat → Int32)) => ((u.1 : Int32) = (if x < bc ∨ (x = bc ∧ bl < y) then x else bc)) ∧ ((u.2.1 : Int32) = (if x < bc ∨ (x = bc ∧ bl < y) then y else bl)) ∧ ((u.2.2 : Nat → Int32) = (if x < bc ∨ (x = bc ∧ bl < y) then va_cpy ch be 0 0 4 else be))) (fun (u : (Int32) × (Int32) × (Nat → Int32)) => [(q, .inr (3, [.ref s0, .ref q1, .ref q2, .ref q3, .ref q4, .int u.1, .int u.2.1])), aI G q1 40 co, aI G q2 40 wo, aI G q3 4 ch, aI G q4 4 u.2.2]) :=
  c_X3_weigh l G q q1 q2 q3 q4 sz s0 bc bl co wo ch be x y (by
    sorry)

set_option maxHeartbeats 4000000 in
set_option maxRecDepth 100000 in
theorem c_X3_answer (l : Launch) (G : Gt) (q q1 q2 q3 q4 : Nat) (sz : Nat) (s0 : Nat) (bc : Int32) (bl : Int32) (co : Nat → Int32) (wo : Nat → Int32) (ch : Nat → Int32) (be : Nat → Int32) (x : Int32) (hv : (¬ x = 0 → (¬ x = 1 → (¬ (¬ (x - 2) < 0 ∧ ¬ 3 < (x - 2)) → ((-1000000002) : Int32) = (if x = 0 then bc else if x = 1 then bl else if ¬ x - 2 < 0 ∧ ¬ 3 < x - 2 then be (x - 2).toNatClampNeg else (-1000000002))) ∧ (¬ (x - 2) < 0 ∧ ¬ 3 < (x - 2) → (vp_in (x - 2) 4) ∧ (((be (x - 2).toNatClampNeg) : Int32) = (if x = 0 then bc else if x = 1 then bl else if ¬ x - 2 < 0 ∧ ¬ 3 < x - 2 then be (x - 2).toNatClampNeg else (-1000000002))))) ∧ (x = 1 → (bl : Int32) = (if x = 0 then bc else if x = 1 then bl else if ¬ x - 2 < 0 ∧ ¬ 3 < x - 2 then be (x - 2).toNatClampNeg else (-1000000002)))) ∧ (x = 0 → (bc : Int32) = (if x = 0 then bc else if x = 1 then bl else if ¬ x - 2 < 0 ∧ ¬ 3 < x - 2 then be (x - 2).toNatClampNeg else (-1000000002)))) : MetI l yX3_answer wsX3_answer 1 22 G [.ref q, .int x] [(q, .inr (3, [.ref s0, .ref q1, .ref q2, .ref q3, .ref q4, .int bc, .int bl])), aI G q1 40 co, aI G q2 40 wo, aI G q3 4 ch, aI G q4 4 be] sz (fun (r : Int32) (_ : Unit) => (r : Int32) = (if x = 0 then bc else if x = 1 then bl else if ¬ x - 2 < 0 ∧ ¬ 3 < x - 2 then be (x - 2).toNatClampNeg else (-1000000002))) (fun (_ : Unit) => [(q, .inr (3, [.ref s0, .ref q1, .ref q2, .ref q3, .ref q4, .int bc, .int bl])), aI G q1 40 co, aI G q2 40 wo, aI G q3 4 ch, aI G q4 4 be]) := by
  refine x_startI (cc := cX3_answer) (maxL := 2) (ret := (some .int)) (by decide) rfl (Nat.le_of_ble_eq_true rfl) ?_
  intro p e s m args below meth c A R Q ls hRf hRl hQ C hP hD hS hA hSS hl
  obtain ⟨hx, hb, hr, hml, hown, hts, hlocks, hKK⟩ := C
  have hown : s.vm.findClass RX3 = some m.cls := hown
  have hl : lv_has ls 2 [(0, .ref q), (1, .int x)] := hl
  have hinX3 : ∀ w ∈ u_ws RX3 TX3 7, w ∈ wsX3_answer := by decide +kernel
  have kl28 := hts (.fieldLink RX3 28 "WarmStones$Seating" "best" "[I") (by decide +kernel)
  have kl44 := hts (.fieldLink RX3 44 "WarmStones$Seating" "bestCold" "I") (by decide +kernel)
  have kl51 := hts (.fieldLink RX3 51 "WarmStones$Seating" "bestLeast" "I") (by decide +kernel)
  have kl58 := hts (.constant RX3 58 (-1000000002)) (by decide +kernel)
  have kn_iRX7 := hts (.initialized RX7) (by decide +kernel)
  have kn_sX7_within := hts (.static yX7_within) (by decide +kernel)
  refine lv_iload_n hx hb dX3_answer_0 rfl (lv_at hl 1 rfl) ?_
  refine lv_if_ne (tgt := 9) hx hb dX3_answer_1 (by decide) (fun hc_1 => ?_) (fun hc_1 => ?_)
  · have hv := hv.1 hc_1
    refine lv_iload_n hx hb dX3_answer_9 rfl (lv_at hl 1 rfl) ?_
    refine lv_iconst (v := 1) hx hb dX3_answer_10 (by decide) ?_
    refine lv_icmp_ne (tgt := 19) hx hb dX3_answer_11 (by decide) (fun hc_2 => ?_) (fun hc_2 => ?_)
    · have hv := hv.1 hc_2
      refine lv_iload_n hx hb dX3_answer_19 rfl (lv_at hl 1 rfl) ?_
      refine lv_iconst (v := 2) hx hb dX3_answer_20 (by decide) ?_
      refine lv_isub hx hb dX3_answer_21 ?_
      refine lv_iconst (v := 0) hx hb dX3_answer_22 (by decide) ?_
      refine lv_iconst (v := 3) hx hb dX3_answer_23 (by decide) ?_
      refine x_calliR (x_runSN (As := [.int (x - 2), .int 0, .int 3]) (rest := []) (n := 3) ⟨hx, hb, hml, hown, hts⟩ (k_X7_within l G  _ (x - 2) 0 3) gX3_answer_X7_within_n54 rfl kn_iRX7 kn_sX7_within (by decide) (by decide +kernel) ⟨Nat.le_trans (Nat.le_of_ble_eq_true rfl) hRf, Nat.le_trans (Nat.le_of_ble_eq_true rfl) hRl⟩ hKK hSS hS hA hP hD [] (by decide) rfl rfl hl.1 rfl (Nat.le_of_ble_eq_true rfl) dX3_answer_24) hP hD hS hA [] rfl (fun r_3 _ H locs hw hP hS => ?_)
      replace hw := hw.symm; subst hw
      refine lv_if_eq (tgt := 41) hx hb dX3_answer_27 (by decide) (fun hc_4 => ?_) (fun hc_4 => ?_)
      · have hv := hv.1 (tv_eq.mp hc_4)
        refine lv_ldc (v := (-1000000002)) hx hb hown kl58 dX3_answer_41 ?_
        exact x_iret (v := (-1000000002)) () hQ hx hb hr hlocks hS dX3_answer_43 hv hP hD
      · have hv := hv.2 (tv_eqn.mp hc_4)
        refine lv_aload_n hx hb dX3_answer_30 rfl (lv_at hl 0 rfl) ?_
        refine va_get (D := G.1) (ci := 3) (v := .ref q4) (C := RX3) (T := TX3) (N := 7) hx hb hts hinX3 hown hKK.1 hP 0 rfl rfl 4 (by decide) kl28 (fun _ h9 => h9) rfl dX3_answer_31 ?_
        refine lv_iload_n hx hb dX3_answer_34 rfl (lv_at hl 1 rfl) ?_
        refine lv_iconst (v := 2) hx hb dX3_answer_35 (by decide) ?_
        refine lv_isub hx hb dX3_answer_36 ?_
        obtain ⟨hin, hv⟩ := hv
        refine va_iald hx hb hKK.1 hP 4 0 rfl rfl hin dX3_answer_37 ?_
        refine lv_goto (tgt := 43) hx hb dX3_answer_38 (by decide) ?_
        exact x_iret (v := (be (x - 2).toNatClampNeg)) () hQ hx hb hr hlocks hS dX3_answer_43 hv hP hD
    · have hv := hv.2 hc_2
      refine lv_aload_n hx hb dX3_answer_14 rfl (lv_at hl 0 rfl) ?_
      refine va_get (D := G.1) (ci := 3) (v := .int bl) (C := RX3) (T := TX3) (N := 7) hx hb hts hinX3 hown hKK.1 hP 0 rfl rfl 6 (by decide) kl51 (fun _ h9 => h9) rfl dX3_answer_15 ?_
      exact x_iret (v := bl) () hQ hx hb hr hlocks hS dX3_answer_18 hv hP hD
  · have hv := hv.2 hc_1
    refine lv_aload_n hx hb dX3_answer_4 rfl (lv_at hl 0 rfl) ?_
    refine va_get (D := G.1) (ci := 3) (v := .int bc) (C := RX3) (T := TX3) (N := 7) hx hb hts hinX3 hown hKK.1 hP 0 rfl rfl 5 (by decide) kl44 (fun _ h9 => h9) rfl dX3_answer_5 ?_
    exact x_iret (v := bc) () hQ hx hb hr hlocks hS dX3_answer_8 hv hP hD
theorem k_X3_answer (l : Launch) (G : Gt) (q q1 q2 q3 q4 : Nat) (sz : Nat) (s0 : Nat) (bc : Int32) (bl : Int32) (co : Nat → Int32) (wo : Nat → Int32) (ch : Nat → Int32) (be : Nat → Int32) (x : Int32) : MetI l yX3_answer wsX3_answer 1 22 G [.ref q, .int x] [(q, .inr (3, [.ref s0, .ref q1, .ref q2, .ref q3, .ref q4, .int bc, .int bl])), aI G q1 40 co, aI G q2 40 wo, aI G q3 4 ch, aI G q4 4 be] sz (fun (r : Int32) (_ : Unit) => (r : Int32) = (if x = 0 then bc else if x = 1 then bl else if ¬ x - 2 < 0 ∧ ¬ 3 < x - 2 then be (x - 2).toNatClampNeg else (-1000000002))) (fun (_ : Unit) => [(q, .inr (3, [.ref s0, .ref q1, .ref q2, .ref q3, .ref q4, .int bc, .int bl])), aI G q1 40 co, aI G q2 40 wo, aI G q3 4 ch, aI G q4 4 be]) :=
  c_X3_answer l G q q1 q2 q3 q4 sz s0 bc bl co wo ch be x (by
    sorry)

set_option maxHeartbeats 4000000 in
set_option maxRecDepth 100000 in
theorem c_X3_trySeat (l : Launch) (G : Gt) (q q1 q2 q3 q4 s0 t t1 t2 t3 t4 t5 t6 n n1 n2 n3 n4 n5 n6 n7 : Nat) (sz : Nat) (bc : Int32) (bl : Int32) (co : Nat → Int32) (wo : Nat → Int32) (ch : Nat → Int32) (be : Nat → Int32) (sw : Int32) (sh : Int32) (ns : Int32) (np : Int32) (fu : Int32) (fd : Int32) (fi : Int32) (sz_ : Nat → Int32) (pt : Nat → Int32) (fh : Nat → Int32) (kd : Nat → Int32) (nd : Nat → Int32) (fw : Nat → Int32) (ht : Nat → Int32) (wm : Nat → Int32) (se : Nat → Int32) (cd : Nat → Int32) (sl : Nat → Int32) (od : Nat → Int32) (ow : Nat → Int32) (lo : Int32) (mi : Int32) (sd : Int32) (mm : Int32) (pq : Int32) (bq : Int32) (hv : (vp_in pq 8) ∧ ((¬ bq = (-1) → (vp_in bq 9) ∧ (∃ (I37_9 : Int32 → Int32 → Int32 → Int32 → Prop) (μ37_10 : Int32 → Int32 → Int32 → Int32 → Nat), I37_9 (wm pq.toNatClampNeg) (ht bq.toNatClampNeg) 0 0 ∧ (∀ (gs00_5 : Int32) (gs01_6 : Int32) (x6_7 : Int32) (x7_8 : Int32), I37_9 gs00_5 gs01_6 x6_7 x7_8 → (mm ≤ x7_8 → (vp_in (pq * 10 + bq + 1) 40) ∧ ((vp_in (pq * 10 + bq + 1) 40) ∧ (True))) ∧ (¬ (mm ≤ x7_8) → (vp_in pq 8 ∧ (¬ bq < 0 → ¬ ns ≤ bq → vp_in bq 9)) ∧ ((vp_in pq 8) ∧ (((nd pq.toNatClampNeg) ≤ (sitW ns fu fd (kd pq.toNatClampNeg) (sz_ bq.toNatClampNeg) bq gs00_5 gs01_6) → I37_9 (sitW ns fu fd (kd pq.toNatClampNeg) (sz_ bq.toNatClampNeg) bq gs00_5 gs01_6) (sitH ns (kd pq.toNatClampNeg) (sz_ bq.toNatClampNeg) bq gs00_5 gs01_6) x6_7 (x7_8 + 1) ∧ μ37_10 (sitW ns fu fd (kd pq.toNatClampNeg) (sz_ bq.toNatClampNeg) bq gs00_5 gs01_6) (sitH ns (kd pq.toNatClampNeg) (sz_ bq.toNatClampNeg) bq gs00_5 gs01_6) x6_7 (x7_8 + 1) < μ37_10 gs00_5 gs01_6 x6_7 x7_8) ∧ (¬ ((nd pq.toNatClampNeg) ≤ (sitW ns fu fd (kd pq.toNatClampNeg) (sz_ bq.toNatClampNeg) bq gs00_5 gs01_6)) → I37_9 (sitW ns fu fd (kd pq.toNatClampNeg) (sz_ bq.toNatClampNeg) bq gs00_5 gs01_6) (sitH ns (kd pq.toNatClampNeg) (sz_ bq.toNatClampNeg) bq gs00_5 gs01_6) (x6_7 + 1) (x7_8 + 1) ∧ μ37_10 (sitW ns fu fd (kd pq.toNatClampNeg) (sz_ bq.toNatClampNeg) bq gs00_5 gs01_6) (sitH ns (kd pq.toNatClampNeg) (sz_ bq.toNatClampNeg) bq gs00_5 gs01_6) (x6_7 + 1) (x7_8 + 1) < μ37_10 gs00_5 gs01_6 x6_7 x7_8))))))) ∧ (bq = (-1) → ∃ (I37_30 : Int32 → Int32 → Int32 → Int32 → Prop) (μ37_31 : Int32 → Int32 → Int32 → Int32 → Nat), I37_30 (wm pq.toNatClampNeg) 0 0 0 ∧ (∀ (gs00_26 : Int32) (gs01_27 : Int32) (x6_28 : Int32) (x7_29 : Int32), I37_30 gs00_26 gs01_27 x6_28 x7_29 → (mm ≤ x7_29 → (vp_in (pq * 10 + bq + 1) 40) ∧ ((vp_in (pq * 10 + bq + 1) 40) ∧ (True))) ∧ (¬ (mm ≤ x7_29) → (vp_in pq 8 ∧ (¬ bq < 0 → ¬ ns ≤ bq → vp_in bq 9)) ∧ ((vp_in pq 8) ∧ (((nd pq.toNatClampNeg) ≤ (sitW ns fu fd (kd pq.toNatClampNeg) (sz_ bq.toNatClampNeg) bq gs00_26 gs01_27) → I37_30 (sitW ns fu fd (kd pq.toNatClampNeg) (sz_ bq.toNatClampNeg) bq gs00_26 gs01_27) (sitH ns (kd pq.toNatClampNeg) (sz_ bq.toNatClampNeg) bq gs00_26 gs01_27) x6_28 (x7_29 + 1) ∧ μ37_31 (sitW ns fu fd (kd pq.toNatClampNeg) (sz_ bq.toNatClampNeg) bq gs00_26 gs01_27) (sitH ns (kd pq.toNatClampNeg) (sz_ bq.toNatClampNeg) bq gs00_26 gs01_27) x6_28 (x7_29 + 1) < μ37_31 gs00_26 gs01_27 x6_28 x7_29) ∧ (¬ ((nd pq.toNatClampNeg) ≤ (sitW ns fu fd (kd pq.toNatClampNeg) (sz_ bq.toNatClampNeg) bq gs00_26 gs01_27)) → I37_30 (sitW ns fu fd (kd pq.toNatClampNeg) (sz_ bq.toNatClampNeg) bq gs00_26 gs01_27) (sitH ns (kd pq.toNatClampNeg) (sz_ bq.toNatClampNeg) bq gs00_26 gs01_27) (x6_28 + 1) (x7_29 + 1) ∧ μ37_31 (sitW ns fu fd (kd pq.toNatClampNeg) (sz_ bq.toNatClampNeg) bq gs00_26 gs01_27) (sitH ns (kd pq.toNatClampNeg) (sz_ bq.toNatClampNeg) bq gs00_26 gs01_27) (x6_28 + 1) (x7_29 + 1) < μ37_31 gs00_26 gs01_27 x6_28 x7_29)))))))) : MetV l yX3_trySeat wsX3_trySeat 3 70 G [.ref q, .ref t, .ref n, .int mm, .int pq, .int bq] [(q, .inr (3, [.ref s0, .ref q1, .ref q2, .ref q3, .ref q4, .int bc, .int bl])), aI G q1 40 co, aI G q2 40 wo, aI G q3 4 ch, aI G q4 4 be, (s0, .inr (4, [.int sw, .int sh])), (t, .inr (6, [.int ns, .int np, .int fu, .int fd, .int fi, .ref t1, .ref t2, .ref t3, .ref t4, .ref t5, .ref t6])), aI G t1 9 sz_, aI G t2 9 pt, aI G t3 9 fh, aI G t4 8 kd, aI G t5 8 nd, aI G t6 8 fw, (n, .inr (1, [.ref n1, .ref n2, .ref n3, .ref n4, .ref n5, .ref n6, .ref n7, .int lo, .int mi, .int sd])), aI G n1 9 ht, aI G n2 8 wm, aI G n3 8 se, aI G n4 8 cd, aI G n5 8 sl, aI G n6 8 od, aI G n7 72 ow] sz (fun (u : (Nat → Int32) × (Nat → Int32) × (Int32) × (Int32)) => True) (fun (u : (Nat → Int32) × (Nat → Int32) × (Int32) × (Int32)) => [(q, .inr (3, [.ref s0, .ref q1, .ref q2, .ref q3, .ref q4, .int bc, .int bl])), aI G q1 40 u.1, aI G q2 40 u.2.1, aI G q3 4 ch, aI G q4 4 be, (s0, .inr (4, [.int u.2.2.1, .int u.2.2.2])), (t, .inr (6, [.int ns, .int np, .int fu, .int fd, .int fi, .ref t1, .ref t2, .ref t3, .ref t4, .ref t5, .ref t6])), aI G t1 9 sz_, aI G t2 9 pt, aI G t3 9 fh, aI G t4 8 kd, aI G t5 8 nd, aI G t6 8 fw, (n, .inr (1, [.ref n1, .ref n2, .ref n3, .ref n4, .ref n5, .ref n6, .ref n7, .int lo, .int mi, .int sd])), aI G n1 9 ht, aI G n2 8 wm, aI G n3 8 se, aI G n4 8 cd, aI G n5 8 sl, aI G n6 8 od, aI G n7 72 ow]) := by
  refine x_startV (cc := cX3_trySeat) (maxL := 8) (ret := none) (by decide) rfl (Nat.le_of_ble_eq_true rfl) ?_
  intro p e s m args below meth c A R Q ls hRf hRl hQ C hP hD hS hA hSS hl
  obtain ⟨hx, hb, hr, hml, hown, hts, hlocks, hKK⟩ := C
  have hown : s.vm.findClass RX3 = some m.cls := hown
  have hl : lv_has ls 8 [(0, .ref q), (1, .ref t), (2, .ref n), (3, .int mm), (4, .int pq), (5, .int bq)] := hl
  have hinX1 : ∀ w ∈ u_ws RX1 TX1 10, w ∈ wsX3_trySeat := by decide +kernel
  have hinX3 : ∀ w ∈ u_ws RX3 TX3 7, w ∈ wsX3_trySeat := by decide +kernel
  have hinX4 : ∀ w ∈ u_ws RX4 TX4 2, w ∈ wsX3_trySeat := by decide +kernel
  have hinX6 : ∀ w ∈ u_ws RX6 TX6 11, w ∈ wsX3_trySeat := by decide +kernel
  have kl12 := hts (.fieldLink RX3 12 "WarmStones$Seating" "sitting" "LWarmStones$Sitting;") (by decide +kernel)
  have kl18 := hts (.fieldLink RX3 18 "WarmStones$Seating" "coldOn" "[I") (by decide +kernel)
  have kl22 := hts (.fieldLink RX3 22 "WarmStones$Seating" "warmthOn" "[I") (by decide +kernel)
  have kl59 := hts (.fieldLink RX3 59 "WarmStones$Night" "warmth" "[I") (by decide +kernel)
  have kl64 := hts (.fieldLink RX3 64 "WarmStones$Night" "heat" "[I") (by decide +kernel)
  have kl75 := hts (.fieldLink RX3 75 "WarmStones$Sitting" "warmth" "I") (by decide +kernel)
  have kl77 := hts (.fieldLink RX3 77 "WarmStones$Town" "need" "[I") (by decide +kernel)
  refine lv_aload_n hx hb dX3_trySeat_0 rfl (lv_at hl 0 rfl) ?_
  refine va_get (D := G.1) (ci := 3) (v := .ref s0) (C := RX3) (T := TX3) (N := 7) hx hb hts hinX3 hown hKK.1 hP 0 rfl rfl 0 (by decide) kl12 (fun _ h9 => h9) rfl dX3_trySeat_1 ?_
  refine lv_aload_n hx hb dX3_trySeat_4 rfl (lv_at hl 2 rfl) ?_
  refine va_get (D := G.1) (ci := 1) (v := .ref n2) (C := RX1) (T := TX1) (N := 10) hx hb hts hinX1 hown hKK.1 hP 13 rfl rfl 1 (by decide) kl59 (fun _ h9 => h9) rfl dX3_trySeat_5 ?_
  refine lv_iload hx hb dX3_trySeat_8 (lv_at hl 4 rfl) ?_
  obtain ⟨hin, hv⟩ := hv
  refine va_iald hx hb hKK.1 hP 15 0 rfl rfl hin dX3_trySeat_10 ?_
  refine lv_iload hx hb dX3_trySeat_11 (lv_at hl 5 rfl) ?_
  refine lv_iconst (v := (-1)) hx hb dX3_trySeat_13 (by decide) ?_
  refine lv_icmp_ne (tgt := 21) hx hb dX3_trySeat_14 (by decide) (fun hc_1 => ?_) (fun hc_1 => ?_)
  · have hv := hv.1 hc_1
    refine lv_aload_n hx hb dX3_trySeat_21 rfl (lv_at hl 2 rfl) ?_
    refine va_get (D := G.1) (ci := 1) (v := .ref n1) (C := RX1) (T := TX1) (N := 10) hx hb hts hinX1 hown hKK.1 hP 13 rfl rfl 0 (by decide) kl64 (fun _ h9 => h9) rfl dX3_trySeat_22 ?_
    refine lv_iload hx hb dX3_trySeat_25 (lv_at hl 5 rfl) ?_
    obtain ⟨hin, hv⟩ := hv
    refine va_iald hx hb hKK.1 hP 14 0 rfl rfl hin dX3_trySeat_27 ?_
    refine x_callv (wr := [(q, .inr (3, [.ref s0, .ref q1, .ref q2, .ref q3, .ref q4, .int bc, .int bl])), aI G q1 40 co, aI G q2 40 wo, aI G q3 4 ch, aI G q4 4 be, (t, .inr (6, [.int ns, .int np, .int fu, .int fd, .int fi, .ref t1, .ref t2, .ref t3, .ref t4, .ref t5, .ref t6])), aI G t1 9 sz_, aI G t2 9 pt, aI G t3 9 fh, aI G t4 8 kd, aI G t5 8 nd, aI G t6 8 fw, (n, .inr (1, [.ref n1, .ref n2, .ref n3, .ref n4, .ref n5, .ref n6, .ref n7, .int lo, .int mi, .int sd])), aI G n1 9 ht, aI G n2 8 wm, aI G n3 8 se, aI G n4 8 cd, aI G n5 8 sl, aI G n6 8 od, aI G n7 72 ow]) (w' := fun (u : (Int32) × (Int32)) => [(q, .inr (3, [.ref s0, .ref q1, .ref q2, .ref q3, .ref q4, .int bc, .int bl])), aI G q1 40 co, aI G q2 40 wo, aI G q3 4 ch, aI G q4 4 be, (s0, .inr (4, [.int u.1, .int u.2])), (t, .inr (6, [.int ns, .int np, .int fu, .int fd, .int fi, .ref t1, .ref t2, .ref t3, .ref t4, .ref t5, .ref t6])), aI G t1 9 sz_, aI G t2 9 pt, aI G t3 9 fh, aI G t4 8 kd, aI G t5 8 nd, aI G t6 8 fw, (n, .inr (1, [.ref n1, .ref n2, .ref n3, .ref n4, .ref n5, .ref n6, .ref n7, .int lo, .int mi, .int sd])), aI G n1 9 ht, aI G n2 8 wm, aI G n3 8 se, aI G n4 8 cd, aI G n5 8 sl, aI G n6 8 od, aI G n7 72 ow]) (x_runV (As := [.int (wm pq.toNatClampNeg), .int (ht bq.toNatClampNeg)]) (rest := []) (n := 2) (C := RX4) (ci := 4) ⟨hx, hb, hml, hown, hts⟩ (k_X4_begin l G s0 _ sw sh (wm pq.toNatClampNeg) (ht bq.toNatClampNeg)) gX3_trySeat_X4_begin rfl (by decide +kernel) ⟨Nat.le_trans (Nat.le_of_ble_eq_true rfl) hRf, Nat.le_trans (Nat.le_of_ble_eq_true rfl) hRl⟩ hKK hSS hS hA hP hD [5] (by decide) rfl rfl rfl 5 rfl rfl hl.1 rfl (Nat.le_of_ble_eq_true rfl) dX3_trySeat_28) hP hD hS hA [5] [0, 1, 2, 3, 4, 6, 7, 8, 9, 10, 11, 12, 13, 14, 15, 16, 17, 18, 19, 20] [0, 1, 2, 3, 4, 20, 5, 6, 7, 8, 9, 10, 11, 12, 13, 14, 15, 16, 17, 18, 19] rfl rfl (by decide) (by decide) (by decide) (fun _ => rfl) (fun  u H locs hw hP hD hS => ?_)
    obtain ⟨sw2_3, sh2_4⟩ := u
    obtain ⟨hw0, hw1⟩ := hw
    replace hw0 := hw0.symm; subst hw0
    replace hw1 := hw1.symm; subst hw1
    have hP : va_P G.1 vwCl [(q, .inr (3, [.ref s0, .ref q1, .ref q2, .ref q3, .ref q4, .int bc, .int bl])), aI G q1 40 co, aI G q2 40 wo, aI G q3 4 ch, aI G q4 4 be, (s0, .inr (4, [.int (wm pq.toNatClampNeg), .int (ht bq.toNatClampNeg)])), (t, .inr (6, [.int ns, .int np, .int fu, .int fd, .int fi, .ref t1, .ref t2, .ref t3, .ref t4, .ref t5, .ref t6])), aI G t1 9 sz_, aI G t2 9 pt, aI G t3 9 fh, aI G t4 8 kd, aI G t5 8 nd, aI G t6 8 fw, (n, .inr (1, [.ref n1, .ref n2, .ref n3, .ref n4, .ref n5, .ref n6, .ref n7, .int lo, .int mi, .int sd])), aI G n1 9 ht, aI G n2 8 wm, aI G n3 8 se, aI G n4 8 cd, aI G n5 8 sl, aI G n6 8 od, aI G n7 72 ow] H := hP
    have hD : va_D A [(q, .inr (3, [.ref s0, .ref q1, .ref q2, .ref q3, .ref q4, .int bc, .int bl])), aI G q1 40 co, aI G q2 40 wo, aI G q3 4 ch, aI G q4 4 be, (s0, .inr (4, [.int (wm pq.toNatClampNeg), .int (ht bq.toNatClampNeg)])), (t, .inr (6, [.int ns, .int np, .int fu, .int fd, .int fi, .ref t1, .ref t2, .ref t3, .ref t4, .ref t5, .ref t6])), aI G t1 9 sz_, aI G t2 9 pt, aI G t3 9 fh, aI G t4 8 kd, aI G t5 8 nd, aI G t6 8 fw, (n, .inr (1, [.ref n1, .ref n2, .ref n3, .ref n4, .ref n5, .ref n6, .ref n7, .int lo, .int mi, .int sd])), aI G n1 9 ht, aI G n2 8 wm, aI G n3 8 se, aI G n4 8 cd, aI G n5 8 sl, aI G n6 8 od, aI G n7 72 ow] := hD
    refine lv_iconst (v := 0) hx hb dX3_trySeat_31 (by decide) ?_
    refine lv_istore (lv' := [(6, .int 0), (0, .ref q), (1, .ref t), (2, .ref n), (3, .int mm), (4, .int pq), (5, .int bq)]) hx hb dX3_trySeat_32 hl (by decide) rfl (fun ls hl => ?_)
    refine lv_iconst (v := 0) hx hb dX3_trySeat_34 (by decide) ?_
    refine lv_istore (lv' := [(7, .int 0), (6, .int 0), (0, .ref q), (1, .ref t), (2, .ref n), (3, .int mm), (4, .int pq), (5, .int bq)]) hx hb dX3_trySeat_35 hl (by decide) rfl (fun ls hl => ?_)
    obtain ⟨I37_9, μ37_10, hi0, hs_20⟩ := hv
    have Lm_22 : ∀ (n_21 : Nat) (gs00_5 : Int32) (gs01_6 : Int32) (x6_7 : Int32) (x7_8 : Int32) (H : Heap) (locs : List Loc) (ls : Array Slot), μ37_10 gs00_5 gs01_6 x6_7 x7_8 < n_21 → I37_9 gs00_5 gs01_6 x6_7 x7_8 → va_P G.1 vwCl [(q, .inr (3, [.ref s0, .ref q1, .ref q2, .ref q3, .ref q4, .int bc, .int bl])), aI G q1 40 co, aI G q2 40 wo, aI G q3 4 ch, aI G q4 4 be, (s0, .inr (4, [.int gs00_5, .int gs01_6])), (t, .inr (6, [.int ns, .int np, .int fu, .int fd, .int fi, .ref t1, .ref t2, .ref t3, .ref t4, .ref t5, .ref t6])), aI G t1 9 sz_, aI G t2 9 pt, aI G t3 9 fh, aI G t4 8 kd, aI G t5 8 nd, aI G t6 8 fw, (n, .inr (1, [.ref n1, .ref n2, .ref n3, .ref n4, .ref n5, .ref n6, .ref n7, .int lo, .int mi, .int sd])), aI G n1 9 ht, aI G n2 8 wm, aI G n3 8 se, aI G n4 8 cd, aI G n5 8 sl, aI G n6 8 od, aI G n7 72 ow] H → va_D A [(q, .inr (3, [.ref s0, .ref q1, .ref q2, .ref q3, .ref q4, .int bc, .int bl])), aI G q1 40 co, aI G q2 40 wo, aI G q3 4 ch, aI G q4 4 be, (s0, .inr (4, [.int gs00_5, .int gs01_6])), (t, .inr (6, [.int ns, .int np, .int fu, .int fd, .int fi, .ref t1, .ref t2, .ref t3, .ref t4, .ref t5, .ref t6])), aI G t1 9 sz_, aI G t2 9 pt, aI G t3 9 fh, aI G t4 8 kd, aI G t5 8 nd, aI G t6 8 fw, (n, .inr (1, [.ref n1, .ref n2, .ref n3, .ref n4, .ref n5, .ref n6, .ref n7, .int lo, .int mi, .int sd])), aI G n1 9 ht, aI G n2 8 wm, aI G n3 8 se, aI G n4 8 cd, aI G n5 8 sl, aI G n6 8 od, aI G n7 72 ow] → va_S A s.heap H locs → lv_has ls 8 [(7, .int x7_8), (6, .int x6_7), (0, .ref q), (1, .ref t), (2, .ref n), (3, .int mm), (4, .int pq), (5, .int bq)] → W p l e R s m args below meth c H locs 0 0 Q (F0 m 37 ls []) := by
      intro n_21
      induction n_21 with
      | zero => intro gs00_5 gs01_6 x6_7 x7_8 H locs ls hm; exact absurd hm (Nat.not_lt_zero _)
      | succ n_21 ih_11 =>
        intro gs00_5 gs01_6 x6_7 x7_8 H locs ls hI_12 hi hP hD hS hl
        have hv := hs_20 gs00_5 gs01_6 x6_7 x7_8 hi
        refine lv_iload hx hb dX3_trySeat_37 (lv_at hl 0 rfl) ?_
        refine lv_iload_n hx hb dX3_trySeat_39 rfl (lv_at hl 5 rfl) ?_
        refine lv_icmp_ge (tgt := 81) hx hb dX3_trySeat_40 (by decide) (fun hc_13 => ?_) (fun hc_13 => ?_)
        · have hv := hv.1 hc_13
          refine lv_aload_n hx hb dX3_trySeat_81 rfl (lv_at hl 2 rfl) ?_
          refine va_get (D := G.1) (ci := 3) (v := .ref q1) (C := RX3) (T := TX3) (N := 7) hx hb hts hinX3 hown hKK.1 hP 0 rfl rfl 1 (by decide) kl18 (fun _ h9 => h9) rfl dX3_trySeat_82 ?_
          refine lv_iload hx hb dX3_trySeat_85 (lv_at hl 6 rfl) ?_
          refine lv_iload hx hb dX3_trySeat_87 (lv_at hl 7 rfl) ?_
          refine x_calliR (x_runS (As := [.int pq, .int bq]) (rest := [.ref q1]) (n := 2) ⟨hx, hb, hml, hown, hts⟩ (k_X3_seatAt l G  _ pq bq) gX3_trySeat_X3_seatAt rfl (by decide +kernel) ⟨Nat.le_trans (Nat.le_of_ble_eq_true rfl) hRf, Nat.le_trans (Nat.le_of_ble_eq_true rfl) hRl⟩ hKK hSS hS hA hP hD [] (by decide) rfl rfl hl.1 rfl (Nat.le_of_ble_eq_true rfl) dX3_trySeat_89) hP hD hS hA [] rfl (fun r_14 _ H locs hw hP hS => ?_)
          replace hw := hw.symm; subst hw
          refine lv_iload hx hb dX3_trySeat_92 (lv_at hl 1 rfl) ?_
          obtain ⟨hin, hv⟩ := hv
          refine va_iast hx hb hKK.1 hP hD hS 1 0 rfl rfl hin dX3_trySeat_94 (fun H locs hP hD hS => ?_)
          have hP : va_P G.1 vwCl [(q, .inr (3, [.ref s0, .ref q1, .ref q2, .ref q3, .ref q4, .int bc, .int bl])), aI G q1 40 (upd co ((pq * 10 + bq + 1).toNatClampNeg) x6_7), aI G q2 40 wo, aI G q3 4 ch, aI G q4 4 be, (s0, .inr (4, [.int gs00_5, .int gs01_6])), (t, .inr (6, [.int ns, .int np, .int fu, .int fd, .int fi, .ref t1, .ref t2, .ref t3, .ref t4, .ref t5, .ref t6])), aI G t1 9 sz_, aI G t2 9 pt, aI G t3 9 fh, aI G t4 8 kd, aI G t5 8 nd, aI G t6 8 fw, (n, .inr (1, [.ref n1, .ref n2, .ref n3, .ref n4, .ref n5, .ref n6, .ref n7, .int lo, .int mi, .int sd])), aI G n1 9 ht, aI G n2 8 wm, aI G n3 8 se, aI G n4 8 cd, aI G n5 8 sl, aI G n6 8 od, aI G n7 72 ow] H := hP
          have hD : va_D A [(q, .inr (3, [.ref s0, .ref q1, .ref q2, .ref q3, .ref q4, .int bc, .int bl])), aI G q1 40 (upd co ((pq * 10 + bq + 1).toNatClampNeg) x6_7), aI G q2 40 wo, aI G q3 4 ch, aI G q4 4 be, (s0, .inr (4, [.int gs00_5, .int gs01_6])), (t, .inr (6, [.int ns, .int np, .int fu, .int fd, .int fi, .ref t1, .ref t2, .ref t3, .ref t4, .ref t5, .ref t6])), aI G t1 9 sz_, aI G t2 9 pt, aI G t3 9 fh, aI G t4 8 kd, aI G t5 8 nd, aI G t6 8 fw, (n, .inr (1, [.ref n1, .ref n2, .ref n3, .ref n4, .ref n5, .ref n6, .ref n7, .int lo, .int mi, .int sd])), aI G n1 9 ht, aI G n2 8 wm, aI G n3 8 se, aI G n4 8 cd, aI G n5 8 sl, aI G n6 8 od, aI G n7 72 ow] := hD
          refine lv_aload_n hx hb dX3_trySeat_95 rfl (lv_at hl 2 rfl) ?_
          refine va_get (D := G.1) (ci := 3) (v := .ref q2) (C := RX3) (T := TX3) (N := 7) hx hb hts hinX3 hown hKK.1 hP 0 rfl rfl 2 (by decide) kl22 (fun _ h9 => h9) rfl dX3_trySeat_96 ?_
          refine lv_iload hx hb dX3_trySeat_99 (lv_at hl 6 rfl) ?_
          refine lv_iload hx hb dX3_trySeat_101 (lv_at hl 7 rfl) ?_
          refine x_calliR (x_runS (As := [.int pq, .int bq]) (rest := [.ref q2]) (n := 2) ⟨hx, hb, hml, hown, hts⟩ (k_X3_seatAt l G  _ pq bq) gX3_trySeat_X3_seatAt rfl (by decide +kernel) ⟨Nat.le_trans (Nat.le_of_ble_eq_true rfl) hRf, Nat.le_trans (Nat.le_of_ble_eq_true rfl) hRl⟩ hKK hSS hS hA hP hD [] (by decide) rfl rfl hl.1 rfl (Nat.le_of_ble_eq_true rfl) dX3_trySeat_103) hP hD hS hA [] rfl (fun r_15 _ H locs hw hP hS => ?_)
          replace hw := hw.symm; subst hw
          refine lv_aload_n hx hb dX3_trySeat_106 rfl (lv_at hl 2 rfl) ?_
          refine va_get (D := G.1) (ci := 3) (v := .ref s0) (C := RX3) (T := TX3) (N := 7) hx hb hts hinX3 hown hKK.1 hP 0 rfl rfl 0 (by decide) kl12 (fun _ h9 => h9) rfl dX3_trySeat_107 ?_
          refine va_get (D := G.1) (ci := 4) (v := .int gs00_5) (C := RX4) (T := TX4) (N := 2) hx hb hts hinX4 hown hKK.1 hP 5 rfl rfl 0 (by decide) kl75 (fun _ h9 => h9) rfl dX3_trySeat_110 ?_
          obtain ⟨hin, hv⟩ := hv
          refine va_iast hx hb hKK.1 hP hD hS 2 0 rfl rfl hin dX3_trySeat_113 (fun H locs hP hD hS => ?_)
          have hP : va_P G.1 vwCl [(q, .inr (3, [.ref s0, .ref q1, .ref q2, .ref q3, .ref q4, .int bc, .int bl])), aI G q1 40 (upd co ((pq * 10 + bq + 1).toNatClampNeg) x6_7), aI G q2 40 (upd wo ((pq * 10 + bq + 1).toNatClampNeg) gs00_5), aI G q3 4 ch, aI G q4 4 be, (s0, .inr (4, [.int gs00_5, .int gs01_6])), (t, .inr (6, [.int ns, .int np, .int fu, .int fd, .int fi, .ref t1, .ref t2, .ref t3, .ref t4, .ref t5, .ref t6])), aI G t1 9 sz_, aI G t2 9 pt, aI G t3 9 fh, aI G t4 8 kd, aI G t5 8 nd, aI G t6 8 fw, (n, .inr (1, [.ref n1, .ref n2, .ref n3, .ref n4, .ref n5, .ref n6, .ref n7, .int lo, .int mi, .int sd])), aI G n1 9 ht, aI G n2 8 wm, aI G n3 8 se, aI G n4 8 cd, aI G n5 8 sl, aI G n6 8 od, aI G n7 72 ow] H := hP
          have hD : va_D A [(q, .inr (3, [.ref s0, .ref q1, .ref q2, .ref q3, .ref q4, .int bc, .int bl])), aI G q1 40 (upd co ((pq * 10 + bq + 1).toNatClampNeg) x6_7), aI G q2 40 (upd wo ((pq * 10 + bq + 1).toNatClampNeg) gs00_5), aI G q3 4 ch, aI G q4 4 be, (s0, .inr (4, [.int gs00_5, .int gs01_6])), (t, .inr (6, [.int ns, .int np, .int fu, .int fd, .int fi, .ref t1, .ref t2, .ref t3, .ref t4, .ref t5, .ref t6])), aI G t1 9 sz_, aI G t2 9 pt, aI G t3 9 fh, aI G t4 8 kd, aI G t5 8 nd, aI G t6 8 fw, (n, .inr (1, [.ref n1, .ref n2, .ref n3, .ref n4, .ref n5, .ref n6, .ref n7, .int lo, .int mi, .int sd])), aI G n1 9 ht, aI G n2 8 wm, aI G n3 8 se, aI G n4 8 cd, aI G n5 8 sl, aI G n6 8 od, aI G n7 72 ow] := hD
          exact x_vret ((upd co ((pq * 10 + bq + 1).toNatClampNeg) x6_7), (upd wo ((pq * 10 + bq + 1).toNatClampNeg) gs00_5), gs00_5, gs01_6) hQ hx hb hr hlocks hS dX3_trySeat_114 hv hP hD
        · have hv := hv.2 hc_13
          refine lv_aload_n hx hb dX3_trySeat_43 rfl (lv_at hl 2 rfl) ?_
          refine va_get (D := G.1) (ci := 3) (v := .ref s0) (C := RX3) (T := TX3) (N := 7) hx hb hts hinX3 hown hKK.1 hP 0 rfl rfl 0 (by decide) kl12 (fun _ h9 => h9) rfl dX3_trySeat_44 ?_
          refine lv_aload_n hx hb dX3_trySeat_47 rfl (lv_at hl 3 rfl) ?_
          refine lv_iload hx hb dX3_trySeat_48 (lv_at hl 6 rfl) ?_
          refine lv_iload hx hb dX3_trySeat_50 (lv_at hl 7 rfl) ?_
          obtain ⟨hp, hv⟩ := hv
          refine x_callv (wr := [(q, .inr (3, [.ref s0, .ref q1, .ref q2, .ref q3, .ref q4, .int bc, .int bl])), aI G q1 40 co, aI G q2 40 wo, aI G q3 4 ch, aI G q4 4 be, (n, .inr (1, [.ref n1, .ref n2, .ref n3, .ref n4, .ref n5, .ref n6, .ref n7, .int lo, .int mi, .int sd])), aI G n1 9 ht, aI G n2 8 wm, aI G n3 8 se, aI G n4 8 cd, aI G n5 8 sl, aI G n6 8 od, aI G n7 72 ow]) (w' := fun (u : (Int32) × (Int32)) => [(q, .inr (3, [.ref s0, .ref q1, .ref q2, .ref q3, .ref q4, .int bc, .int bl])), aI G q1 40 co, aI G q2 40 wo, aI G q3 4 ch, aI G q4 4 be, (s0, .inr (4, [.int u.1, .int u.2])), (t, .inr (6, [.int ns, .int np, .int fu, .int fd, .int fi, .ref t1, .ref t2, .ref t3, .ref t4, .ref t5, .ref t6])), aI G t1 9 sz_, aI G t2 9 pt, aI G t3 9 fh, aI G t4 8 kd, aI G t5 8 nd, aI G t6 8 fw, (n, .inr (1, [.ref n1, .ref n2, .ref n3, .ref n4, .ref n5, .ref n6, .ref n7, .int lo, .int mi, .int sd])), aI G n1 9 ht, aI G n2 8 wm, aI G n3 8 se, aI G n4 8 cd, aI G n5 8 sl, aI G n6 8 od, aI G n7 72 ow]) (x_runV (As := [.ref t, .int pq, .int bq]) (rest := []) (n := 3) (C := RX4) (ci := 4) ⟨hx, hb, hml, hown, hts⟩ (k_X4_passMinute l G s0 t t1 t2 t3 t4 t5 t6 _ gs00_5 gs01_6 ns np fu fd fi sz_ pt fh kd nd fw pq bq hp) gX3_trySeat_X4_passMinute rfl (by decide +kernel) ⟨Nat.le_trans (Nat.le_of_ble_eq_true rfl) hRf, Nat.le_trans (Nat.le_of_ble_eq_true rfl) hRl⟩ hKK hSS hS hA hP hD [5, 6, 7, 8, 9, 10, 11, 12] (by decide) rfl rfl rfl 5 rfl rfl hl.1 rfl (Nat.le_of_ble_eq_true rfl) dX3_trySeat_52) hP hD hS hA [5, 6, 7, 8, 9, 10, 11, 12] [0, 1, 2, 3, 4, 13, 14, 15, 16, 17, 18, 19, 20] [0, 1, 2, 3, 4, 13, 14, 15, 16, 17, 18, 19, 20, 5, 6, 7, 8, 9, 10, 11, 12] rfl rfl (by decide) (by decide) (by decide) (fun _ => rfl) (fun  u H locs hw hP hD hS => ?_)
          obtain ⟨sw2_17, sh2_18⟩ := u
          obtain ⟨hw0, hw1⟩ := hw
          replace hw0 := hw0.symm; subst hw0
          replace hw1 := hw1.symm; subst hw1
          have hP : va_P G.1 vwCl [(q, .inr (3, [.ref s0, .ref q1, .ref q2, .ref q3, .ref q4, .int bc, .int bl])), aI G q1 40 co, aI G q2 40 wo, aI G q3 4 ch, aI G q4 4 be, (s0, .inr (4, [.int (sitW ns fu fd (kd pq.toNatClampNeg) (sz_ bq.toNatClampNeg) bq gs00_5 gs01_6), .int (sitH ns (kd pq.toNatClampNeg) (sz_ bq.toNatClampNeg) bq gs00_5 gs01_6)])), (t, .inr (6, [.int ns, .int np, .int fu, .int fd, .int fi, .ref t1, .ref t2, .ref t3, .ref t4, .ref t5, .ref t6])), aI G t1 9 sz_, aI G t2 9 pt, aI G t3 9 fh, aI G t4 8 kd, aI G t5 8 nd, aI G t6 8 fw, (n, .inr (1, [.ref n1, .ref n2, .ref n3, .ref n4, .ref n5, .ref n6, .ref n7, .int lo, .int mi, .int sd])), aI G n1 9 ht, aI G n2 8 wm, aI G n3 8 se, aI G n4 8 cd, aI G n5 8 sl, aI G n6 8 od, aI G n7 72 ow] H := hP
          have hD : va_D A [(q, .inr (3, [.ref s0, .ref q1, .ref q2, .ref q3, .ref q4, .int bc, .int bl])), aI G q1 40 co, aI G q2 40 wo, aI G q3 4 ch, aI G q4 4 be, (s0, .inr (4, [.int (sitW ns fu fd (kd pq.toNatClampNeg) (sz_ bq.toNatClampNeg) bq gs00_5 gs01_6), .int (sitH ns (kd pq.toNatClampNeg) (sz_ bq.toNatClampNeg) bq gs00_5 gs01_6)])), (t, .inr (6, [.int ns, .int np, .int fu, .int fd, .int fi, .ref t1, .ref t2, .ref t3, .ref t4, .ref t5, .ref t6])), aI G t1 9 sz_, aI G t2 9 pt, aI G t3 9 fh, aI G t4 8 kd, aI G t5 8 nd, aI G t6 8 fw, (n, .inr (1, [.ref n1, .ref n2, .ref n3, .ref n4, .ref n5, .ref n6, .ref n7, .int lo, .int mi, .int sd])), aI G n1 9 ht, aI G n2 8 wm, aI G n3 8 se, aI G n4 8 cd, aI G n5 8 sl, aI G n6 8 od, aI G n7 72 ow] := hD
          refine lv_aload_n hx hb dX3_trySeat_55 rfl (lv_at hl 2 rfl) ?_
          refine va_get (D := G.1) (ci := 3) (v := .ref s0) (C := RX3) (T := TX3) (N := 7) hx hb hts hinX3 hown hKK.1 hP 0 rfl rfl 0 (by decide) kl12 (fun _ h9 => h9) rfl dX3_trySeat_56 ?_
          refine va_get (D := G.1) (ci := 4) (v := .int (sitW ns fu fd (kd pq.toNatClampNeg) (sz_ bq.toNatClampNeg) bq gs00_5 gs01_6)) (C := RX4) (T := TX4) (N := 2) hx hb hts hinX4 hown hKK.1 hP 5 rfl rfl 0 (by decide) kl75 (fun _ h9 => h9) rfl dX3_trySeat_59 ?_
          refine lv_aload_n hx hb dX3_trySeat_62 rfl (lv_at hl 3 rfl) ?_
          refine va_get (D := G.1) (ci := 6) (v := .ref t5) (C := RX6) (T := TX6) (N := 11) hx hb hts hinX6 hown hKK.1 hP 6 rfl rfl 9 (by decide) kl77 (fun _ h9 => h9) rfl dX3_trySeat_63 ?_
          refine lv_iload hx hb dX3_trySeat_66 (lv_at hl 6 rfl) ?_
          obtain ⟨hin, hv⟩ := hv
          refine va_iald hx hb hKK.1 hP 11 0 rfl rfl hin dX3_trySeat_68 ?_
          refine lv_icmp_ge (tgt := 75) hx hb dX3_trySeat_69 (by decide) (fun hc_19 => ?_) (fun hc_19 => ?_)
          · have hv := hv.1 hc_19
            refine lv_iinc (v := (x7_8 + 1)) (lv' := [(7, .int (x7_8 + 1)), (6, .int x6_7), (0, .ref q), (1, .ref t), (2, .ref n), (3, .int mm), (4, .int pq), (5, .int bq)]) hx hb dX3_trySeat_75 hl (k := 0) rfl rfl (by decide) rfl (fun ls hl => ?_)
            refine lv_goto (tgt := 37) hx hb dX3_trySeat_78 (by decide) ?_
            exact ih_11 _ _ _ _ _ _ _ (Nat.lt_of_lt_of_le hv.2 (Nat.le_of_lt_succ hI_12)) hv.1 hP hD hS hl
          · have hv := hv.2 hc_19
            refine lv_iinc (v := (x6_7 + 1)) (lv' := [(6, .int (x6_7 + 1)), (7, .int x7_8), (0, .ref q), (1, .ref t), (2, .ref n), (3, .int mm), (4, .int pq), (5, .int bq)]) hx hb dX3_trySeat_72 hl (k := 1) rfl rfl (by decide) rfl (fun ls hl => ?_)
            refine lv_iinc (v := (x7_8 + 1)) (lv' := [(7, .int (x7_8 + 1)), (6, .int (x6_7 + 1)), (0, .ref q), (1, .ref t), (2, .ref n), (3, .int mm), (4, .int pq), (5, .int bq)]) hx hb dX3_trySeat_75 hl (k := 1) rfl rfl (by decide) rfl (fun ls hl => ?_)
            refine lv_goto (tgt := 37) hx hb dX3_trySeat_78 (by decide) ?_
            exact ih_11 _ _ _ _ _ _ _ (Nat.lt_of_lt_of_le hv.2 (Nat.le_of_lt_succ hI_12)) hv.1 hP hD hS hl
    exact Lm_22 _ _ _ _ _ _ _ _ (Nat.lt_succ_self _) hi0 hP hD hS hl
  · have hv := hv.2 hc_1
    refine lv_iconst (v := 0) hx hb dX3_trySeat_17 (by decide) ?_
    refine lv_goto (tgt := 28) hx hb dX3_trySeat_18 (by decide) ?_
    refine x_callv (wr := [(q, .inr (3, [.ref s0, .ref q1, .ref q2, .ref q3, .ref q4, .int bc, .int bl])), aI G q1 40 co, aI G q2 40 wo, aI G q3 4 ch, aI G q4 4 be, (t, .inr (6, [.int ns, .int np, .int fu, .int fd, .int fi, .ref t1, .ref t2, .ref t3, .ref t4, .ref t5, .ref t6])), aI G t1 9 sz_, aI G t2 9 pt, aI G t3 9 fh, aI G t4 8 kd, aI G t5 8 nd, aI G t6 8 fw, (n, .inr (1, [.ref n1, .ref n2, .ref n3, .ref n4, .ref n5, .ref n6, .ref n7, .int lo, .int mi, .int sd])), aI G n1 9 ht, aI G n2 8 wm, aI G n3 8 se, aI G n4 8 cd, aI G n5 8 sl, aI G n6 8 od, aI G n7 72 ow]) (w' := fun (u : (Int32) × (Int32)) => [(q, .inr (3, [.ref s0, .ref q1, .ref q2, .ref q3, .ref q4, .int bc, .int bl])), aI G q1 40 co, aI G q2 40 wo, aI G q3 4 ch, aI G q4 4 be, (s0, .inr (4, [.int u.1, .int u.2])), (t, .inr (6, [.int ns, .int np, .int fu, .int fd, .int fi, .ref t1, .ref t2, .ref t3, .ref t4, .ref t5, .ref t6])), aI G t1 9 sz_, aI G t2 9 pt, aI G t3 9 fh, aI G t4 8 kd, aI G t5 8 nd, aI G t6 8 fw, (n, .inr (1, [.ref n1, .ref n2, .ref n3, .ref n4, .ref n5, .ref n6, .ref n7, .int lo, .int mi, .int sd])), aI G n1 9 ht, aI G n2 8 wm, aI G n3 8 se, aI G n4 8 cd, aI G n5 8 sl, aI G n6 8 od, aI G n7 72 ow]) (x_runV (As := [.int (wm pq.toNatClampNeg), .int 0]) (rest := []) (n := 2) (C := RX4) (ci := 4) ⟨hx, hb, hml, hown, hts⟩ (k_X4_begin l G s0 _ sw sh (wm pq.toNatClampNeg) 0) gX3_trySeat_X4_begin rfl (by decide +kernel) ⟨Nat.le_trans (Nat.le_of_ble_eq_true rfl) hRf, Nat.le_trans (Nat.le_of_ble_eq_true rfl) hRl⟩ hKK hSS hS hA hP hD [5] (by decide) rfl rfl rfl 5 rfl rfl hl.1 rfl (Nat.le_of_ble_eq_true rfl) dX3_trySeat_28) hP hD hS hA [5] [0, 1, 2, 3, 4, 6, 7, 8, 9, 10, 11, 12, 13, 14, 15, 16, 17, 18, 19, 20] [0, 1, 2, 3, 4, 20, 5, 6, 7, 8, 9, 10, 11, 12, 13, 14, 15, 16, 17, 18, 19] rfl rfl (by decide) (by decide) (by decide) (fun _ => rfl) (fun  u H locs hw hP hD hS => ?_)
    obtain ⟨sw2_24, sh2_25⟩ := u
    obtain ⟨hw0, hw1⟩ := hw
    replace hw0 := hw0.symm; subst hw0
    replace hw1 := hw1.symm; subst hw1
    have hP : va_P G.1 vwCl [(q, .inr (3, [.ref s0, .ref q1, .ref q2, .ref q3, .ref q4, .int bc, .int bl])), aI G q1 40 co, aI G q2 40 wo, aI G q3 4 ch, aI G q4 4 be, (s0, .inr (4, [.int (wm pq.toNatClampNeg), .int 0])), (t, .inr (6, [.int ns, .int np, .int fu, .int fd, .int fi, .ref t1, .ref t2, .ref t3, .ref t4, .ref t5, .ref t6])), aI G t1 9 sz_, aI G t2 9 pt, aI G t3 9 fh, aI G t4 8 kd, aI G t5 8 nd, aI G t6 8 fw, (n, .inr (1, [.ref n1, .ref n2, .ref n3, .ref n4, .ref n5, .ref n6, .ref n7, .int lo, .int mi, .int sd])), aI G n1 9 ht, aI G n2 8 wm, aI G n3 8 se, aI G n4 8 cd, aI G n5 8 sl, aI G n6 8 od, aI G n7 72 ow] H := hP
    have hD : va_D A [(q, .inr (3, [.ref s0, .ref q1, .ref q2, .ref q3, .ref q4, .int bc, .int bl])), aI G q1 40 co, aI G q2 40 wo, aI G q3 4 ch, aI G q4 4 be, (s0, .inr (4, [.int (wm pq.toNatClampNeg), .int 0])), (t, .inr (6, [.int ns, .int np, .int fu, .int fd, .int fi, .ref t1, .ref t2, .ref t3, .ref t4, .ref t5, .ref t6])), aI G t1 9 sz_, aI G t2 9 pt, aI G t3 9 fh, aI G t4 8 kd, aI G t5 8 nd, aI G t6 8 fw, (n, .inr (1, [.ref n1, .ref n2, .ref n3, .ref n4, .ref n5, .ref n6, .ref n7, .int lo, .int mi, .int sd])), aI G n1 9 ht, aI G n2 8 wm, aI G n3 8 se, aI G n4 8 cd, aI G n5 8 sl, aI G n6 8 od, aI G n7 72 ow] := hD
    refine lv_iconst (v := 0) hx hb dX3_trySeat_31 (by decide) ?_
    refine lv_istore (lv' := [(6, .int 0), (0, .ref q), (1, .ref t), (2, .ref n), (3, .int mm), (4, .int pq), (5, .int bq)]) hx hb dX3_trySeat_32 hl (by decide) rfl (fun ls hl => ?_)
    refine lv_iconst (v := 0) hx hb dX3_trySeat_34 (by decide) ?_
    refine lv_istore (lv' := [(7, .int 0), (6, .int 0), (0, .ref q), (1, .ref t), (2, .ref n), (3, .int mm), (4, .int pq), (5, .int bq)]) hx hb dX3_trySeat_35 hl (by decide) rfl (fun ls hl => ?_)
    obtain ⟨I37_30, μ37_31, hi0, hs_41⟩ := hv
    have Lm_43 : ∀ (n_42 : Nat) (gs00_26 : Int32) (gs01_27 : Int32) (x6_28 : Int32) (x7_29 : Int32) (H : Heap) (locs : List Loc) (ls : Array Slot), μ37_31 gs00_26 gs01_27 x6_28 x7_29 < n_42 → I37_30 gs00_26 gs01_27 x6_28 x7_29 → va_P G.1 vwCl [(q, .inr (3, [.ref s0, .ref q1, .ref q2, .ref q3, .ref q4, .int bc, .int bl])), aI G q1 40 co, aI G q2 40 wo, aI G q3 4 ch, aI G q4 4 be, (s0, .inr (4, [.int gs00_26, .int gs01_27])), (t, .inr (6, [.int ns, .int np, .int fu, .int fd, .int fi, .ref t1, .ref t2, .ref t3, .ref t4, .ref t5, .ref t6])), aI G t1 9 sz_, aI G t2 9 pt, aI G t3 9 fh, aI G t4 8 kd, aI G t5 8 nd, aI G t6 8 fw, (n, .inr (1, [.ref n1, .ref n2, .ref n3, .ref n4, .ref n5, .ref n6, .ref n7, .int lo, .int mi, .int sd])), aI G n1 9 ht, aI G n2 8 wm, aI G n3 8 se, aI G n4 8 cd, aI G n5 8 sl, aI G n6 8 od, aI G n7 72 ow] H → va_D A [(q, .inr (3, [.ref s0, .ref q1, .ref q2, .ref q3, .ref q4, .int bc, .int bl])), aI G q1 40 co, aI G q2 40 wo, aI G q3 4 ch, aI G q4 4 be, (s0, .inr (4, [.int gs00_26, .int gs01_27])), (t, .inr (6, [.int ns, .int np, .int fu, .int fd, .int fi, .ref t1, .ref t2, .ref t3, .ref t4, .ref t5, .ref t6])), aI G t1 9 sz_, aI G t2 9 pt, aI G t3 9 fh, aI G t4 8 kd, aI G t5 8 nd, aI G t6 8 fw, (n, .inr (1, [.ref n1, .ref n2, .ref n3, .ref n4, .ref n5, .ref n6, .ref n7, .int lo, .int mi, .int sd])), aI G n1 9 ht, aI G n2 8 wm, aI G n3 8 se, aI G n4 8 cd, aI G n5 8 sl, aI G n6 8 od, aI G n7 72 ow] → va_S A s.heap H locs → lv_has ls 8 [(7, .int x7_29), (6, .int x6_28), (0, .ref q), (1, .ref t), (2, .ref n), (3, .int mm), (4, .int pq), (5, .int bq)] → W p l e R s m args below meth c H locs 0 0 Q (F0 m 37 ls []) := by
      intro n_42
      induction n_42 with
      | zero => intro gs00_26 gs01_27 x6_28 x7_29 H locs ls hm; exact absurd hm (Nat.not_lt_zero _)
      | succ n_42 ih_32 =>
        intro gs00_26 gs01_27 x6_28 x7_29 H locs ls hI_33 hi hP hD hS hl
        have hv := hs_41 gs00_26 gs01_27 x6_28 x7_29 hi
        refine lv_iload hx hb dX3_trySeat_37 (lv_at hl 0 rfl) ?_
        refine lv_iload_n hx hb dX3_trySeat_39 rfl (lv_at hl 5 rfl) ?_
        refine lv_icmp_ge (tgt := 81) hx hb dX3_trySeat_40 (by decide) (fun hc_34 => ?_) (fun hc_34 => ?_)
        · have hv := hv.1 hc_34
          refine lv_aload_n hx hb dX3_trySeat_81 rfl (lv_at hl 2 rfl) ?_
          refine va_get (D := G.1) (ci := 3) (v := .ref q1) (C := RX3) (T := TX3) (N := 7) hx hb hts hinX3 hown hKK.1 hP 0 rfl rfl 1 (by decide) kl18 (fun _ h9 => h9) rfl dX3_trySeat_82 ?_
          refine lv_iload hx hb dX3_trySeat_85 (lv_at hl 6 rfl) ?_
          refine lv_iload hx hb dX3_trySeat_87 (lv_at hl 7 rfl) ?_
          refine x_calliR (x_runS (As := [.int pq, .int bq]) (rest := [.ref q1]) (n := 2) ⟨hx, hb, hml, hown, hts⟩ (k_X3_seatAt l G  _ pq bq) gX3_trySeat_X3_seatAt rfl (by decide +kernel) ⟨Nat.le_trans (Nat.le_of_ble_eq_true rfl) hRf, Nat.le_trans (Nat.le_of_ble_eq_true rfl) hRl⟩ hKK hSS hS hA hP hD [] (by decide) rfl rfl hl.1 rfl (Nat.le_of_ble_eq_true rfl) dX3_trySeat_89) hP hD hS hA [] rfl (fun r_35 _ H locs hw hP hS => ?_)
          replace hw := hw.symm; subst hw
          refine lv_iload hx hb dX3_trySeat_92 (lv_at hl 1 rfl) ?_
          obtain ⟨hin, hv⟩ := hv
          refine va_iast hx hb hKK.1 hP hD hS 1 0 rfl rfl hin dX3_trySeat_94 (fun H locs hP hD hS => ?_)
          have hP : va_P G.1 vwCl [(q, .inr (3, [.ref s0, .ref q1, .ref q2, .ref q3, .ref q4, .int bc, .int bl])), aI G q1 40 (upd co ((pq * 10 + bq + 1).toNatClampNeg) x6_28), aI G q2 40 wo, aI G q3 4 ch, aI G q4 4 be, (s0, .inr (4, [.int gs00_26, .int gs01_27])), (t, .inr (6, [.int ns, .int np, .int fu, .int fd, .int fi, .ref t1, .ref t2, .ref t3, .ref t4, .ref t5, .ref t6])), aI G t1 9 sz_, aI G t2 9 pt, aI G t3 9 fh, aI G t4 8 kd, aI G t5 8 nd, aI G t6 8 fw, (n, .inr (1, [.ref n1, .ref n2, .ref n3, .ref n4, .ref n5, .ref n6, .ref n7, .int lo, .int mi, .int sd])), aI G n1 9 ht, aI G n2 8 wm, aI G n3 8 se, aI G n4 8 cd, aI G n5 8 sl, aI G n6 8 od, aI G n7 72 ow] H := hP
          have hD : va_D A [(q, .inr (3, [.ref s0, .ref q1, .ref q2, .ref q3, .ref q4, .int bc, .int bl])), aI G q1 40 (upd co ((pq * 10 + bq + 1).toNatClampNeg) x6_28), aI G q2 40 wo, aI G q3 4 ch, aI G q4 4 be, (s0, .inr (4, [.int gs00_26, .int gs01_27])), (t, .inr (6, [.int ns, .int np, .int fu, .int fd, .int fi, .ref t1, .ref t2, .ref t3, .ref t4, .ref t5, .ref t6])), aI G t1 9 sz_, aI G t2 9 pt, aI G t3 9 fh, aI G t4 8 kd, aI G t5 8 nd, aI G t6 8 fw, (n, .inr (1, [.ref n1, .ref n2, .ref n3, .ref n4, .ref n5, .ref n6, .ref n7, .int lo, .int mi, .int sd])), aI G n1 9 ht, aI G n2 8 wm, aI G n3 8 se, aI G n4 8 cd, aI G n5 8 sl, aI G n6 8 od, aI G n7 72 ow] := hD
          refine lv_aload_n hx hb dX3_trySeat_95 rfl (lv_at hl 2 rfl) ?_
          refine va_get (D := G.1) (ci := 3) (v := .ref q2) (C := RX3) (T := TX3) (N := 7) hx hb hts hinX3 hown hKK.1 hP 0 rfl rfl 2 (by decide) kl22 (fun _ h9 => h9) rfl dX3_trySeat_96 ?_
          refine lv_iload hx hb dX3_trySeat_99 (lv_at hl 6 rfl) ?_
          refine lv_iload hx hb dX3_trySeat_101 (lv_at hl 7 rfl) ?_
          refine x_calliR (x_runS (As := [.int pq, .int bq]) (rest := [.ref q2]) (n := 2) ⟨hx, hb, hml, hown, hts⟩ (k_X3_seatAt l G  _ pq bq) gX3_trySeat_X3_seatAt rfl (by decide +kernel) ⟨Nat.le_trans (Nat.le_of_ble_eq_true rfl) hRf, Nat.le_trans (Nat.le_of_ble_eq_true rfl) hRl⟩ hKK hSS hS hA hP hD [] (by decide) rfl rfl hl.1 rfl (Nat.le_of_ble_eq_true rfl) dX3_trySeat_103) hP hD hS hA [] rfl (fun r_36 _ H locs hw hP hS => ?_)
          replace hw := hw.symm; subst hw
          refine lv_aload_n hx hb dX3_trySeat_106 rfl (lv_at hl 2 rfl) ?_
          refine va_get (D := G.1) (ci := 3) (v := .ref s0) (C := RX3) (T := TX3) (N := 7) hx hb hts hinX3 hown hKK.1 hP 0 rfl rfl 0 (by decide) kl12 (fun _ h9 => h9) rfl dX3_trySeat_107 ?_
          refine va_get (D := G.1) (ci := 4) (v := .int gs00_26) (C := RX4) (T := TX4) (N := 2) hx hb hts hinX4 hown hKK.1 hP 5 rfl rfl 0 (by decide) kl75 (fun _ h9 => h9) rfl dX3_trySeat_110 ?_
          obtain ⟨hin, hv⟩ := hv
          refine va_iast hx hb hKK.1 hP hD hS 2 0 rfl rfl hin dX3_trySeat_113 (fun H locs hP hD hS => ?_)
          have hP : va_P G.1 vwCl [(q, .inr (3, [.ref s0, .ref q1, .ref q2, .ref q3, .ref q4, .int bc, .int bl])), aI G q1 40 (upd co ((pq * 10 + bq + 1).toNatClampNeg) x6_28), aI G q2 40 (upd wo ((pq * 10 + bq + 1).toNatClampNeg) gs00_26), aI G q3 4 ch, aI G q4 4 be, (s0, .inr (4, [.int gs00_26, .int gs01_27])), (t, .inr (6, [.int ns, .int np, .int fu, .int fd, .int fi, .ref t1, .ref t2, .ref t3, .ref t4, .ref t5, .ref t6])), aI G t1 9 sz_, aI G t2 9 pt, aI G t3 9 fh, aI G t4 8 kd, aI G t5 8 nd, aI G t6 8 fw, (n, .inr (1, [.ref n1, .ref n2, .ref n3, .ref n4, .ref n5, .ref n6, .ref n7, .int lo, .int mi, .int sd])), aI G n1 9 ht, aI G n2 8 wm, aI G n3 8 se, aI G n4 8 cd, aI G n5 8 sl, aI G n6 8 od, aI G n7 72 ow] H := hP
          have hD : va_D A [(q, .inr (3, [.ref s0, .ref q1, .ref q2, .ref q3, .ref q4, .int bc, .int bl])), aI G q1 40 (upd co ((pq * 10 + bq + 1).toNatClampNeg) x6_28), aI G q2 40 (upd wo ((pq * 10 + bq + 1).toNatClampNeg) gs00_26), aI G q3 4 ch, aI G q4 4 be, (s0, .inr (4, [.int gs00_26, .int gs01_27])), (t, .inr (6, [.int ns, .int np, .int fu, .int fd, .int fi, .ref t1, .ref t2, .ref t3, .ref t4, .ref t5, .ref t6])), aI G t1 9 sz_, aI G t2 9 pt, aI G t3 9 fh, aI G t4 8 kd, aI G t5 8 nd, aI G t6 8 fw, (n, .inr (1, [.ref n1, .ref n2, .ref n3, .ref n4, .ref n5, .ref n6, .ref n7, .int lo, .int mi, .int sd])), aI G n1 9 ht, aI G n2 8 wm, aI G n3 8 se, aI G n4 8 cd, aI G n5 8 sl, aI G n6 8 od, aI G n7 72 ow] := hD
          exact x_vret ((upd co ((pq * 10 + bq + 1).toNatClampNeg) x6_28), (upd wo ((pq * 10 + bq + 1).toNatClampNeg) gs00_26), gs00_26, gs01_27) hQ hx hb hr hlocks hS dX3_trySeat_114 hv hP hD
        · have hv := hv.2 hc_34
          refine lv_aload_n hx hb dX3_trySeat_43 rfl (lv_at hl 2 rfl) ?_
          refine va_get (D := G.1) (ci := 3) (v := .ref s0) (C := RX3) (T := TX3) (N := 7) hx hb hts hinX3 hown hKK.1 hP 0 rfl rfl 0 (by decide) kl12 (fun _ h9 => h9) rfl dX3_trySeat_44 ?_
          refine lv_aload_n hx hb dX3_trySeat_47 rfl (lv_at hl 3 rfl) ?_
          refine lv_iload hx hb dX3_trySeat_48 (lv_at hl 6 rfl) ?_
          refine lv_iload hx hb dX3_trySeat_50 (lv_at hl 7 rfl) ?_
          obtain ⟨hp, hv⟩ := hv
          refine x_callv (wr := [(q, .inr (3, [.ref s0, .ref q1, .ref q2, .ref q3, .ref q4, .int bc, .int bl])), aI G q1 40 co, aI G q2 40 wo, aI G q3 4 ch, aI G q4 4 be, (n, .inr (1, [.ref n1, .ref n2, .ref n3, .ref n4, .ref n5, .ref n6, .ref n7, .int lo, .int mi, .int sd])), aI G n1 9 ht, aI G n2 8 wm, aI G n3 8 se, aI G n4 8 cd, aI G n5 8 sl, aI G n6 8 od, aI G n7 72 ow]) (w' := fun (u : (Int32) × (Int32)) => [(q, .inr (3, [.ref s0, .ref q1, .ref q2, .ref q3, .ref q4, .int bc, .int bl])), aI G q1 40 co, aI G q2 40 wo, aI G q3 4 ch, aI G q4 4 be, (s0, .inr (4, [.int u.1, .int u.2])), (t, .inr (6, [.int ns, .int np, .int fu, .int fd, .int fi, .ref t1, .ref t2, .ref t3, .ref t4, .ref t5, .ref t6])), aI G t1 9 sz_, aI G t2 9 pt, aI G t3 9 fh, aI G t4 8 kd, aI G t5 8 nd, aI G t6 8 fw, (n, .inr (1, [.ref n1, .ref n2, .ref n3, .ref n4, .ref n5, .ref n6, .ref n7, .int lo, .int mi, .int sd])), aI G n1 9 ht, aI G n2 8 wm, aI G n3 8 se, aI G n4 8 cd, aI G n5 8 sl, aI G n6 8 od, aI G n7 72 ow]) (x_runV (As := [.ref t, .int pq, .int bq]) (rest := []) (n := 3) (C := RX4) (ci := 4) ⟨hx, hb, hml, hown, hts⟩ (k_X4_passMinute l G s0 t t1 t2 t3 t4 t5 t6 _ gs00_26 gs01_27 ns np fu fd fi sz_ pt fh kd nd fw pq bq hp) gX3_trySeat_X4_passMinute rfl (by decide +kernel) ⟨Nat.le_trans (Nat.le_of_ble_eq_true rfl) hRf, Nat.le_trans (Nat.le_of_ble_eq_true rfl) hRl⟩ hKK hSS hS hA hP hD [5, 6, 7, 8, 9, 10, 11, 12] (by decide) rfl rfl rfl 5 rfl rfl hl.1 rfl (Nat.le_of_ble_eq_true rfl) dX3_trySeat_52) hP hD hS hA [5, 6, 7, 8, 9, 10, 11, 12] [0, 1, 2, 3, 4, 13, 14, 15, 16, 17, 18, 19, 20] [0, 1, 2, 3, 4, 13, 14, 15, 16, 17, 18, 19, 20, 5, 6, 7, 8, 9, 10, 11, 12] rfl rfl (by decide) (by decide) (by decide) (fun _ => rfl) (fun  u H locs hw hP hD hS => ?_)
          obtain ⟨sw2_38, sh2_39⟩ := u
          obtain ⟨hw0, hw1⟩ := hw
          replace hw0 := hw0.symm; subst hw0
          replace hw1 := hw1.symm; subst hw1
          have hP : va_P G.1 vwCl [(q, .inr (3, [.ref s0, .ref q1, .ref q2, .ref q3, .ref q4, .int bc, .int bl])), aI G q1 40 co, aI G q2 40 wo, aI G q3 4 ch, aI G q4 4 be, (s0, .inr (4, [.int (sitW ns fu fd (kd pq.toNatClampNeg) (sz_ bq.toNatClampNeg) bq gs00_26 gs01_27), .int (sitH ns (kd pq.toNatClampNeg) (sz_ bq.toNatClampNeg) bq gs00_26 gs01_27)])), (t, .inr (6, [.int ns, .int np, .int fu, .int fd, .int fi, .ref t1, .ref t2, .ref t3, .ref t4, .ref t5, .ref t6])), aI G t1 9 sz_, aI G t2 9 pt, aI G t3 9 fh, aI G t4 8 kd, aI G t5 8 nd, aI G t6 8 fw, (n, .inr (1, [.ref n1, .ref n2, .ref n3, .ref n4, .ref n5, .ref n6, .ref n7, .int lo, .int mi, .int sd])), aI G n1 9 ht, aI G n2 8 wm, aI G n3 8 se, aI G n4 8 cd, aI G n5 8 sl, aI G n6 8 od, aI G n7 72 ow] H := hP
          have hD : va_D A [(q, .inr (3, [.ref s0, .ref q1, .ref q2, .ref q3, .ref q4, .int bc, .int bl])), aI G q1 40 co, aI G q2 40 wo, aI G q3 4 ch, aI G q4 4 be, (s0, .inr (4, [.int (sitW ns fu fd (kd pq.toNatClampNeg) (sz_ bq.toNatClampNeg) bq gs00_26 gs01_27), .int (sitH ns (kd pq.toNatClampNeg) (sz_ bq.toNatClampNeg) bq gs00_26 gs01_27)])), (t, .inr (6, [.int ns, .int np, .int fu, .int fd, .int fi, .ref t1, .ref t2, .ref t3, .ref t4, .ref t5, .ref t6])), aI G t1 9 sz_, aI G t2 9 pt, aI G t3 9 fh, aI G t4 8 kd, aI G t5 8 nd, aI G t6 8 fw, (n, .inr (1, [.ref n1, .ref n2, .ref n3, .ref n4, .ref n5, .ref n6, .ref n7, .int lo, .int mi, .int sd])), aI G n1 9 ht, aI G n2 8 wm, aI G n3 8 se, aI G n4 8 cd, aI G n5 8 sl, aI G n6 8 od, aI G n7 72 ow] := hD
          refine lv_aload_n hx hb dX3_trySeat_55 rfl (lv_at hl 2 rfl) ?_
          refine va_get (D := G.1) (ci := 3) (v := .ref s0) (C := RX3) (T := TX3) (N := 7) hx hb hts hinX3 hown hKK.1 hP 0 rfl rfl 0 (by decide) kl12 (fun _ h9 => h9) rfl dX3_trySeat_56 ?_
          refine va_get (D := G.1) (ci := 4) (v := .int (sitW ns fu fd (kd pq.toNatClampNeg) (sz_ bq.toNatClampNeg) bq gs00_26 gs01_27)) (C := RX4) (T := TX4) (N := 2) hx hb hts hinX4 hown hKK.1 hP 5 rfl rfl 0 (by decide) kl75 (fun _ h9 => h9) rfl dX3_trySeat_59 ?_
          refine lv_aload_n hx hb dX3_trySeat_62 rfl (lv_at hl 3 rfl) ?_
          refine va_get (D := G.1) (ci := 6) (v := .ref t5) (C := RX6) (T := TX6) (N := 11) hx hb hts hinX6 hown hKK.1 hP 6 rfl rfl 9 (by decide) kl77 (fun _ h9 => h9) rfl dX3_trySeat_63 ?_
          refine lv_iload hx hb dX3_trySeat_66 (lv_at hl 6 rfl) ?_
          obtain ⟨hin, hv⟩ := hv
          refine va_iald hx hb hKK.1 hP 11 0 rfl rfl hin dX3_trySeat_68 ?_
          refine lv_icmp_ge (tgt := 75) hx hb dX3_trySeat_69 (by decide) (fun hc_40 => ?_) (fun hc_40 => ?_)
          · have hv := hv.1 hc_40
            refine lv_iinc (v := (x7_29 + 1)) (lv' := [(7, .int (x7_29 + 1)), (6, .int x6_28), (0, .ref q), (1, .ref t), (2, .ref n), (3, .int mm), (4, .int pq), (5, .int bq)]) hx hb dX3_trySeat_75 hl (k := 0) rfl rfl (by decide) rfl (fun ls hl => ?_)
            refine lv_goto (tgt := 37) hx hb dX3_trySeat_78 (by decide) ?_
            exact ih_32 _ _ _ _ _ _ _ (Nat.lt_of_lt_of_le hv.2 (Nat.le_of_lt_succ hI_33)) hv.1 hP hD hS hl
          · have hv := hv.2 hc_40
            refine lv_iinc (v := (x6_28 + 1)) (lv' := [(6, .int (x6_28 + 1)), (7, .int x7_29), (0, .ref q), (1, .ref t), (2, .ref n), (3, .int mm), (4, .int pq), (5, .int bq)]) hx hb dX3_trySeat_72 hl (k := 1) rfl rfl (by decide) rfl (fun ls hl => ?_)
            refine lv_iinc (v := (x7_29 + 1)) (lv' := [(7, .int (x7_29 + 1)), (6, .int (x6_28 + 1)), (0, .ref q), (1, .ref t), (2, .ref n), (3, .int mm), (4, .int pq), (5, .int bq)]) hx hb dX3_trySeat_75 hl (k := 1) rfl rfl (by decide) rfl (fun ls hl => ?_)
            refine lv_goto (tgt := 37) hx hb dX3_trySeat_78 (by decide) ?_
            exact ih_32 _ _ _ _ _ _ _ (Nat.lt_of_lt_of_le hv.2 (Nat.le_of_lt_succ hI_33)) hv.1 hP hD hS hl
    exact Lm_43 _ _ _ _ _ _ _ _ (Nat.lt_succ_self _) hi0 hP hD hS hl
theorem k_X3_trySeat (l : Launch) (G : Gt) (q q1 q2 q3 q4 s0 t t1 t2 t3 t4 t5 t6 n n1 n2 n3 n4 n5 n6 n7 : Nat) (sz : Nat) (bc : Int32) (bl : Int32) (co : Nat → Int32) (wo : Nat → Int32) (ch : Nat → Int32) (be : Nat → Int32) (sw : Int32) (sh : Int32) (ns : Int32) (np : Int32) (fu : Int32) (fd : Int32) (fi : Int32) (sz_ : Nat → Int32) (pt : Nat → Int32) (fh : Nat → Int32) (kd : Nat → Int32) (nd : Nat → Int32) (fw : Nat → Int32) (ht : Nat → Int32) (wm : Nat → Int32) (se : Nat → Int32) (cd : Nat → Int32) (sl : Nat → Int32) (od : Nat → Int32) (ow : Nat → Int32) (lo : Int32) (mi : Int32) (sd : Int32) (mm : Int32) (pq : Int32) (bq : Int32) (hp : True) : MetV l yX3_trySeat wsX3_trySeat 3 70 G [.ref q, .ref t, .ref n, .int mm, .int pq, .int bq] [(q, .inr (3, [.ref s0, .ref q1, .ref q2, .ref q3, .ref q4, .int bc, .int bl])), aI G q1 40 co, aI G q2 40 wo, aI G q3 4 ch, aI G q4 4 be, (s0, .inr (4, [.int sw, .int sh])), (t, .inr (6, [.int ns, .int np, .int fu, .int fd, .int fi, .ref t1, .ref t2, .ref t3, .ref t4, .ref t5, .ref t6])), aI G t1 9 sz_, aI G t2 9 pt, aI G t3 9 fh, aI G t4 8 kd, aI G t5 8 nd, aI G t6 8 fw, (n, .inr (1, [.ref n1, .ref n2, .ref n3, .ref n4, .ref n5, .ref n6, .ref n7, .int lo, .int mi, .int sd])), aI G n1 9 ht, aI G n2 8 wm, aI G n3 8 se, aI G n4 8 cd, aI G n5 8 sl, aI G n6 8 od, aI G n7 72 ow] sz (fun (u : (Nat → Int32) × (Nat → Int32) × (Int32) × (Int32)) => True) (fun (u : (Nat → Int32) × (Nat → Int32) × (Int32) × (Int32)) => [(q, .inr (3, [.ref s0, .ref q1, .ref q2, .ref q3, .ref q4, .int bc, .int bl])), aI G q1 40 u.1, aI G q2 40 u.2.1, aI G q3 4 ch, aI G q4 4 be, (s0, .inr (4, [.int u.2.2.1, .int u.2.2.2])), (t, .inr (6, [.int ns, .int np, .int fu, .int fd, .int fi, .ref t1, .ref t2, .ref t3, .ref t4, .ref t5, .ref t6])), aI G t1 9 sz_, aI G t2 9 pt, aI G t3 9 fh, aI G t4 8 kd, aI G t5 8 nd, aI G t6 8 fw, (n, .inr (1, [.ref n1, .ref n2, .ref n3, .ref n4, .ref n5, .ref n6, .ref n7, .int lo, .int mi, .int sd])), aI G n1 9 ht, aI G n2 8 wm, aI G n3 8 se, aI G n4 8 cd, aI G n5 8 sl, aI G n6 8 od, aI G n7 72 ow]) :=
  c_X3_trySeat l G q q1 q2 q3 q4 s0 t t1 t2 t3 t4 t5 t6 n n1 n2 n3 n4 n5 n6 n7 sz bc bl co wo ch be sw sh ns np fu fd fi sz_ pt fh kd nd fw ht wm se cd sl od ow lo mi sd mm pq bq (by
    sorry)

set_option maxHeartbeats 4000000 in
set_option maxRecDepth 100000 in
theorem c_X3_choose (l : Launch) (G : Gt) (q q1 q2 q3 q4 t t1 t2 t3 t4 t5 t6 : Nat) (sz : Nat) (s0 : Nat) (bc : Int32) (bl : Int32) (co : Nat → Int32) (wo : Nat → Int32) (ch : Nat → Int32) (be : Nat → Int32) (ns : Int32) (np : Int32) (fu : Int32) (fd : Int32) (fi : Int32) (sz_ : Nat → Int32) (pt : Nat → Int32) (fh : Nat → Int32) (kd : Nat → Int32) (nd : Nat → Int32) (fw : Nat → Int32) (pq : Int32) (tk : Int32) (x : Int32) (y : Int32) (d fr_ lo_ : Nat) (hfr : 2 ≤ fr_) (hlo : 52 ≤ lo_) (hrec : ∀ (sz : Nat) (s0 : Nat) (bc : Int32) (bl : Int32) (co : Nat → Int32) (wo : Nat → Int32) (ch : Nat → Int32) (be : Nat → Int32) (ns : Int32) (np : Int32) (fu : Int32) (fd : Int32) (fi : Int32) (sz_ : Nat → Int32) (pt : Nat → Int32) (fh : Nat → Int32) (kd : Nat → Int32) (nd : Nat → Int32) (fw : Nat → Int32) (pq : Int32) (tk : Int32) (x : Int32) (y : Int32), d = d → MetV l yX3_choose wsX3_choose fr_ lo_ G [.ref q, .ref t, .int pq, .int tk, .int x, .int y] [(q, .inr (3, [.ref s0, .ref q1, .ref q2, .ref q3, .ref q4, .int bc, .int bl])), aI G q1 40 co, aI G q2 40 wo, aI G q3 4 ch, aI G q4 4 be, (t, .inr (6, [.int ns, .int np, .int fu, .int fd, .int fi, .ref t1, .ref t2, .ref t3, .ref t4, .ref t5, .ref t6])), aI G t1 9 sz_, aI G t2 9 pt, aI G t3 9 fh, aI G t4 8 kd, aI G t5 8 nd, aI G t6 8 fw] sz (fun (u : (Nat → Int32) × (Nat → Int32) × (Int32) × (Int32)) => True ∧ d = d) (fun (u : (Nat → Int32) × (Nat → Int32) × (Int32) × (Int32)) => [(q, .inr (3, [.ref s0, .ref q1, .ref q2, .ref q3, .ref q4, .int u.2.2.1, .int u.2.2.2])), aI G q1 40 co, aI G q2 40 wo, aI G q3 4 u.1, aI G q4 4 u.2.1, (t, .inr (6, [.int ns, .int np, .int fu, .int fd, .int fi, .ref t1, .ref t2, .ref t3, .ref t4, .ref t5, .ref t6])), aI G t1 9 sz_, aI G t2 9 pt, aI G t3 9 fh, aI G t4 8 kd, aI G t5 8 nd, aI G t6 8 fw])) (hv : (np ≤ pq → True ∧ (d + 1) = (d + 1)) ∧ (¬ (np ≤ pq) → (pq < 4 → ∃ (I25_12 : (Nat → Int32) → (Nat → Int32) → Int32 → Int32 → Int32 → Prop) (μ25_13 : (Nat → Int32) → (Nat → Int32) → Int32 → Int32 → Int32 → Nat), I25_12 ch be bc bl (-1) ∧ (∀ (fq3_7 : (Nat → Int32)) (fq4_8 : (Nat → Int32)) (gq5_9 : Int32) (gq6_10 : Int32) (x6_11 : Int32), I25_12 fq3_7 fq4_8 gq5_9 gq6_10 x6_11 → (ns ≤ x6_11 → True ∧ (d + 1) = (d + 1)) ∧ (¬ (ns ≤ x6_11) → (¬ x6_11 = (-1) → (¬ (tk &&& ((1 : Int32) <<< (x6_11 &&& 31))) = 0 → I25_12 fq3_7 fq4_8 gq5_9 gq6_10 (x6_11 + 1) ∧ μ25_13 fq3_7 fq4_8 gq5_9 gq6_10 (x6_11 + 1) < μ25_13 fq3_7 fq4_8 gq5_9 gq6_10 x6_11) ∧ ((tk &&& ((1 : Int32) <<< (x6_11 &&& 31))) = 0 → (vp_in pq 4) ∧ ((vp_in (pq * 10 + x6_11 + 1) 40) ∧ ((vp_in (pq * 10 + x6_11 + 1) 40) ∧ ((d = d) ∧ (∀ (ch2_21 : Nat → Int32) (be2_22 : Nat → Int32) (bc2_23 : Int32) (bl2_24 : Int32), (True ∧ d = d) → (I25_12 ch2_21 be2_22 bc2_23 bl2_24 (x6_11 + 1) ∧ μ25_13 ch2_21 be2_22 bc2_23 bl2_24 (x6_11 + 1) < μ25_13 fq3_7 fq4_8 gq5_9 gq6_10 x6_11))))))) ∧ (x6_11 = (-1) → (¬ (tk &&& 0) = 0 → I25_12 fq3_7 fq4_8 gq5_9 gq6_10 (x6_11 + 1) ∧ μ25_13 fq3_7 fq4_8 gq5_9 gq6_10 (x6_11 + 1) < μ25_13 fq3_7 fq4_8 gq5_9 gq6_10 x6_11) ∧ ((tk &&& 0) = 0 → (vp_in pq 4) ∧ ((vp_in (pq * 10 + x6_11 + 1) 40) ∧ ((vp_in (pq * 10 + x6_11 + 1) 40) ∧ ((d = d) ∧ (∀ (ch2_28 : Nat → Int32) (be2_29 : Nat → Int32) (bc2_30 : Int32) (bl2_31 : Int32), (True ∧ d = d) → (I25_12 ch2_28 be2_29 bc2_30 bl2_31 (x6_11 + 1) ∧ μ25_13 ch2_28 be2_29 bc2_30 bl2_31 (x6_11 + 1) < μ25_13 fq3_7 fq4_8 gq5_9 gq6_10 x6_11)))))))))) ∧ (¬ (pq < 4) → True ∧ (d + 1) = (d + 1)))) : MetV l yX3_choose wsX3_choose (fr_ + 1) (lo_ + 28) G [.ref q, .ref t, .int pq, .int tk, .int x, .int y] [(q, .inr (3, [.ref s0, .ref q1, .ref q2, .ref q3, .ref q4, .int bc, .int bl])), aI G q1 40 co, aI G q2 40 wo, aI G q3 4 ch, aI G q4 4 be, (t, .inr (6, [.int ns, .int np, .int fu, .int fd, .int fi, .ref t1, .ref t2, .ref t3, .ref t4, .ref t5, .ref t6])), aI G t1 9 sz_, aI G t2 9 pt, aI G t3 9 fh, aI G t4 8 kd, aI G t5 8 nd, aI G t6 8 fw] sz (fun (u : (Nat → Int32) × (Nat → Int32) × (Int32) × (Int32)) => True ∧ (d + 1) = (d + 1)) (fun (u : (Nat → Int32) × (Nat → Int32) × (Int32) × (Int32)) => [(q, .inr (3, [.ref s0, .ref q1, .ref q2, .ref q3, .ref q4, .int u.2.2.1, .int u.2.2.2])), aI G q1 40 co, aI G q2 40 wo, aI G q3 4 u.1, aI G q4 4 u.2.1, (t, .inr (6, [.int ns, .int np, .int fu, .int fd, .int fi, .ref t1, .ref t2, .ref t3, .ref t4, .ref t5, .ref t6])), aI G t1 9 sz_, aI G t2 9 pt, aI G t3 9 fh, aI G t4 8 kd, aI G t5 8 nd, aI G t6 8 fw]) := by
  refine x_startV (cc := cX3_choose) (maxL := 9) (ret := none) (by decide) rfl (Nat.le_of_ble_eq_true rfl) ?_
  intro p e s m args below meth c A R Q ls hRf hRl hQ C hP hD hS hA hSS hl
  obtain ⟨hx, hb, hr, hml, hown, hts, hlocks, hKK⟩ := C
  have hown : s.vm.findClass RX3 = some m.cls := hown
  have hl : lv_has ls 9 [(0, .ref q), (1, .ref t), (2, .int pq), (3, .int tk), (4, .int x), (5, .int y)] := hl
  have hinX3 : ∀ w ∈ u_ws RX3 TX3 7, w ∈ wsX3_choose := by decide +kernel
  have hinX6 : ∀ w ∈ u_ws RX6 TX6 11, w ∈ wsX3_choose := by decide +kernel
  have kl18 := hts (.fieldLink RX3 18 "WarmStones$Seating" "coldOn" "[I") (by decide +kernel)
  have kl22 := hts (.fieldLink RX3 22 "WarmStones$Seating" "warmthOn" "[I") (by decide +kernel)
  have kl25 := hts (.fieldLink RX3 25 "WarmStones$Seating" "chosen" "[I") (by decide +kernel)
  have kl31 := hts (.fieldLink RX3 31 "WarmStones$Town" "persons" "I") (by decide +kernel)
  have kl37 := hts (.fieldLink RX3 37 "WarmStones$Town" "stones" "I") (by decide +kernel)
  have kl87 := hts (.methodLink RX3 87 Lib.Math.min.name) (by decide +kernel)
  have km_c_min := hts (.code Lib.Math.min.name Lib.Math.min.code 2 (some .int)) (by decide +kernel)
  have km_i := hts (.initialized "java/lang/Math") (by decide +kernel)
  have km_s_min := hts (.static Lib.Math.min.name) (by decide +kernel)
  refine lv_iload_n hx hb dX3_choose_0 rfl (lv_at hl 2 rfl) ?_
  refine lv_aload_n hx hb dX3_choose_1 rfl (lv_at hl 1 rfl) ?_
  refine va_get (D := G.1) (ci := 6) (v := .int np) (C := RX6) (T := TX6) (N := 11) hx hb hts hinX6 hown hKK.1 hP 5 rfl rfl 1 (by decide) kl31 (fun _ h9 => h9) rfl dX3_choose_2 ?_
  refine lv_icmp_ge (tgt := 13) hx hb dX3_choose_5 (by decide) (fun hc_1 => ?_) (fun hc_1 => ?_)
  · have hv := hv.1 hc_1
    refine lv_aload_n hx hb dX3_choose_13 rfl (lv_at hl 0 rfl) ?_
    refine lv_iload hx hb dX3_choose_14 (lv_at hl 4 rfl) ?_
    refine lv_iload hx hb dX3_choose_16 (lv_at hl 5 rfl) ?_
    refine x_callv (wr := [(t, .inr (6, [.int ns, .int np, .int fu, .int fd, .int fi, .ref t1, .ref t2, .ref t3, .ref t4, .ref t5, .ref t6])), aI G t1 9 sz_, aI G t2 9 pt, aI G t3 9 fh, aI G t4 8 kd, aI G t5 8 nd, aI G t6 8 fw]) (w' := fun (u : (Int32) × (Int32) × (Nat → Int32)) => [(q, .inr (3, [.ref s0, .ref q1, .ref q2, .ref q3, .ref q4, .int u.1, .int u.2.1])), aI G q1 40 co, aI G q2 40 wo, aI G q3 4 ch, aI G q4 4 u.2.2, (t, .inr (6, [.int ns, .int np, .int fu, .int fd, .int fi, .ref t1, .ref t2, .ref t3, .ref t4, .ref t5, .ref t6])), aI G t1 9 sz_, aI G t2 9 pt, aI G t3 9 fh, aI G t4 8 kd, aI G t5 8 nd, aI G t6 8 fw]) (x_runV (As := [.int x, .int y]) (rest := []) (n := 2) (C := RX3) (ci := 3) ⟨hx, hb, hml, hown, hts⟩ (k_X3_weigh l G q q1 q2 q3 q4 _ s0 bc bl co wo ch be x y) gX3_choose_X3_weigh rfl (by decide +kernel) ⟨by omega, by omega⟩ hKK hSS hS hA hP hD [0, 1, 2, 3, 4] (by decide) rfl rfl rfl 0 rfl rfl hl.1 rfl (Nat.le_of_ble_eq_true rfl) dX3_choose_18) hP hD hS hA [0, 1, 2, 3, 4] [5, 6, 7, 8, 9, 10, 11] [7, 8, 9, 10, 11, 0, 1, 2, 3, 4, 5, 6] rfl rfl (by decide) (by decide) (by decide) (fun _ => rfl) (fun  u H locs hw hP hD hS => ?_)
    obtain ⟨bc2_3, bl2_4, be2_5⟩ := u
    obtain ⟨hw0, hw1, hw2⟩ := hw
    replace hw0 := hw0.symm; subst hw0
    replace hw1 := hw1.symm; subst hw1
    replace hw2 := hw2.symm; subst hw2
    have hP : va_P G.1 vwCl [(q, .inr (3, [.ref s0, .ref q1, .ref q2, .ref q3, .ref q4, .int (if x < bc ∨ (x = bc ∧ bl < y) then x else bc), .int (if x < bc ∨ (x = bc ∧ bl < y) then y else bl)])), aI G q1 40 co, aI G q2 40 wo, aI G q3 4 ch, aI G q4 4 (if x < bc ∨ (x = bc ∧ bl < y) then va_cpy ch be 0 0 4 else be), (t, .inr (6, [.int ns, .int np, .int fu, .int fd, .int fi, .ref t1, .ref t2, .ref t3, .ref t4, .ref t5, .ref t6])), aI G t1 9 sz_, aI G t2 9 pt, aI G t3 9 fh, aI G t4 8 kd, aI G t5 8 nd, aI G t6 8 fw] H := hP
    have hD : va_D A [(q, .inr (3, [.ref s0, .ref q1, .ref q2, .ref q3, .ref q4, .int (if x < bc ∨ (x = bc ∧ bl < y) then x else bc), .int (if x < bc ∨ (x = bc ∧ bl < y) then y else bl)])), aI G q1 40 co, aI G q2 40 wo, aI G q3 4 ch, aI G q4 4 (if x < bc ∨ (x = bc ∧ bl < y) then va_cpy ch be 0 0 4 else be), (t, .inr (6, [.int ns, .int np, .int fu, .int fd, .int fi, .ref t1, .ref t2, .ref t3, .ref t4, .ref t5, .ref t6])), aI G t1 9 sz_, aI G t2 9 pt, aI G t3 9 fh, aI G t4 8 kd, aI G t5 8 nd, aI G t6 8 fw] := hD
    exact x_vret (ch, (if x < bc ∨ (x = bc ∧ bl < y) then va_cpy ch be 0 0 4 else be), (if x < bc ∨ (x = bc ∧ bl < y) then x else bc), (if x < bc ∨ (x = bc ∧ bl < y) then y else bl)) hQ hx hb hr hlocks hS dX3_choose_21 hv hP hD
  · have hv := hv.2 hc_1
    refine lv_iload_n hx hb dX3_choose_8 rfl (lv_at hl 2 rfl) ?_
    refine lv_iconst (v := 4) hx hb dX3_choose_9 (by decide) ?_
    refine lv_icmp_lt (tgt := 22) hx hb dX3_choose_10 (by decide) (fun hc_6 => ?_) (fun hc_6 => ?_)
    · have hv := hv.1 hc_6
      refine lv_iconst (v := (-1)) hx hb dX3_choose_22 (by decide) ?_
      refine lv_istore (lv' := [(6, .int (-1)), (0, .ref q), (1, .ref t), (2, .int pq), (3, .int tk), (4, .int x), (5, .int y)]) hx hb dX3_choose_23 hl (by decide) rfl (fun ls hl => ?_)
      obtain ⟨I25_12, μ25_13, hi0, hs_32⟩ := hv
      have Lm_34 : ∀ (n_33 : Nat) (fq3_7 : (Nat → Int32)) (fq4_8 : (Nat → Int32)) (gq5_9 : Int32) (gq6_10 : Int32) (x6_11 : Int32) (H : Heap) (locs : List Loc) (ls : Array Slot), μ25_13 fq3_7 fq4_8 gq5_9 gq6_10 x6_11 < n_33 → I25_12 fq3_7 fq4_8 gq5_9 gq6_10 x6_11 → va_P G.1 vwCl [(q, .inr (3, [.ref s0, .ref q1, .ref q2, .ref q3, .ref q4, .int gq5_9, .int gq6_10])), aI G q1 40 co, aI G q2 40 wo, aI G q3 4 fq3_7, aI G q4 4 fq4_8, (t, .inr (6, [.int ns, .int np, .int fu, .int fd, .int fi, .ref t1, .ref t2, .ref t3, .ref t4, .ref t5, .ref t6])), aI G t1 9 sz_, aI G t2 9 pt, aI G t3 9 fh, aI G t4 8 kd, aI G t5 8 nd, aI G t6 8 fw] H → va_D A [(q, .inr (3, [.ref s0, .ref q1, .ref q2, .ref q3, .ref q4, .int gq5_9, .int gq6_10])), aI G q1 40 co, aI G q2 40 wo, aI G q3 4 fq3_7, aI G q4 4 fq4_8, (t, .inr (6, [.int ns, .int np, .int fu, .int fd, .int fi, .ref t1, .ref t2, .ref t3, .ref t4, .ref t5, .ref t6])), aI G t1 9 sz_, aI G t2 9 pt, aI G t3 9 fh, aI G t4 8 kd, aI G t5 8 nd, aI G t6 8 fw] → va_S A s.heap H locs → lv_has ls 9 [(6, .int x6_11), (0, .ref q), (1, .ref t), (2, .int pq), (3, .int tk), (4, .int x), (5, .int y)] → W p l e R s m args below meth c H locs 0 0 Q (F0 m 25 ls []) := by
        intro n_33
        induction n_33 with
        | zero => intro fq3_7 fq4_8 gq5_9 gq6_10 x6_11 H locs ls hm; exact absurd hm (Nat.not_lt_zero _)
        | succ n_33 ih_14 =>
          intro fq3_7 fq4_8 gq5_9 gq6_10 x6_11 H locs ls hI_15 hi hP hD hS hl
          have hv := hs_32 fq3_7 fq4_8 gq5_9 gq6_10 x6_11 hi
          refine lv_iload hx hb dX3_choose_25 (lv_at hl 0 rfl) ?_
          refine lv_aload_n hx hb dX3_choose_27 rfl (lv_at hl 2 rfl) ?_
          refine va_get (D := G.1) (ci := 6) (v := .int ns) (C := RX6) (T := TX6) (N := 11) hx hb hts hinX6 hown hKK.1 hP 5 rfl rfl 0 (by decide) kl37 (fun _ h9 => h9) rfl dX3_choose_28 ?_
          refine lv_icmp_ge (tgt := 113) hx hb dX3_choose_31 (by decide) (fun hc_16 => ?_) (fun hc_16 => ?_)
          · have hv := hv.1 hc_16
            exact x_vret (fq3_7, fq4_8, gq5_9, gq6_10) hQ hx hb hr hlocks hS dX3_choose_113 hv hP hD
          · have hv := hv.2 hc_16
            refine lv_iload hx hb dX3_choose_34 (lv_at hl 0 rfl) ?_
            refine lv_iconst (v := (-1)) hx hb dX3_choose_36 (by decide) ?_
            refine lv_icmp_ne (tgt := 44) hx hb dX3_choose_37 (by decide) (fun hc_17 => ?_) (fun hc_17 => ?_)
            · have hv := hv.1 hc_17
              refine lv_iconst (v := 1) hx hb dX3_choose_44 (by decide) ?_
              refine lv_iload hx hb dX3_choose_45 (lv_at hl 0 rfl) ?_
              refine lv_ishl hx hb dX3_choose_47 ?_
              refine lv_istore (lv' := [(7, .int ((1 : Int32) <<< (x6_11 &&& 31))), (6, .int x6_11), (0, .ref q), (1, .ref t), (2, .int pq), (3, .int tk), (4, .int x), (5, .int y)]) hx hb dX3_choose_48 hl (by decide) rfl (fun ls hl => ?_)
              refine lv_iload_n hx hb dX3_choose_50 rfl (lv_at hl 5 rfl) ?_
              refine lv_iload hx hb dX3_choose_51 (lv_at hl 0 rfl) ?_
              refine lv_iand hx hb dX3_choose_53 ?_
              refine lv_if_ne (tgt := 107) hx hb dX3_choose_54 (by decide) (fun hc_18 => ?_) (fun hc_18 => ?_)
              · have hv := hv.1 hc_18
                refine lv_iinc (v := (x6_11 + 1)) (lv' := [(6, .int (x6_11 + 1)), (7, .int ((1 : Int32) <<< (x6_11 &&& 31))), (0, .ref q), (1, .ref t), (2, .int pq), (3, .int tk), (4, .int x), (5, .int y)]) hx hb dX3_choose_107 hl (k := 1) rfl rfl (by decide) rfl (fun ls hl => ?_)
                refine lv_goto (tgt := 25) hx hb dX3_choose_110 (by decide) ?_
                exact ih_14 _ _ _ _ _ _ _ _ (Nat.lt_of_lt_of_le hv.2 (Nat.le_of_lt_succ hI_15)) hv.1 hP hD hS (lv_sub hl [0, 2, 3, 4, 5, 6, 7] rfl)
              · have hv := hv.2 hc_18
                refine lv_iload_n hx hb dX3_choose_57 rfl (lv_at hl 4 rfl) ?_
                refine lv_iload hx hb dX3_choose_58 (lv_at hl 1 rfl) ?_
                refine x_calliR (x_runS (As := [.int pq, .int x6_11]) (rest := []) (n := 2) ⟨hx, hb, hml, hown, hts⟩ (k_X3_seatAt l G  _ pq x6_11) gX3_choose_X3_seatAt rfl (by decide +kernel) ⟨by omega, by omega⟩ hKK hSS hS hA hP hD [] (by decide) rfl rfl hl.1 rfl (Nat.le_of_ble_eq_true rfl) dX3_choose_60) hP hD hS hA [] rfl (fun r_19 _ H locs hw hP hS => ?_)
                replace hw := hw.symm; subst hw
                refine lv_istore (lv' := [(8, .int (pq * 10 + x6_11 + 1)), (7, .int ((1 : Int32) <<< (x6_11 &&& 31))), (6, .int x6_11), (0, .ref q), (1, .ref t), (2, .int pq), (3, .int tk), (4, .int x), (5, .int y)]) hx hb dX3_choose_63 hl (by decide) rfl (fun ls hl => ?_)
                refine lv_aload_n hx hb dX3_choose_65 rfl (lv_at hl 3 rfl) ?_
                refine va_get (D := G.1) (ci := 3) (v := .ref q3) (C := RX3) (T := TX3) (N := 7) hx hb hts hinX3 hown hKK.1 hP 0 rfl rfl 3 (by decide) kl25 (fun _ h9 => h9) rfl dX3_choose_66 ?_
                refine lv_iload_n hx hb dX3_choose_69 rfl (lv_at hl 5 rfl) ?_
                refine lv_iload hx hb dX3_choose_70 (lv_at hl 2 rfl) ?_
                obtain ⟨hin, hv⟩ := hv
                refine va_iast hx hb hKK.1 hP hD hS 3 0 rfl rfl hin dX3_choose_72 (fun H locs hP hD hS => ?_)
                have hP : va_P G.1 vwCl [(q, .inr (3, [.ref s0, .ref q1, .ref q2, .ref q3, .ref q4, .int gq5_9, .int gq6_10])), aI G q1 40 co, aI G q2 40 wo, aI G q3 4 (upd fq3_7 pq.toNatClampNeg x6_11), aI G q4 4 fq4_8, (t, .inr (6, [.int ns, .int np, .int fu, .int fd, .int fi, .ref t1, .ref t2, .ref t3, .ref t4, .ref t5, .ref t6])), aI G t1 9 sz_, aI G t2 9 pt, aI G t3 9 fh, aI G t4 8 kd, aI G t5 8 nd, aI G t6 8 fw] H := hP
                have hD : va_D A [(q, .inr (3, [.ref s0, .ref q1, .ref q2, .ref q3, .ref q4, .int gq5_9, .int gq6_10])), aI G q1 40 co, aI G q2 40 wo, aI G q3 4 (upd fq3_7 pq.toNatClampNeg x6_11), aI G q4 4 fq4_8, (t, .inr (6, [.int ns, .int np, .int fu, .int fd, .int fi, .ref t1, .ref t2, .ref t3, .ref t4, .ref t5, .ref t6])), aI G t1 9 sz_, aI G t2 9 pt, aI G t3 9 fh, aI G t4 8 kd, aI G t5 8 nd, aI G t6 8 fw] := hD
                refine lv_aload_n hx hb dX3_choose_73 rfl (lv_at hl 3 rfl) ?_
                refine lv_aload_n hx hb dX3_choose_74 rfl (lv_at hl 4 rfl) ?_
                refine lv_iload_n hx hb dX3_choose_75 rfl (lv_at hl 5 rfl) ?_
                refine lv_iconst (v := 1) hx hb dX3_choose_76 (by decide) ?_
                refine lv_iadd hx hb dX3_choose_77 ?_
                refine lv_iload_n hx hb dX3_choose_78 rfl (lv_at hl 6 rfl) ?_
                refine lv_iload hx hb dX3_choose_79 (lv_at hl 1 rfl) ?_
                refine lv_ior hx hb dX3_choose_81 ?_
                refine lv_iload hx hb dX3_choose_82 (lv_at hl 7 rfl) ?_
                refine lv_aload_n hx hb dX3_choose_84 rfl (lv_at hl 3 rfl) ?_
                refine va_get (D := G.1) (ci := 3) (v := .ref q1) (C := RX3) (T := TX3) (N := 7) hx hb hts hinX3 hown hKK.1 hP 0 rfl rfl 1 (by decide) kl18 (fun _ h9 => h9) rfl dX3_choose_85 ?_
                refine lv_iload hx hb dX3_choose_88 (lv_at hl 0 rfl) ?_
                obtain ⟨hin, hv⟩ := hv
                refine va_iald hx hb hKK.1 hP 1 0 rfl rfl hin dX3_choose_90 ?_
                refine lv_iadd hx hb dX3_choose_91 ?_
                refine lv_iload hx hb dX3_choose_92 (lv_at hl 8 rfl) ?_
                refine lv_aload_n hx hb dX3_choose_94 rfl (lv_at hl 3 rfl) ?_
                refine va_get (D := G.1) (ci := 3) (v := .ref q2) (C := RX3) (T := TX3) (N := 7) hx hb hts hinX3 hown hKK.1 hP 0 rfl rfl 2 (by decide) kl22 (fun _ h9 => h9) rfl dX3_choose_95 ?_
                refine lv_iload hx hb dX3_choose_98 (lv_at hl 0 rfl) ?_
                obtain ⟨hin, hv⟩ := hv
                refine va_iald hx hb hKK.1 hP 2 0 rfl rfl hin dX3_choose_100 ?_
                refine va_mmin hx hb (hml.trans hl.1.symm) hown kl87 km_s_min km_i km_c_min (by omega) (Nat.le_trans (Nat.le_of_ble_eq_true rfl : _ ≤ 30) (by omega)) (Nat.zero_le _) (Nat.zero_le _) dX3_choose_101 ?_
                obtain ⟨hp, hv⟩ := hv
                refine x_callv (wr := []) (w' := fun (u : (Nat → Int32) × (Nat → Int32) × (Int32) × (Int32)) => [(q, .inr (3, [.ref s0, .ref q1, .ref q2, .ref q3, .ref q4, .int u.2.2.1, .int u.2.2.2])), aI G q1 40 co, aI G q2 40 wo, aI G q3 4 u.1, aI G q4 4 u.2.1, (t, .inr (6, [.int ns, .int np, .int fu, .int fd, .int fi, .ref t1, .ref t2, .ref t3, .ref t4, .ref t5, .ref t6])), aI G t1 9 sz_, aI G t2 9 pt, aI G t3 9 fh, aI G t4 8 kd, aI G t5 8 nd, aI G t6 8 fw]) (x_runV (As := [.ref t, .int (pq + 1), .int (tk ||| ((1 : Int32) <<< (x6_11 &&& 31))), .int (x + (co (pq * 10 + x6_11 + 1).toNatClampNeg)), .int (if (wo (pq * 10 + x6_11 + 1).toNatClampNeg) < y then (wo (pq * 10 + x6_11 + 1).toNatClampNeg) else y)]) (rest := []) (n := 5) (C := RX3) (ci := 3) ⟨hx, hb, hml, hown, hts⟩ (hrec _ s0 gq5_9 gq6_10 co wo (upd fq3_7 pq.toNatClampNeg x6_11) fq4_8 ns np fu fd fi sz_ pt fh kd nd fw (pq + 1) (tk ||| ((1 : Int32) <<< (x6_11 &&& 31))) (x + (co (pq * 10 + x6_11 + 1).toNatClampNeg)) (if (wo (pq * 10 + x6_11 + 1).toNatClampNeg) < y then (wo (pq * 10 + x6_11 + 1).toNatClampNeg) else y) hp) gX3_choose_X3_choose rfl (by decide +kernel) ⟨by omega, by omega⟩ hKK hSS hS hA hP hD [0, 1, 2, 3, 4, 5, 6, 7, 8, 9, 10, 11] (by decide) rfl rfl rfl 0 rfl rfl hl.1 rfl (Nat.le_of_ble_eq_true rfl) dX3_choose_104) hP hD hS hA [0, 1, 2, 3, 4, 5, 6, 7, 8, 9, 10, 11] [] [0, 1, 2, 3, 4, 5, 6, 7, 8, 9, 10, 11] rfl rfl (by decide) (by decide) (by decide) (fun _ => rfl) (fun  u H locs hw hP hD hS => ?_)
                obtain ⟨ch2_21, be2_22, bc2_23, bl2_24⟩ := u
                have hP : va_P G.1 vwCl [(q, .inr (3, [.ref s0, .ref q1, .ref q2, .ref q3, .ref q4, .int bc2_23, .int bl2_24])), aI G q1 40 co, aI G q2 40 wo, aI G q3 4 ch2_21, aI G q4 4 be2_22, (t, .inr (6, [.int ns, .int np, .int fu, .int fd, .int fi, .ref t1, .ref t2, .ref t3, .ref t4, .ref t5, .ref t6])), aI G t1 9 sz_, aI G t2 9 pt, aI G t3 9 fh, aI G t4 8 kd, aI G t5 8 nd, aI G t6 8 fw] H := hP
                have hD : va_D A [(q, .inr (3, [.ref s0, .ref q1, .ref q2, .ref q3, .ref q4, .int bc2_23, .int bl2_24])), aI G q1 40 co, aI G q2 40 wo, aI G q3 4 ch2_21, aI G q4 4 be2_22, (t, .inr (6, [.int ns, .int np, .int fu, .int fd, .int fi, .ref t1, .ref t2, .ref t3, .ref t4, .ref t5, .ref t6])), aI G t1 9 sz_, aI G t2 9 pt, aI G t3 9 fh, aI G t4 8 kd, aI G t5 8 nd, aI G t6 8 fw] := hD
                have hv := hv ch2_21 be2_22 bc2_23 bl2_24 hw
                refine lv_iinc (v := (x6_11 + 1)) (lv' := [(6, .int (x6_11 + 1)), (8, .int (pq * 10 + x6_11 + 1)), (7, .int ((1 : Int32) <<< (x6_11 &&& 31))), (0, .ref q), (1, .ref t), (2, .int pq), (3, .int tk), (4, .int x), (5, .int y)]) hx hb dX3_choose_107 hl (k := 2) rfl rfl (by decide) rfl (fun ls hl => ?_)
                refine lv_goto (tgt := 25) hx hb dX3_choose_110 (by decide) ?_
                exact ih_14 _ _ _ _ _ _ _ _ (Nat.lt_of_lt_of_le hv.2 (Nat.le_of_lt_succ hI_15)) hv.1 hP hD hS (lv_sub hl [0, 3, 4, 5, 6, 7, 8] rfl)
            · have hv := hv.2 hc_17
              refine lv_iconst (v := 0) hx hb dX3_choose_40 (by decide) ?_
              refine lv_goto (tgt := 48) hx hb dX3_choose_41 (by decide) ?_
              refine lv_istore (lv' := [(7, .int 0), (6, .int x6_11), (0, .ref q), (1, .ref t), (2, .int pq), (3, .int tk), (4, .int x), (5, .int y)]) hx hb dX3_choose_48 hl (by decide) rfl (fun ls hl => ?_)
              refine lv_iload_n hx hb dX3_choose_50 rfl (lv_at hl 5 rfl) ?_
              refine lv_iload hx hb dX3_choose_51 (lv_at hl 0 rfl) ?_
              refine lv_iand hx hb dX3_choose_53 ?_
              refine lv_if_ne (tgt := 107) hx hb dX3_choose_54 (by decide) (fun hc_25 => ?_) (fun hc_25 => ?_)
              · have hv := hv.1 hc_25
                refine lv_iinc (v := (x6_11 + 1)) (lv' := [(6, .int (x6_11 + 1)), (7, .int 0), (0, .ref q), (1, .ref t), (2, .int pq), (3, .int tk), (4, .int x), (5, .int y)]) hx hb dX3_choose_107 hl (k := 1) rfl rfl (by decide) rfl (fun ls hl => ?_)
                refine lv_goto (tgt := 25) hx hb dX3_choose_110 (by decide) ?_
                exact ih_14 _ _ _ _ _ _ _ _ (Nat.lt_of_lt_of_le hv.2 (Nat.le_of_lt_succ hI_15)) hv.1 hP hD hS (lv_sub hl [0, 2, 3, 4, 5, 6, 7] rfl)
              · have hv := hv.2 hc_25
                refine lv_iload_n hx hb dX3_choose_57 rfl (lv_at hl 4 rfl) ?_
                refine lv_iload hx hb dX3_choose_58 (lv_at hl 1 rfl) ?_
                refine x_calliR (x_runS (As := [.int pq, .int x6_11]) (rest := []) (n := 2) ⟨hx, hb, hml, hown, hts⟩ (k_X3_seatAt l G  _ pq x6_11) gX3_choose_X3_seatAt rfl (by decide +kernel) ⟨by omega, by omega⟩ hKK hSS hS hA hP hD [] (by decide) rfl rfl hl.1 rfl (Nat.le_of_ble_eq_true rfl) dX3_choose_60) hP hD hS hA [] rfl (fun r_26 _ H locs hw hP hS => ?_)
                replace hw := hw.symm; subst hw
                refine lv_istore (lv' := [(8, .int (pq * 10 + x6_11 + 1)), (7, .int 0), (6, .int x6_11), (0, .ref q), (1, .ref t), (2, .int pq), (3, .int tk), (4, .int x), (5, .int y)]) hx hb dX3_choose_63 hl (by decide) rfl (fun ls hl => ?_)
                refine lv_aload_n hx hb dX3_choose_65 rfl (lv_at hl 3 rfl) ?_
                refine va_get (D := G.1) (ci := 3) (v := .ref q3) (C := RX3) (T := TX3) (N := 7) hx hb hts hinX3 hown hKK.1 hP 0 rfl rfl 3 (by decide) kl25 (fun _ h9 => h9) rfl dX3_choose_66 ?_
                refine lv_iload_n hx hb dX3_choose_69 rfl (lv_at hl 5 rfl) ?_
                refine lv_iload hx hb dX3_choose_70 (lv_at hl 2 rfl) ?_
                obtain ⟨hin, hv⟩ := hv
                refine va_iast hx hb hKK.1 hP hD hS 3 0 rfl rfl hin dX3_choose_72 (fun H locs hP hD hS => ?_)
                have hP : va_P G.1 vwCl [(q, .inr (3, [.ref s0, .ref q1, .ref q2, .ref q3, .ref q4, .int gq5_9, .int gq6_10])), aI G q1 40 co, aI G q2 40 wo, aI G q3 4 (upd fq3_7 pq.toNatClampNeg x6_11), aI G q4 4 fq4_8, (t, .inr (6, [.int ns, .int np, .int fu, .int fd, .int fi, .ref t1, .ref t2, .ref t3, .ref t4, .ref t5, .ref t6])), aI G t1 9 sz_, aI G t2 9 pt, aI G t3 9 fh, aI G t4 8 kd, aI G t5 8 nd, aI G t6 8 fw] H := hP
                have hD : va_D A [(q, .inr (3, [.ref s0, .ref q1, .ref q2, .ref q3, .ref q4, .int gq5_9, .int gq6_10])), aI G q1 40 co, aI G q2 40 wo, aI G q3 4 (upd fq3_7 pq.toNatClampNeg x6_11), aI G q4 4 fq4_8, (t, .inr (6, [.int ns, .int np, .int fu, .int fd, .int fi, .ref t1, .ref t2, .ref t3, .ref t4, .ref t5, .ref t6])), aI G t1 9 sz_, aI G t2 9 pt, aI G t3 9 fh, aI G t4 8 kd, aI G t5 8 nd, aI G t6 8 fw] := hD
                refine lv_aload_n hx hb dX3_choose_73 rfl (lv_at hl 3 rfl) ?_
                refine lv_aload_n hx hb dX3_choose_74 rfl (lv_at hl 4 rfl) ?_
                refine lv_iload_n hx hb dX3_choose_75 rfl (lv_at hl 5 rfl) ?_
                refine lv_iconst (v := 1) hx hb dX3_choose_76 (by decide) ?_
                refine lv_iadd hx hb dX3_choose_77 ?_
                refine lv_iload_n hx hb dX3_choose_78 rfl (lv_at hl 6 rfl) ?_
                refine lv_iload hx hb dX3_choose_79 (lv_at hl 1 rfl) ?_
                refine lv_ior hx hb dX3_choose_81 ?_
                refine lv_iload hx hb dX3_choose_82 (lv_at hl 7 rfl) ?_
                refine lv_aload_n hx hb dX3_choose_84 rfl (lv_at hl 3 rfl) ?_
                refine va_get (D := G.1) (ci := 3) (v := .ref q1) (C := RX3) (T := TX3) (N := 7) hx hb hts hinX3 hown hKK.1 hP 0 rfl rfl 1 (by decide) kl18 (fun _ h9 => h9) rfl dX3_choose_85 ?_
                refine lv_iload hx hb dX3_choose_88 (lv_at hl 0 rfl) ?_
                obtain ⟨hin, hv⟩ := hv
                refine va_iald hx hb hKK.1 hP 1 0 rfl rfl hin dX3_choose_90 ?_
                refine lv_iadd hx hb dX3_choose_91 ?_
                refine lv_iload hx hb dX3_choose_92 (lv_at hl 8 rfl) ?_
                refine lv_aload_n hx hb dX3_choose_94 rfl (lv_at hl 3 rfl) ?_
                refine va_get (D := G.1) (ci := 3) (v := .ref q2) (C := RX3) (T := TX3) (N := 7) hx hb hts hinX3 hown hKK.1 hP 0 rfl rfl 2 (by decide) kl22 (fun _ h9 => h9) rfl dX3_choose_95 ?_
                refine lv_iload hx hb dX3_choose_98 (lv_at hl 0 rfl) ?_
                obtain ⟨hin, hv⟩ := hv
                refine va_iald hx hb hKK.1 hP 2 0 rfl rfl hin dX3_choose_100 ?_
                refine va_mmin hx hb (hml.trans hl.1.symm) hown kl87 km_s_min km_i km_c_min (by omega) (Nat.le_trans (Nat.le_of_ble_eq_true rfl : _ ≤ 30) (by omega)) (Nat.zero_le _) (Nat.zero_le _) dX3_choose_101 ?_
                obtain ⟨hp, hv⟩ := hv
                refine x_callv (wr := []) (w' := fun (u : (Nat → Int32) × (Nat → Int32) × (Int32) × (Int32)) => [(q, .inr (3, [.ref s0, .ref q1, .ref q2, .ref q3, .ref q4, .int u.2.2.1, .int u.2.2.2])), aI G q1 40 co, aI G q2 40 wo, aI G q3 4 u.1, aI G q4 4 u.2.1, (t, .inr (6, [.int ns, .int np, .int fu, .int fd, .int fi, .ref t1, .ref t2, .ref t3, .ref t4, .ref t5, .ref t6])), aI G t1 9 sz_, aI G t2 9 pt, aI G t3 9 fh, aI G t4 8 kd, aI G t5 8 nd, aI G t6 8 fw]) (x_runV (As := [.ref t, .int (pq + 1), .int (tk ||| 0), .int (x + (co (pq * 10 + x6_11 + 1).toNatClampNeg)), .int (if (wo (pq * 10 + x6_11 + 1).toNatClampNeg) < y then (wo (pq * 10 + x6_11 + 1).toNatClampNeg) else y)]) (rest := []) (n := 5) (C := RX3) (ci := 3) ⟨hx, hb, hml, hown, hts⟩ (hrec _ s0 gq5_9 gq6_10 co wo (upd fq3_7 pq.toNatClampNeg x6_11) fq4_8 ns np fu fd fi sz_ pt fh kd nd fw (pq + 1) (tk ||| 0) (x + (co (pq * 10 + x6_11 + 1).toNatClampNeg)) (if (wo (pq * 10 + x6_11 + 1).toNatClampNeg) < y then (wo (pq * 10 + x6_11 + 1).toNatClampNeg) else y) hp) gX3_choose_X3_choose rfl (by decide +kernel) ⟨by omega, by omega⟩ hKK hSS hS hA hP hD [0, 1, 2, 3, 4, 5, 6, 7, 8, 9, 10, 11] (by decide) rfl rfl rfl 0 rfl rfl hl.1 rfl (Nat.le_of_ble_eq_true rfl) dX3_choose_104) hP hD hS hA [0, 1, 2, 3, 4, 5, 6, 7, 8, 9, 10, 11] [] [0, 1, 2, 3, 4, 5, 6, 7, 8, 9, 10, 11] rfl rfl (by decide) (by decide) (by decide) (fun _ => rfl) (fun  u H locs hw hP hD hS => ?_)
                obtain ⟨ch2_28, be2_29, bc2_30, bl2_31⟩ := u
                have hP : va_P G.1 vwCl [(q, .inr (3, [.ref s0, .ref q1, .ref q2, .ref q3, .ref q4, .int bc2_30, .int bl2_31])), aI G q1 40 co, aI G q2 40 wo, aI G q3 4 ch2_28, aI G q4 4 be2_29, (t, .inr (6, [.int ns, .int np, .int fu, .int fd, .int fi, .ref t1, .ref t2, .ref t3, .ref t4, .ref t5, .ref t6])), aI G t1 9 sz_, aI G t2 9 pt, aI G t3 9 fh, aI G t4 8 kd, aI G t5 8 nd, aI G t6 8 fw] H := hP
                have hD : va_D A [(q, .inr (3, [.ref s0, .ref q1, .ref q2, .ref q3, .ref q4, .int bc2_30, .int bl2_31])), aI G q1 40 co, aI G q2 40 wo, aI G q3 4 ch2_28, aI G q4 4 be2_29, (t, .inr (6, [.int ns, .int np, .int fu, .int fd, .int fi, .ref t1, .ref t2, .ref t3, .ref t4, .ref t5, .ref t6])), aI G t1 9 sz_, aI G t2 9 pt, aI G t3 9 fh, aI G t4 8 kd, aI G t5 8 nd, aI G t6 8 fw] := hD
                have hv := hv ch2_28 be2_29 bc2_30 bl2_31 hw
                refine lv_iinc (v := (x6_11 + 1)) (lv' := [(6, .int (x6_11 + 1)), (8, .int (pq * 10 + x6_11 + 1)), (7, .int 0), (0, .ref q), (1, .ref t), (2, .int pq), (3, .int tk), (4, .int x), (5, .int y)]) hx hb dX3_choose_107 hl (k := 2) rfl rfl (by decide) rfl (fun ls hl => ?_)
                refine lv_goto (tgt := 25) hx hb dX3_choose_110 (by decide) ?_
                exact ih_14 _ _ _ _ _ _ _ _ (Nat.lt_of_lt_of_le hv.2 (Nat.le_of_lt_succ hI_15)) hv.1 hP hD hS (lv_sub hl [0, 3, 4, 5, 6, 7, 8] rfl)
      exact Lm_34 _ _ _ _ _ _ _ _ _ (Nat.lt_succ_self _) hi0 hP hD hS hl
    · have hv := hv.2 hc_6
      refine lv_aload_n hx hb dX3_choose_13 rfl (lv_at hl 0 rfl) ?_
      refine lv_iload hx hb dX3_choose_14 (lv_at hl 4 rfl) ?_
      refine lv_iload hx hb dX3_choose_16 (lv_at hl 5 rfl) ?_
      refine x_callv (wr := [(t, .inr (6, [.int ns, .int np, .int fu, .int fd, .int fi, .ref t1, .ref t2, .ref t3, .ref t4, .ref t5, .ref t6])), aI G t1 9 sz_, aI G t2 9 pt, aI G t3 9 fh, aI G t4 8 kd, aI G t5 8 nd, aI G t6 8 fw]) (w' := fun (u : (Int32) × (Int32) × (Nat → Int32)) => [(q, .inr (3, [.ref s0, .ref q1, .ref q2, .ref q3, .ref q4, .int u.1, .int u.2.1])), aI G q1 40 co, aI G q2 40 wo, aI G q3 4 ch, aI G q4 4 u.2.2, (t, .inr (6, [.int ns, .int np, .int fu, .int fd, .int fi, .ref t1, .ref t2, .ref t3, .ref t4, .ref t5, .ref t6])), aI G t1 9 sz_, aI G t2 9 pt, aI G t3 9 fh, aI G t4 8 kd, aI G t5 8 nd, aI G t6 8 fw]) (x_runV (As := [.int x, .int y]) (rest := []) (n := 2) (C := RX3) (ci := 3) ⟨hx, hb, hml, hown, hts⟩ (k_X3_weigh l G q q1 q2 q3 q4 _ s0 bc bl co wo ch be x y) gX3_choose_X3_weigh rfl (by decide +kernel) ⟨by omega, by omega⟩ hKK hSS hS hA hP hD [0, 1, 2, 3, 4] (by decide) rfl rfl rfl 0 rfl rfl hl.1 rfl (Nat.le_of_ble_eq_true rfl) dX3_choose_18) hP hD hS hA [0, 1, 2, 3, 4] [5, 6, 7, 8, 9, 10, 11] [7, 8, 9, 10, 11, 0, 1, 2, 3, 4, 5, 6] rfl rfl (by decide) (by decide) (by decide) (fun _ => rfl) (fun  u H locs hw hP hD hS => ?_)
      obtain ⟨bc2_36, bl2_37, be2_38⟩ := u
      obtain ⟨hw0, hw1, hw2⟩ := hw
      replace hw0 := hw0.symm; subst hw0
      replace hw1 := hw1.symm; subst hw1
      replace hw2 := hw2.symm; subst hw2
      have hP : va_P G.1 vwCl [(q, .inr (3, [.ref s0, .ref q1, .ref q2, .ref q3, .ref q4, .int (if x < bc ∨ (x = bc ∧ bl < y) then x else bc), .int (if x < bc ∨ (x = bc ∧ bl < y) then y else bl)])), aI G q1 40 co, aI G q2 40 wo, aI G q3 4 ch, aI G q4 4 (if x < bc ∨ (x = bc ∧ bl < y) then va_cpy ch be 0 0 4 else be), (t, .inr (6, [.int ns, .int np, .int fu, .int fd, .int fi, .ref t1, .ref t2, .ref t3, .ref t4, .ref t5, .ref t6])), aI G t1 9 sz_, aI G t2 9 pt, aI G t3 9 fh, aI G t4 8 kd, aI G t5 8 nd, aI G t6 8 fw] H := hP
      have hD : va_D A [(q, .inr (3, [.ref s0, .ref q1, .ref q2, .ref q3, .ref q4, .int (if x < bc ∨ (x = bc ∧ bl < y) then x else bc), .int (if x < bc ∨ (x = bc ∧ bl < y) then y else bl)])), aI G q1 40 co, aI G q2 40 wo, aI G q3 4 ch, aI G q4 4 (if x < bc ∨ (x = bc ∧ bl < y) then va_cpy ch be 0 0 4 else be), (t, .inr (6, [.int ns, .int np, .int fu, .int fd, .int fi, .ref t1, .ref t2, .ref t3, .ref t4, .ref t5, .ref t6])), aI G t1 9 sz_, aI G t2 9 pt, aI G t3 9 fh, aI G t4 8 kd, aI G t5 8 nd, aI G t6 8 fw] := hD
      exact x_vret (ch, (if x < bc ∨ (x = bc ∧ bl < y) then va_cpy ch be 0 0 4 else be), (if x < bc ∨ (x = bc ∧ bl < y) then x else bc), (if x < bc ∨ (x = bc ∧ bl < y) then y else bl)) hQ hx hb hr hlocks hS dX3_choose_21 hv hP hD
theorem k_X3_choose (d : Nat) : ∀ (l : Launch) (G : Gt) (q q1 q2 q3 q4 t t1 t2 t3 t4 t5 t6 : Nat) (sz : Nat) (s0 : Nat) (bc : Int32) (bl : Int32) (co : Nat → Int32) (wo : Nat → Int32) (ch : Nat → Int32) (be : Nat → Int32) (ns : Int32) (np : Int32) (fu : Int32) (fd : Int32) (fi : Int32) (sz_ : Nat → Int32) (pt : Nat → Int32) (fh : Nat → Int32) (kd : Nat → Int32) (nd : Nat → Int32) (fw : Nat → Int32) (pq : Int32) (tk : Int32) (x : Int32) (y : Int32), d = d → MetV l yX3_choose wsX3_choose (2 + d) (52 + 28 * d) G [.ref q, .ref t, .int pq, .int tk, .int x, .int y] [(q, .inr (3, [.ref s0, .ref q1, .ref q2, .ref q3, .ref q4, .int bc, .int bl])), aI G q1 40 co, aI G q2 40 wo, aI G q3 4 ch, aI G q4 4 be, (t, .inr (6, [.int ns, .int np, .int fu, .int fd, .int fi, .ref t1, .ref t2, .ref t3, .ref t4, .ref t5, .ref t6])), aI G t1 9 sz_, aI G t2 9 pt, aI G t3 9 fh, aI G t4 8 kd, aI G t5 8 nd, aI G t6 8 fw] sz (fun (u : (Nat → Int32) × (Nat → Int32) × (Int32) × (Int32)) => True ∧ d = d) (fun (u : (Nat → Int32) × (Nat → Int32) × (Int32) × (Int32)) => [(q, .inr (3, [.ref s0, .ref q1, .ref q2, .ref q3, .ref q4, .int u.2.2.1, .int u.2.2.2])), aI G q1 40 co, aI G q2 40 wo, aI G q3 4 u.1, aI G q4 4 u.2.1, (t, .inr (6, [.int ns, .int np, .int fu, .int fd, .int fi, .ref t1, .ref t2, .ref t3, .ref t4, .ref t5, .ref t6])), aI G t1 9 sz_, aI G t2 9 pt, aI G t3 9 fh, aI G t4 8 kd, aI G t5 8 nd, aI G t6 8 fw]) := by
  sorry

set_option maxHeartbeats 4000000 in
set_option maxRecDepth 100000 in
theorem c_X3_search (l : Launch) (G : Gt) (q q1 q2 q3 q4 s0 t t1 t2 t3 t4 t5 t6 n n1 n2 n3 n4 n5 n6 n7 : Nat) (sz : Nat) (bc : Int32) (bl : Int32) (co : Nat → Int32) (wo : Nat → Int32) (ch : Nat → Int32) (be : Nat → Int32) (sw : Int32) (sh : Int32) (ns : Int32) (np : Int32) (fu : Int32) (fd : Int32) (fi : Int32) (sz_ : Nat → Int32) (pt : Nat → Int32) (fh : Nat → Int32) (kd : Nat → Int32) (nd : Nat → Int32) (fw : Nat → Int32) (ht : Nat → Int32) (wm : Nat → Int32) (se : Nat → Int32) (cd : Nat → Int32) (sl : Nat → Int32) (od : Nat → Int32) (ow : Nat → Int32) (lo : Int32) (mi : Int32) (sd : Int32) (mm : Int32) (hv : ∃ (I3_6 : (Nat → Int32) → (Nat → Int32) → Int32 → Int32 → Int32 → Prop) (μ3_7 : (Nat → Int32) → (Nat → Int32) → Int32 → Int32 → Int32 → Nat), I3_6 co wo sw sh 0 ∧ (∀ (fq1_1 : (Nat → Int32)) (fq2_2 : (Nat → Int32)) (gs00_3 : Int32) (gs01_4 : Int32) (x4_5 : Int32), I3_6 fq1_1 fq2_2 gs00_3 gs01_4 x4_5 → (np ≤ x4_5 → (5 = 5) ∧ (∀ (ch2_12 : Nat → Int32) (be2_13 : Nat → Int32) (bc2_14 : Int32) (bl2_15 : Int32), (True ∧ 5 = 5) → (True))) ∧ (¬ (np ≤ x4_5) → (4 ≤ x4_5 → (5 = 5) ∧ (∀ (ch2_18 : Nat → Int32) (be2_19 : Nat → Int32) (bc2_20 : Int32) (bl2_21 : Int32), (True ∧ 5 = 5) → (True))) ∧ (¬ (4 ≤ x4_5) → ∃ (I21_27 : (Nat → Int32) → (Nat → Int32) → Int32 → Int32 → Int32 → Prop) (μ21_28 : (Nat → Int32) → (Nat → Int32) → Int32 → Int32 → Int32 → Nat), I21_27 fq1_1 fq2_2 gs00_3 gs01_4 (-1) ∧ (∀ (fq1_22 : (Nat → Int32)) (fq2_23 : (Nat → Int32)) (gs00_24 : Int32) (gs01_25 : Int32) (x5_26 : Int32), I21_27 fq1_22 fq2_23 gs00_24 gs01_25 x5_26 → (ns ≤ x5_26 → I3_6 fq1_22 fq2_23 gs00_24 gs01_25 (x4_5 + 1) ∧ μ3_7 fq1_22 fq2_23 gs00_24 gs01_25 (x4_5 + 1) < μ3_7 fq1_1 fq2_2 gs00_3 gs01_4 x4_5) ∧ (¬ (ns ≤ x5_26) → (True) ∧ (∀ (co2_33 : Nat → Int32) (wo2_34 : Nat → Int32) (sw2_35 : Int32) (sh2_36 : Int32), (True) → (I21_27 co2_33 wo2_34 sw2_35 sh2_36 (x5_26 + 1) ∧ μ21_28 co2_33 wo2_34 sw2_35 sh2_36 (x5_26 + 1) < μ21_28 fq1_22 fq2_23 gs00_24 gs01_25 x5_26)))))))) : MetV l yX3_search wsX3_search 8 220 G [.ref q, .ref t, .ref n, .int mm] [(q, .inr (3, [.ref s0, .ref q1, .ref q2, .ref q3, .ref q4, .int bc, .int bl])), aI G q1 40 co, aI G q2 40 wo, aI G q3 4 ch, aI G q4 4 be, (s0, .inr (4, [.int sw, .int sh])), (t, .inr (6, [.int ns, .int np, .int fu, .int fd, .int fi, .ref t1, .ref t2, .ref t3, .ref t4, .ref t5, .ref t6])), aI G t1 9 sz_, aI G t2 9 pt, aI G t3 9 fh, aI G t4 8 kd, aI G t5 8 nd, aI G t6 8 fw, (n, .inr (1, [.ref n1, .ref n2, .ref n3, .ref n4, .ref n5, .ref n6, .ref n7, .int lo, .int mi, .int sd])), aI G n1 9 ht, aI G n2 8 wm, aI G n3 8 se, aI G n4 8 cd, aI G n5 8 sl, aI G n6 8 od, aI G n7 72 ow] sz (fun (u : (Nat → Int32) × (Nat → Int32) × (Nat → Int32) × (Nat → Int32) × (Int32) × (Int32) × (Int32) × (Int32)) => True) (fun (u : (Nat → Int32) × (Nat → Int32) × (Nat → Int32) × (Nat → Int32) × (Int32) × (Int32) × (Int32) × (Int32)) => [(q, .inr (3, [.ref s0, .ref q1, .ref q2, .ref q3, .ref q4, .int u.2.2.2.2.1, .int u.2.2.2.2.2.1])), aI G q1 40 u.1, aI G q2 40 u.2.1, aI G q3 4 u.2.2.1, aI G q4 4 u.2.2.2.1, (s0, .inr (4, [.int u.2.2.2.2.2.2.1, .int u.2.2.2.2.2.2.2])), (t, .inr (6, [.int ns, .int np, .int fu, .int fd, .int fi, .ref t1, .ref t2, .ref t3, .ref t4, .ref t5, .ref t6])), aI G t1 9 sz_, aI G t2 9 pt, aI G t3 9 fh, aI G t4 8 kd, aI G t5 8 nd, aI G t6 8 fw, (n, .inr (1, [.ref n1, .ref n2, .ref n3, .ref n4, .ref n5, .ref n6, .ref n7, .int lo, .int mi, .int sd])), aI G n1 9 ht, aI G n2 8 wm, aI G n3 8 se, aI G n4 8 cd, aI G n5 8 sl, aI G n6 8 od, aI G n7 72 ow]) := by
  refine x_startV (cc := cX3_search) (maxL := 6) (ret := none) (by decide) rfl (Nat.le_of_ble_eq_true rfl) ?_
  intro p e s m args below meth c A R Q ls hRf hRl hQ C hP hD hS hA hSS hl
  obtain ⟨hx, hb, hr, hml, hown, hts, hlocks, hKK⟩ := C
  have hown : s.vm.findClass RX3 = some m.cls := hown
  have hl : lv_has ls 6 [(0, .ref q), (1, .ref t), (2, .ref n), (3, .int mm)] := hl
  have hinX3 : ∀ w ∈ u_ws RX3 TX3 7, w ∈ wsX3_search := by decide +kernel
  have hinX6 : ∀ w ∈ u_ws RX6 TX6 11, w ∈ wsX3_search := by decide +kernel
  have kl31 := hts (.fieldLink RX3 31 "WarmStones$Town" "persons" "I") (by decide +kernel)
  have kl37 := hts (.fieldLink RX3 37 "WarmStones$Town" "stones" "I") (by decide +kernel)
  have kl44 := hts (.fieldLink RX3 44 "WarmStones$Seating" "bestCold" "I") (by decide +kernel)
  refine lv_iconst (v := 0) hx hb dX3_search_0 (by decide) ?_
  refine lv_istore (lv' := [(4, .int 0), (0, .ref q), (1, .ref t), (2, .ref n), (3, .int mm)]) hx hb dX3_search_1 hl (by decide) rfl (fun ls hl => ?_)
  obtain ⟨I3_6, μ3_7, hi0, hs_40⟩ := hv
  have Lm_42 : ∀ (n_41 : Nat) (fq1_1 : (Nat → Int32)) (fq2_2 : (Nat → Int32)) (gs00_3 : Int32) (gs01_4 : Int32) (x4_5 : Int32) (H : Heap) (locs : List Loc) (ls : Array Slot), μ3_7 fq1_1 fq2_2 gs00_3 gs01_4 x4_5 < n_41 → I3_6 fq1_1 fq2_2 gs00_3 gs01_4 x4_5 → va_P G.1 vwCl [(q, .inr (3, [.ref s0, .ref q1, .ref q2, .ref q3, .ref q4, .int bc, .int bl])), aI G q1 40 fq1_1, aI G q2 40 fq2_2, aI G q3 4 ch, aI G q4 4 be, (s0, .inr (4, [.int gs00_3, .int gs01_4])), (t, .inr (6, [.int ns, .int np, .int fu, .int fd, .int fi, .ref t1, .ref t2, .ref t3, .ref t4, .ref t5, .ref t6])), aI G t1 9 sz_, aI G t2 9 pt, aI G t3 9 fh, aI G t4 8 kd, aI G t5 8 nd, aI G t6 8 fw, (n, .inr (1, [.ref n1, .ref n2, .ref n3, .ref n4, .ref n5, .ref n6, .ref n7, .int lo, .int mi, .int sd])), aI G n1 9 ht, aI G n2 8 wm, aI G n3 8 se, aI G n4 8 cd, aI G n5 8 sl, aI G n6 8 od, aI G n7 72 ow] H → va_D A [(q, .inr (3, [.ref s0, .ref q1, .ref q2, .ref q3, .ref q4, .int bc, .int bl])), aI G q1 40 fq1_1, aI G q2 40 fq2_2, aI G q3 4 ch, aI G q4 4 be, (s0, .inr (4, [.int gs00_3, .int gs01_4])), (t, .inr (6, [.int ns, .int np, .int fu, .int fd, .int fi, .ref t1, .ref t2, .ref t3, .ref t4, .ref t5, .ref t6])), aI G t1 9 sz_, aI G t2 9 pt, aI G t3 9 fh, aI G t4 8 kd, aI G t5 8 nd, aI G t6 8 fw, (n, .inr (1, [.ref n1, .ref n2, .ref n3, .ref n4, .ref n5, .ref n6, .ref n7, .int lo, .int mi, .int sd])), aI G n1 9 ht, aI G n2 8 wm, aI G n3 8 se, aI G n4 8 cd, aI G n5 8 sl, aI G n6 8 od, aI G n7 72 ow] → va_S A s.heap H locs → lv_has ls 6 [(4, .int x4_5), (0, .ref q), (1, .ref t), (2, .ref n), (3, .int mm)] → W p l e R s m args below meth c H locs 0 0 Q (F0 m 3 ls []) := by
    intro n_41
    induction n_41 with
    | zero => intro fq1_1 fq2_2 gs00_3 gs01_4 x4_5 H locs ls hm; exact absurd hm (Nat.not_lt_zero _)
    | succ n_41 ih_8 =>
      intro fq1_1 fq2_2 gs00_3 gs01_4 x4_5 H locs ls hI_9 hi hP hD hS hl
      have hv := hs_40 fq1_1 fq2_2 gs00_3 gs01_4 x4_5 hi
      refine lv_iload hx hb dX3_search_3 (lv_at hl 0 rfl) ?_
      refine lv_aload_n hx hb dX3_search_5 rfl (lv_at hl 2 rfl) ?_
      refine va_get (D := G.1) (ci := 6) (v := .int np) (C := RX6) (T := TX6) (N := 11) hx hb hts hinX6 hown hKK.1 hP 6 rfl rfl 1 (by decide) kl31 (fun _ h9 => h9) rfl dX3_search_6 ?_
      refine lv_icmp_ge (tgt := 53) hx hb dX3_search_9 (by decide) (fun hc_10 => ?_) (fun hc_10 => ?_)
      · have hv := hv.1 hc_10
        refine lv_aload_n hx hb dX3_search_53 rfl (lv_at hl 1 rfl) ?_
        refine lv_sipush (v := 241) hx hb dX3_search_54 (by decide) ?_
        refine va_put (D := G.1) (ci := 3) (v := .int 241) (ty := .int) (C := RX3) (T := TX3) (N := 7) hx hb hts hinX3 tyX3 tyX3_ok nmX3 hown hKK.1 hP hD hS 0 rfl rfl 5 (by decide) kl44 (fun _ h9 => h9) rfl (by decide +kernel) rfl rfl (Nat.le_of_ble_eq_true rfl) dX3_search_57 (fun H locs hP hD hS => ?_)
        have hP : va_P G.1 vwCl [(q, .inr (3, [.ref s0, .ref q1, .ref q2, .ref q3, .ref q4, .int 241, .int bl])), aI G q1 40 fq1_1, aI G q2 40 fq2_2, aI G q3 4 ch, aI G q4 4 be, (s0, .inr (4, [.int gs00_3, .int gs01_4])), (t, .inr (6, [.int ns, .int np, .int fu, .int fd, .int fi, .ref t1, .ref t2, .ref t3, .ref t4, .ref t5, .ref t6])), aI G t1 9 sz_, aI G t2 9 pt, aI G t3 9 fh, aI G t4 8 kd, aI G t5 8 nd, aI G t6 8 fw, (n, .inr (1, [.ref n1, .ref n2, .ref n3, .ref n4, .ref n5, .ref n6, .ref n7, .int lo, .int mi, .int sd])), aI G n1 9 ht, aI G n2 8 wm, aI G n3 8 se, aI G n4 8 cd, aI G n5 8 sl, aI G n6 8 od, aI G n7 72 ow] H := hP
        have hD : va_D A [(q, .inr (3, [.ref s0, .ref q1, .ref q2, .ref q3, .ref q4, .int 241, .int bl])), aI G q1 40 fq1_1, aI G q2 40 fq2_2, aI G q3 4 ch, aI G q4 4 be, (s0, .inr (4, [.int gs00_3, .int gs01_4])), (t, .inr (6, [.int ns, .int np, .int fu, .int fd, .int fi, .ref t1, .ref t2, .ref t3, .ref t4, .ref t5, .ref t6])), aI G t1 9 sz_, aI G t2 9 pt, aI G t3 9 fh, aI G t4 8 kd, aI G t5 8 nd, aI G t6 8 fw, (n, .inr (1, [.ref n1, .ref n2, .ref n3, .ref n4, .ref n5, .ref n6, .ref n7, .int lo, .int mi, .int sd])), aI G n1 9 ht, aI G n2 8 wm, aI G n3 8 se, aI G n4 8 cd, aI G n5 8 sl, aI G n6 8 od, aI G n7 72 ow] := hD
        refine lv_aload_n hx hb dX3_search_60 rfl (lv_at hl 1 rfl) ?_
        refine lv_aload_n hx hb dX3_search_61 rfl (lv_at hl 2 rfl) ?_
        refine lv_iconst (v := 0) hx hb dX3_search_62 (by decide) ?_
        refine lv_iconst (v := 0) hx hb dX3_search_63 (by decide) ?_
        refine lv_iconst (v := 0) hx hb dX3_search_64 (by decide) ?_
        refine lv_sipush (v := 9999) hx hb dX3_search_65 (by decide) ?_
        obtain ⟨hp, hv⟩ := hv
        refine x_callv (wr := [(s0, .inr (4, [.int gs00_3, .int gs01_4])), (n, .inr (1, [.ref n1, .ref n2, .ref n3, .ref n4, .ref n5, .ref n6, .ref n7, .int lo, .int mi, .int sd])), aI G n1 9 ht, aI G n2 8 wm, aI G n3 8 se, aI G n4 8 cd, aI G n5 8 sl, aI G n6 8 od, aI G n7 72 ow]) (w' := fun (u : (Nat → Int32) × (Nat → Int32) × (Int32) × (Int32)) => [(q, .inr (3, [.ref s0, .ref q1, .ref q2, .ref q3, .ref q4, .int u.2.2.1, .int u.2.2.2])), aI G q1 40 fq1_1, aI G q2 40 fq2_2, aI G q3 4 u.1, aI G q4 4 u.2.1, (s0, .inr (4, [.int gs00_3, .int gs01_4])), (t, .inr (6, [.int ns, .int np, .int fu, .int fd, .int fi, .ref t1, .ref t2, .ref t3, .ref t4, .ref t5, .ref t6])), aI G t1 9 sz_, aI G t2 9 pt, aI G t3 9 fh, aI G t4 8 kd, aI G t5 8 nd, aI G t6 8 fw, (n, .inr (1, [.ref n1, .ref n2, .ref n3, .ref n4, .ref n5, .ref n6, .ref n7, .int lo, .int mi, .int sd])), aI G n1 9 ht, aI G n2 8 wm, aI G n3 8 se, aI G n4 8 cd, aI G n5 8 sl, aI G n6 8 od, aI G n7 72 ow]) (x_runV (As := [.ref t, .int 0, .int 0, .int 0, .int 9999]) (rest := []) (n := 5) (C := RX3) (ci := 3) ⟨hx, hb, hml, hown, hts⟩ (k_X3_choose 5 l G q q1 q2 q3 q4 t t1 t2 t3 t4 t5 t6 _ s0 241 bl fq1_1 fq2_2 ch be ns np fu fd fi sz_ pt fh kd nd fw 0 0 0 9999 hp) gX3_search_X3_choose rfl (by decide +kernel) ⟨Nat.le_trans (Nat.le_of_ble_eq_true rfl) hRf, Nat.le_trans (Nat.le_of_ble_eq_true rfl) hRl⟩ hKK hSS hS hA hP hD [0, 1, 2, 3, 4, 6, 7, 8, 9, 10, 11, 12] (by decide) rfl rfl rfl 0 rfl rfl hl.1 rfl (Nat.le_of_ble_eq_true rfl) dX3_search_68) hP hD hS hA [0, 1, 2, 3, 4, 6, 7, 8, 9, 10, 11, 12] [5, 13, 14, 15, 16, 17, 18, 19, 20] [9, 10, 11, 12, 13, 0, 14, 15, 16, 17, 18, 19, 20, 1, 2, 3, 4, 5, 6, 7, 8] rfl rfl (by decide) (by decide) (by decide) (fun _ => rfl) (fun  u H locs hw hP hD hS => ?_)
        obtain ⟨ch2_12, be2_13, bc2_14, bl2_15⟩ := u
        have hP : va_P G.1 vwCl [(q, .inr (3, [.ref s0, .ref q1, .ref q2, .ref q3, .ref q4, .int bc2_14, .int bl2_15])), aI G q1 40 fq1_1, aI G q2 40 fq2_2, aI G q3 4 ch2_12, aI G q4 4 be2_13, (s0, .inr (4, [.int gs00_3, .int gs01_4])), (t, .inr (6, [.int ns, .int np, .int fu, .int fd, .int fi, .ref t1, .ref t2, .ref t3, .ref t4, .ref t5, .ref t6])), aI G t1 9 sz_, aI G t2 9 pt, aI G t3 9 fh, aI G t4 8 kd, aI G t5 8 nd, aI G t6 8 fw, (n, .inr (1, [.ref n1, .ref n2, .ref n3, .ref n4, .ref n5, .ref n6, .ref n7, .int lo, .int mi, .int sd])), aI G n1 9 ht, aI G n2 8 wm, aI G n3 8 se, aI G n4 8 cd, aI G n5 8 sl, aI G n6 8 od, aI G n7 72 ow] H := hP
        have hD : va_D A [(q, .inr (3, [.ref s0, .ref q1, .ref q2, .ref q3, .ref q4, .int bc2_14, .int bl2_15])), aI G q1 40 fq1_1, aI G q2 40 fq2_2, aI G q3 4 ch2_12, aI G q4 4 be2_13, (s0, .inr (4, [.int gs00_3, .int gs01_4])), (t, .inr (6, [.int ns, .int np, .int fu, .int fd, .int fi, .ref t1, .ref t2, .ref t3, .ref t4, .ref t5, .ref t6])), aI G t1 9 sz_, aI G t2 9 pt, aI G t3 9 fh, aI G t4 8 kd, aI G t5 8 nd, aI G t6 8 fw, (n, .inr (1, [.ref n1, .ref n2, .ref n3, .ref n4, .ref n5, .ref n6, .ref n7, .int lo, .int mi, .int sd])), aI G n1 9 ht, aI G n2 8 wm, aI G n3 8 se, aI G n4 8 cd, aI G n5 8 sl, aI G n6 8 od, aI G n7 72 ow] := hD
        have hv := hv ch2_12 be2_13 bc2_14 bl2_15 hw
        exact x_vret (fq1_1, fq2_2, ch2_12, be2_13, bc2_14, bl2_15, gs00_3, gs01_4) hQ hx hb hr hlocks hS dX3_search_71 hv hP hD
      · have hv := hv.2 hc_10
        refine lv_iload hx hb dX3_search_12 (lv_at hl 0 rfl) ?_
        refine lv_iconst (v := 4) hx hb dX3_search_14 (by decide) ?_
        refine lv_icmp_ge (tgt := 53) hx hb dX3_search_15 (by decide) (fun hc_16 => ?_) (fun hc_16 => ?_)
        · have hv := hv.1 hc_16
          refine lv_aload_n hx hb dX3_search_53 rfl (lv_at hl 1 rfl) ?_
          refine lv_sipush (v := 241) hx hb dX3_search_54 (by decide) ?_
          refine va_put (D := G.1) (ci := 3) (v := .int 241) (ty := .int) (C := RX3) (T := TX3) (N := 7) hx hb hts hinX3 tyX3 tyX3_ok nmX3 hown hKK.1 hP hD hS 0 rfl rfl 5 (by decide) kl44 (fun _ h9 => h9) rfl (by decide +kernel) rfl rfl (Nat.le_of_ble_eq_true rfl) dX3_search_57 (fun H locs hP hD hS => ?_)
          have hP : va_P G.1 vwCl [(q, .inr (3, [.ref s0, .ref q1, .ref q2, .ref q3, .ref q4, .int 241, .int bl])), aI G q1 40 fq1_1, aI G q2 40 fq2_2, aI G q3 4 ch, aI G q4 4 be, (s0, .inr (4, [.int gs00_3, .int gs01_4])), (t, .inr (6, [.int ns, .int np, .int fu, .int fd, .int fi, .ref t1, .ref t2, .ref t3, .ref t4, .ref t5, .ref t6])), aI G t1 9 sz_, aI G t2 9 pt, aI G t3 9 fh, aI G t4 8 kd, aI G t5 8 nd, aI G t6 8 fw, (n, .inr (1, [.ref n1, .ref n2, .ref n3, .ref n4, .ref n5, .ref n6, .ref n7, .int lo, .int mi, .int sd])), aI G n1 9 ht, aI G n2 8 wm, aI G n3 8 se, aI G n4 8 cd, aI G n5 8 sl, aI G n6 8 od, aI G n7 72 ow] H := hP
          have hD : va_D A [(q, .inr (3, [.ref s0, .ref q1, .ref q2, .ref q3, .ref q4, .int 241, .int bl])), aI G q1 40 fq1_1, aI G q2 40 fq2_2, aI G q3 4 ch, aI G q4 4 be, (s0, .inr (4, [.int gs00_3, .int gs01_4])), (t, .inr (6, [.int ns, .int np, .int fu, .int fd, .int fi, .ref t1, .ref t2, .ref t3, .ref t4, .ref t5, .ref t6])), aI G t1 9 sz_, aI G t2 9 pt, aI G t3 9 fh, aI G t4 8 kd, aI G t5 8 nd, aI G t6 8 fw, (n, .inr (1, [.ref n1, .ref n2, .ref n3, .ref n4, .ref n5, .ref n6, .ref n7, .int lo, .int mi, .int sd])), aI G n1 9 ht, aI G n2 8 wm, aI G n3 8 se, aI G n4 8 cd, aI G n5 8 sl, aI G n6 8 od, aI G n7 72 ow] := hD
          refine lv_aload_n hx hb dX3_search_60 rfl (lv_at hl 1 rfl) ?_
          refine lv_aload_n hx hb dX3_search_61 rfl (lv_at hl 2 rfl) ?_
          refine lv_iconst (v := 0) hx hb dX3_search_62 (by decide) ?_
          refine lv_iconst (v := 0) hx hb dX3_search_63 (by decide) ?_
          refine lv_iconst (v := 0) hx hb dX3_search_64 (by decide) ?_
          refine lv_sipush (v := 9999) hx hb dX3_search_65 (by decide) ?_
          obtain ⟨hp, hv⟩ := hv
          refine x_callv (wr := [(s0, .inr (4, [.int gs00_3, .int gs01_4])), (n, .inr (1, [.ref n1, .ref n2, .ref n3, .ref n4, .ref n5, .ref n6, .ref n7, .int lo, .int mi, .int sd])), aI G n1 9 ht, aI G n2 8 wm, aI G n3 8 se, aI G n4 8 cd, aI G n5 8 sl, aI G n6 8 od, aI G n7 72 ow]) (w' := fun (u : (Nat → Int32) × (Nat → Int32) × (Int32) × (Int32)) => [(q, .inr (3, [.ref s0, .ref q1, .ref q2, .ref q3, .ref q4, .int u.2.2.1, .int u.2.2.2])), aI G q1 40 fq1_1, aI G q2 40 fq2_2, aI G q3 4 u.1, aI G q4 4 u.2.1, (s0, .inr (4, [.int gs00_3, .int gs01_4])), (t, .inr (6, [.int ns, .int np, .int fu, .int fd, .int fi, .ref t1, .ref t2, .ref t3, .ref t4, .ref t5, .ref t6])), aI G t1 9 sz_, aI G t2 9 pt, aI G t3 9 fh, aI G t4 8 kd, aI G t5 8 nd, aI G t6 8 fw, (n, .inr (1, [.ref n1, .ref n2, .ref n3, .ref n4, .ref n5, .ref n6, .ref n7, .int lo, .int mi, .int sd])), aI G n1 9 ht, aI G n2 8 wm, aI G n3 8 se, aI G n4 8 cd, aI G n5 8 sl, aI G n6 8 od, aI G n7 72 ow]) (x_runV (As := [.ref t, .int 0, .int 0, .int 0, .int 9999]) (rest := []) (n := 5) (C := RX3) (ci := 3) ⟨hx, hb, hml, hown, hts⟩ (k_X3_choose 5 l G q q1 q2 q3 q4 t t1 t2 t3 t4 t5 t6 _ s0 241 bl fq1_1 fq2_2 ch be ns np fu fd fi sz_ pt fh kd nd fw 0 0 0 9999 hp) gX3_search_X3_choose rfl (by decide +kernel) ⟨Nat.le_trans (Nat.le_of_ble_eq_true rfl) hRf, Nat.le_trans (Nat.le_of_ble_eq_true rfl) hRl⟩ hKK hSS hS hA hP hD [0, 1, 2, 3, 4, 6, 7, 8, 9, 10, 11, 12] (by decide) rfl rfl rfl 0 rfl rfl hl.1 rfl (Nat.le_of_ble_eq_true rfl) dX3_search_68) hP hD hS hA [0, 1, 2, 3, 4, 6, 7, 8, 9, 10, 11, 12] [5, 13, 14, 15, 16, 17, 18, 19, 20] [9, 10, 11, 12, 13, 0, 14, 15, 16, 17, 18, 19, 20, 1, 2, 3, 4, 5, 6, 7, 8] rfl rfl (by decide) (by decide) (by decide) (fun _ => rfl) (fun  u H locs hw hP hD hS => ?_)
          obtain ⟨ch2_18, be2_19, bc2_20, bl2_21⟩ := u
          have hP : va_P G.1 vwCl [(q, .inr (3, [.ref s0, .ref q1, .ref q2, .ref q3, .ref q4, .int bc2_20, .int bl2_21])), aI G q1 40 fq1_1, aI G q2 40 fq2_2, aI G q3 4 ch2_18, aI G q4 4 be2_19, (s0, .inr (4, [.int gs00_3, .int gs01_4])), (t, .inr (6, [.int ns, .int np, .int fu, .int fd, .int fi, .ref t1, .ref t2, .ref t3, .ref t4, .ref t5, .ref t6])), aI G t1 9 sz_, aI G t2 9 pt, aI G t3 9 fh, aI G t4 8 kd, aI G t5 8 nd, aI G t6 8 fw, (n, .inr (1, [.ref n1, .ref n2, .ref n3, .ref n4, .ref n5, .ref n6, .ref n7, .int lo, .int mi, .int sd])), aI G n1 9 ht, aI G n2 8 wm, aI G n3 8 se, aI G n4 8 cd, aI G n5 8 sl, aI G n6 8 od, aI G n7 72 ow] H := hP
          have hD : va_D A [(q, .inr (3, [.ref s0, .ref q1, .ref q2, .ref q3, .ref q4, .int bc2_20, .int bl2_21])), aI G q1 40 fq1_1, aI G q2 40 fq2_2, aI G q3 4 ch2_18, aI G q4 4 be2_19, (s0, .inr (4, [.int gs00_3, .int gs01_4])), (t, .inr (6, [.int ns, .int np, .int fu, .int fd, .int fi, .ref t1, .ref t2, .ref t3, .ref t4, .ref t5, .ref t6])), aI G t1 9 sz_, aI G t2 9 pt, aI G t3 9 fh, aI G t4 8 kd, aI G t5 8 nd, aI G t6 8 fw, (n, .inr (1, [.ref n1, .ref n2, .ref n3, .ref n4, .ref n5, .ref n6, .ref n7, .int lo, .int mi, .int sd])), aI G n1 9 ht, aI G n2 8 wm, aI G n3 8 se, aI G n4 8 cd, aI G n5 8 sl, aI G n6 8 od, aI G n7 72 ow] := hD
          have hv := hv ch2_18 be2_19 bc2_20 bl2_21 hw
          exact x_vret (fq1_1, fq2_2, ch2_18, be2_19, bc2_20, bl2_21, gs00_3, gs01_4) hQ hx hb hr hlocks hS dX3_search_71 hv hP hD
        · have hv := hv.2 hc_16
          refine lv_iconst (v := (-1)) hx hb dX3_search_18 (by decide) ?_
          refine lv_istore (lv' := [(5, .int (-1)), (4, .int x4_5), (0, .ref q), (1, .ref t), (2, .ref n), (3, .int mm)]) hx hb dX3_search_19 hl (by decide) rfl (fun ls hl => ?_)
          obtain ⟨I21_27, μ21_28, hi0, hs_37⟩ := hv
          have Lm_39 : ∀ (n_38 : Nat) (fq1_22 : (Nat → Int32)) (fq2_23 : (Nat → Int32)) (gs00_24 : Int32) (gs01_25 : Int32) (x5_26 : Int32) (H : Heap) (locs : List Loc) (ls : Array Slot), μ21_28 fq1_22 fq2_23 gs00_24 gs01_25 x5_26 < n_38 → I21_27 fq1_22 fq2_23 gs00_24 gs01_25 x5_26 → va_P G.1 vwCl [(q, .inr (3, [.ref s0, .ref q1, .ref q2, .ref q3, .ref q4, .int bc, .int bl])), aI G q1 40 fq1_22, aI G q2 40 fq2_23, aI G q3 4 ch, aI G q4 4 be, (s0, .inr (4, [.int gs00_24, .int gs01_25])), (t, .inr (6, [.int ns, .int np, .int fu, .int fd, .int fi, .ref t1, .ref t2, .ref t3, .ref t4, .ref t5, .ref t6])), aI G t1 9 sz_, aI G t2 9 pt, aI G t3 9 fh, aI G t4 8 kd, aI G t5 8 nd, aI G t6 8 fw, (n, .inr (1, [.ref n1, .ref n2, .ref n3, .ref n4, .ref n5, .ref n6, .ref n7, .int lo, .int mi, .int sd])), aI G n1 9 ht, aI G n2 8 wm, aI G n3 8 se, aI G n4 8 cd, aI G n5 8 sl, aI G n6 8 od, aI G n7 72 ow] H → va_D A [(q, .inr (3, [.ref s0, .ref q1, .ref q2, .ref q3, .ref q4, .int bc, .int bl])), aI G q1 40 fq1_22, aI G q2 40 fq2_23, aI G q3 4 ch, aI G q4 4 be, (s0, .inr (4, [.int gs00_24, .int gs01_25])), (t, .inr (6, [.int ns, .int np, .int fu, .int fd, .int fi, .ref t1, .ref t2, .ref t3, .ref t4, .ref t5, .ref t6])), aI G t1 9 sz_, aI G t2 9 pt, aI G t3 9 fh, aI G t4 8 kd, aI G t5 8 nd, aI G t6 8 fw, (n, .inr (1, [.ref n1, .ref n2, .ref n3, .ref n4, .ref n5, .ref n6, .ref n7, .int lo, .int mi, .int sd])), aI G n1 9 ht, aI G n2 8 wm, aI G n3 8 se, aI G n4 8 cd, aI G n5 8 sl, aI G n6 8 od, aI G n7 72 ow] → va_S A s.heap H locs → lv_has ls 6 [(5, .int x5_26), (4, .int x4_5), (0, .ref q), (1, .ref t), (2, .ref n), (3, .int mm)] → W p l e R s m args below meth c H locs 0 0 Q (F0 m 21 ls []) := by
            intro n_38
            induction n_38 with
            | zero => intro fq1_22 fq2_23 gs00_24 gs01_25 x5_26 H locs ls hm; exact absurd hm (Nat.not_lt_zero _)
            | succ n_38 ih_29 =>
              intro fq1_22 fq2_23 gs00_24 gs01_25 x5_26 H locs ls hI_30 hi hP hD hS hl
              have hv := hs_37 fq1_22 fq2_23 gs00_24 gs01_25 x5_26 hi
              refine lv_iload hx hb dX3_search_21 (lv_at hl 0 rfl) ?_
              refine lv_aload_n hx hb dX3_search_23 rfl (lv_at hl 3 rfl) ?_
              refine va_get (D := G.1) (ci := 6) (v := .int ns) (C := RX6) (T := TX6) (N := 11) hx hb hts hinX6 hown hKK.1 hP 6 rfl rfl 0 (by decide) kl37 (fun _ h9 => h9) rfl dX3_search_24 ?_
              refine lv_icmp_ge (tgt := 47) hx hb dX3_search_27 (by decide) (fun hc_31 => ?_) (fun hc_31 => ?_)
              · have hv := hv.1 hc_31
                refine lv_iinc (v := (x4_5 + 1)) (lv' := [(4, .int (x4_5 + 1)), (5, .int x5_26), (0, .ref q), (1, .ref t), (2, .ref n), (3, .int mm)]) hx hb dX3_search_47 hl (k := 1) rfl rfl (by decide) rfl (fun ls hl => ?_)
                refine lv_goto (tgt := 3) hx hb dX3_search_50 (by decide) ?_
                exact ih_8 _ _ _ _ _ _ _ _ (Nat.lt_of_lt_of_le hv.2 (Nat.le_of_lt_succ hI_9)) hv.1 hP hD hS (lv_sub hl [0, 2, 3, 4, 5] rfl)
              · have hv := hv.2 hc_31
                refine lv_aload_n hx hb dX3_search_30 rfl (lv_at hl 2 rfl) ?_
                refine lv_aload_n hx hb dX3_search_31 rfl (lv_at hl 3 rfl) ?_
                refine lv_aload_n hx hb dX3_search_32 rfl (lv_at hl 4 rfl) ?_
                refine lv_iload_n hx hb dX3_search_33 rfl (lv_at hl 5 rfl) ?_
                refine lv_iload hx hb dX3_search_34 (lv_at hl 1 rfl) ?_
                refine lv_iload hx hb dX3_search_36 (lv_at hl 0 rfl) ?_
                obtain ⟨hp, hv⟩ := hv
                refine x_callv (wr := []) (w' := fun (u : (Nat → Int32) × (Nat → Int32) × (Int32) × (Int32)) => [(q, .inr (3, [.ref s0, .ref q1, .ref q2, .ref q3, .ref q4, .int bc, .int bl])), aI G q1 40 u.1, aI G q2 40 u.2.1, aI G q3 4 ch, aI G q4 4 be, (s0, .inr (4, [.int u.2.2.1, .int u.2.2.2])), (t, .inr (6, [.int ns, .int np, .int fu, .int fd, .int fi, .ref t1, .ref t2, .ref t3, .ref t4, .ref t5, .ref t6])), aI G t1 9 sz_, aI G t2 9 pt, aI G t3 9 fh, aI G t4 8 kd, aI G t5 8 nd, aI G t6 8 fw, (n, .inr (1, [.ref n1, .ref n2, .ref n3, .ref n4, .ref n5, .ref n6, .ref n7, .int lo, .int mi, .int sd])), aI G n1 9 ht, aI G n2 8 wm, aI G n3 8 se, aI G n4 8 cd, aI G n5 8 sl, aI G n6 8 od, aI G n7 72 ow]) (x_runV (As := [.ref t, .ref n, .int mm, .int x4_5, .int x5_26]) (rest := []) (n := 5) (C := RX3) (ci := 3) ⟨hx, hb, hml, hown, hts⟩ (k_X3_trySeat l G q q1 q2 q3 q4 s0 t t1 t2 t3 t4 t5 t6 n n1 n2 n3 n4 n5 n6 n7 _ bc bl fq1_22 fq2_23 ch be gs00_24 gs01_25 ns np fu fd fi sz_ pt fh kd nd fw ht wm se cd sl od ow lo mi sd mm x4_5 x5_26 hp) gX3_search_X3_trySeat rfl (by decide +kernel) ⟨Nat.le_trans (Nat.le_of_ble_eq_true rfl) hRf, Nat.le_trans (Nat.le_of_ble_eq_true rfl) hRl⟩ hKK hSS hS hA hP hD [0, 1, 2, 3, 4, 5, 6, 7, 8, 9, 10, 11, 12, 13, 14, 15, 16, 17, 18, 19, 20] (by decide) rfl rfl rfl 0 rfl rfl hl.1 rfl (Nat.le_of_ble_eq_true rfl) dX3_search_38) hP hD hS hA [0, 1, 2, 3, 4, 5, 6, 7, 8, 9, 10, 11, 12, 13, 14, 15, 16, 17, 18, 19, 20] [] [0, 1, 2, 3, 4, 5, 6, 7, 8, 9, 10, 11, 12, 13, 14, 15, 16, 17, 18, 19, 20] rfl rfl (by decide) (by decide) (by decide) (fun _ => rfl) (fun  u H locs hw hP hD hS => ?_)
                obtain ⟨co2_33, wo2_34, sw2_35, sh2_36⟩ := u
                have hP : va_P G.1 vwCl [(q, .inr (3, [.ref s0, .ref q1, .ref q2, .ref q3, .ref q4, .int bc, .int bl])), aI G q1 40 co2_33, aI G q2 40 wo2_34, aI G q3 4 ch, aI G q4 4 be, (s0, .inr (4, [.int sw2_35, .int sh2_36])), (t, .inr (6, [.int ns, .int np, .int fu, .int fd, .int fi, .ref t1, .ref t2, .ref t3, .ref t4, .ref t5, .ref t6])), aI G t1 9 sz_, aI G t2 9 pt, aI G t3 9 fh, aI G t4 8 kd, aI G t5 8 nd, aI G t6 8 fw, (n, .inr (1, [.ref n1, .ref n2, .ref n3, .ref n4, .ref n5, .ref n6, .ref n7, .int lo, .int mi, .int sd])), aI G n1 9 ht, aI G n2 8 wm, aI G n3 8 se, aI G n4 8 cd, aI G n5 8 sl, aI G n6 8 od, aI G n7 72 ow] H := hP
                have hD : va_D A [(q, .inr (3, [.ref s0, .ref q1, .ref q2, .ref q3, .ref q4, .int bc, .int bl])), aI G q1 40 co2_33, aI G q2 40 wo2_34, aI G q3 4 ch, aI G q4 4 be, (s0, .inr (4, [.int sw2_35, .int sh2_36])), (t, .inr (6, [.int ns, .int np, .int fu, .int fd, .int fi, .ref t1, .ref t2, .ref t3, .ref t4, .ref t5, .ref t6])), aI G t1 9 sz_, aI G t2 9 pt, aI G t3 9 fh, aI G t4 8 kd, aI G t5 8 nd, aI G t6 8 fw, (n, .inr (1, [.ref n1, .ref n2, .ref n3, .ref n4, .ref n5, .ref n6, .ref n7, .int lo, .int mi, .int sd])), aI G n1 9 ht, aI G n2 8 wm, aI G n3 8 se, aI G n4 8 cd, aI G n5 8 sl, aI G n6 8 od, aI G n7 72 ow] := hD
                have hv := hv co2_33 wo2_34 sw2_35 sh2_36 hw
                refine lv_iinc (v := (x5_26 + 1)) (lv' := [(5, .int (x5_26 + 1)), (4, .int x4_5), (0, .ref q), (1, .ref t), (2, .ref n), (3, .int mm)]) hx hb dX3_search_41 hl (k := 0) rfl rfl (by decide) rfl (fun ls hl => ?_)
                refine lv_goto (tgt := 21) hx hb dX3_search_44 (by decide) ?_
                exact ih_29 _ _ _ _ _ _ _ _ (Nat.lt_of_lt_of_le hv.2 (Nat.le_of_lt_succ hI_30)) hv.1 hP hD hS hl
          exact Lm_39 _ _ _ _ _ _ _ _ _ (Nat.lt_succ_self _) hi0 hP hD hS hl
  exact Lm_42 _ _ _ _ _ _ _ _ _ (Nat.lt_succ_self _) hi0 hP hD hS hl
theorem k_X3_search (l : Launch) (G : Gt) (q q1 q2 q3 q4 s0 t t1 t2 t3 t4 t5 t6 n n1 n2 n3 n4 n5 n6 n7 : Nat) (sz : Nat) (bc : Int32) (bl : Int32) (co : Nat → Int32) (wo : Nat → Int32) (ch : Nat → Int32) (be : Nat → Int32) (sw : Int32) (sh : Int32) (ns : Int32) (np : Int32) (fu : Int32) (fd : Int32) (fi : Int32) (sz_ : Nat → Int32) (pt : Nat → Int32) (fh : Nat → Int32) (kd : Nat → Int32) (nd : Nat → Int32) (fw : Nat → Int32) (ht : Nat → Int32) (wm : Nat → Int32) (se : Nat → Int32) (cd : Nat → Int32) (sl : Nat → Int32) (od : Nat → Int32) (ow : Nat → Int32) (lo : Int32) (mi : Int32) (sd : Int32) (mm : Int32) (hp : True) : MetV l yX3_search wsX3_search 8 220 G [.ref q, .ref t, .ref n, .int mm] [(q, .inr (3, [.ref s0, .ref q1, .ref q2, .ref q3, .ref q4, .int bc, .int bl])), aI G q1 40 co, aI G q2 40 wo, aI G q3 4 ch, aI G q4 4 be, (s0, .inr (4, [.int sw, .int sh])), (t, .inr (6, [.int ns, .int np, .int fu, .int fd, .int fi, .ref t1, .ref t2, .ref t3, .ref t4, .ref t5, .ref t6])), aI G t1 9 sz_, aI G t2 9 pt, aI G t3 9 fh, aI G t4 8 kd, aI G t5 8 nd, aI G t6 8 fw, (n, .inr (1, [.ref n1, .ref n2, .ref n3, .ref n4, .ref n5, .ref n6, .ref n7, .int lo, .int mi, .int sd])), aI G n1 9 ht, aI G n2 8 wm, aI G n3 8 se, aI G n4 8 cd, aI G n5 8 sl, aI G n6 8 od, aI G n7 72 ow] sz (fun (u : (Nat → Int32) × (Nat → Int32) × (Nat → Int32) × (Nat → Int32) × (Int32) × (Int32) × (Int32) × (Int32)) => True) (fun (u : (Nat → Int32) × (Nat → Int32) × (Nat → Int32) × (Nat → Int32) × (Int32) × (Int32) × (Int32) × (Int32)) => [(q, .inr (3, [.ref s0, .ref q1, .ref q2, .ref q3, .ref q4, .int u.2.2.2.2.1, .int u.2.2.2.2.2.1])), aI G q1 40 u.1, aI G q2 40 u.2.1, aI G q3 4 u.2.2.1, aI G q4 4 u.2.2.2.1, (s0, .inr (4, [.int u.2.2.2.2.2.2.1, .int u.2.2.2.2.2.2.2])), (t, .inr (6, [.int ns, .int np, .int fu, .int fd, .int fi, .ref t1, .ref t2, .ref t3, .ref t4, .ref t5, .ref t6])), aI G t1 9 sz_, aI G t2 9 pt, aI G t3 9 fh, aI G t4 8 kd, aI G t5 8 nd, aI G t6 8 fw, (n, .inr (1, [.ref n1, .ref n2, .ref n3, .ref n4, .ref n5, .ref n6, .ref n7, .int lo, .int mi, .int sd])), aI G n1 9 ht, aI G n2 8 wm, aI G n3 8 se, aI G n4 8 cd, aI G n5 8 sl, aI G n6 8 od, aI G n7 72 ow]) :=
  c_X3_search l G q q1 q2 q3 q4 s0 t t1 t2 t3 t4 t5 t6 n n1 n2 n3 n4 n5 n6 n7 sz bc bl co wo ch be sw sh ns np fu fd fi sz_ pt fh kd nd fw ht wm se cd sl od ow lo mi sd mm (by
    sorry)

set_option maxHeartbeats 4000000 in
set_option maxRecDepth 100000 in
theorem c_X2_keepBest (l : Launch) (G : Gt) (g g1 g2 g3 : Nat) (sz : Nat) (s0 : Nat) (gs : Int32) (gm : Int32) (gb : Int32) (go : Nat → Int32) (gz : Nat → Int32) (gf : Nat → Int32) (x : Int32) (hv : (((va_cpy go gz 0 0 6) : Nat → Int32) = va_cpy go gz 0 0 6) ∧ (x : Int32) = x) : MetV l yX2_keepBest wsX2_keepBest 1 30 G [.ref g, .int x] [(g, .inr (2, [.ref s0, .ref g1, .ref g2, .ref g3, .int gs, .int gm, .int gb])), aI G g1 6 go, aI G g2 6 gz, aI G g3 256 gf] sz (fun (u : (Nat → Int32) × (Int32)) => ((u.1 : Nat → Int32) = va_cpy go gz 0 0 6) ∧ (u.2 : Int32) = x) (fun (u : (Nat → Int32) × (Int32)) => [(g, .inr (2, [.ref s0, .ref g1, .ref g2, .ref g3, .int gs, .int gm, .int u.2])), aI G g1 6 go, aI G g2 6 u.1, aI G g3 256 gf]) := by
  refine x_startV (cc := cX2_keepBest) (maxL := 2) (ret := none) (by decide) rfl (Nat.le_of_ble_eq_true rfl) ?_
  intro p e s m args below meth c A R Q ls hRf hRl hQ C hP hD hS hA hSS hl
  obtain ⟨hx, hb, hr, hml, hown, hts, hlocks, hKK⟩ := C
  have hown : s.vm.findClass RX2 = some m.cls := hown
  have hl : lv_has ls 2 [(0, .ref g), (1, .int x)] := hl
  have hinX2 : ∀ w ∈ u_ws RX2 TX2 7, w ∈ wsX2_keepBest := by decide +kernel
  have ka_i := hts (.initialized "java/lang/System") (by decide +kernel)
  have ka_n := hts (.native arraycopyName) (by decide +kernel)
  have ka_s := hts (.static arraycopyName) (by decide +kernel)
  have kl18 := hts (.fieldLink RX2 18 "WarmStones$Passing" "order" "[I") (by decide +kernel)
  have kl22 := hts (.fieldLink RX2 22 "WarmStones$Passing" "best" "[I") (by decide +kernel)
  have kl44 := hts (.fieldLink RX2 44 "WarmStones$Passing" "bestHeat" "I") (by decide +kernel)
  have kl88 := hts (.methodLink RX2 88 arraycopyName) (by decide +kernel)
  refine lv_aload_n hx hb dX2_keepBest_0 rfl (lv_at hl 0 rfl) ?_
  refine lv_iload_n hx hb dX2_keepBest_1 rfl (lv_at hl 1 rfl) ?_
  refine va_put (D := G.1) (ci := 2) (v := .int x) (ty := .int) (C := RX2) (T := TX2) (N := 7) hx hb hts hinX2 tyX2 tyX2_ok nmX2 hown hKK.1 hP hD hS 0 rfl rfl 6 (by decide) kl44 (fun _ h9 => h9) rfl (by decide +kernel) rfl rfl (Nat.le_of_ble_eq_true rfl) dX2_keepBest_2 (fun H locs hP hD hS => ?_)
  have hP : va_P G.1 vwCl [(g, .inr (2, [.ref s0, .ref g1, .ref g2, .ref g3, .int gs, .int gm, .int x])), aI G g1 6 go, aI G g2 6 gz, aI G g3 256 gf] H := hP
  have hD : va_D A [(g, .inr (2, [.ref s0, .ref g1, .ref g2, .ref g3, .int gs, .int gm, .int x])), aI G g1 6 go, aI G g2 6 gz, aI G g3 256 gf] := hD
  refine lv_aload_n hx hb dX2_keepBest_5 rfl (lv_at hl 0 rfl) ?_
  refine va_get (D := G.1) (ci := 2) (v := .ref g1) (C := RX2) (T := TX2) (N := 7) hx hb hts hinX2 hown hKK.1 hP 0 rfl rfl 1 (by decide) kl18 (fun _ h9 => h9) rfl dX2_keepBest_6 ?_
  refine lv_iconst (v := 0) hx hb dX2_keepBest_9 (by decide) ?_
  refine lv_aload_n hx hb dX2_keepBest_10 rfl (lv_at hl 0 rfl) ?_
  refine va_get (D := G.1) (ci := 2) (v := .ref g2) (C := RX2) (T := TX2) (N := 7) hx hb hts hinX2 hown hKK.1 hP 0 rfl rfl 2 (by decide) kl22 (fun _ h9 => h9) rfl dX2_keepBest_11 ?_
  refine lv_iconst (v := 0) hx hb dX2_keepBest_14 (by decide) ?_
  refine lv_bipush (v := 6) hx hb dX2_keepBest_15 (by decide) ?_
  refine va_copyi (ty := .int) hx hb (hml.trans hl.1.symm) hown kl88 ka_n ka_s ka_i hKK.1 hP hD hS 1 2 0 0 rfl rfl rfl rfl rfl (by decide) (by decide) (by decide) (by decide) (by decide) (fun _ _ => rfl) (Nat.le_trans (Nat.le_of_ble_eq_true rfl) hRf) (Nat.le_trans (by decide) hRl) dX2_keepBest_17 (fun H locs hP hD hS => ?_)
  have hP : va_P G.1 vwCl [(g, .inr (2, [.ref s0, .ref g1, .ref g2, .ref g3, .int gs, .int gm, .int x])), aI G g1 6 go, aI G g2 6 (va_cpy go gz 0 0 6), aI G g3 256 gf] H := hP
  have hD : va_D A [(g, .inr (2, [.ref s0, .ref g1, .ref g2, .ref g3, .int gs, .int gm, .int x])), aI G g1 6 go, aI G g2 6 (va_cpy go gz 0 0 6), aI G g3 256 gf] := hD
  exact x_vret ((va_cpy go gz 0 0 6), x) hQ hx hb hr hlocks hS dX2_keepBest_20 hv hP hD
theorem k_X2_keepBest (l : Launch) (G : Gt) (g g1 g2 g3 : Nat) (sz : Nat) (s0 : Nat) (gs : Int32) (gm : Int32) (gb : Int32) (go : Nat → Int32) (gz : Nat → Int32) (gf : Nat → Int32) (x : Int32) : MetV l yX2_keepBest wsX2_keepBest 1 30 G [.ref g, .int x] [(g, .inr (2, [.ref s0, .ref g1, .ref g2, .ref g3, .int gs, .int gm, .int gb])), aI G g1 6 go, aI G g2 6 gz, aI G g3 256 gf] sz (fun (u : (Nat → Int32) × (Int32)) => ((u.1 : Nat → Int32) = va_cpy go gz 0 0 6) ∧ (u.2 : Int32) = x) (fun (u : (Nat → Int32) × (Int32)) => [(g, .inr (2, [.ref s0, .ref g1, .ref g2, .ref g3, .int gs, .int gm, .int u.2])), aI G g1 6 go, aI G g2 6 u.1, aI G g3 256 gf]) :=
  c_X2_keepBest l G g g1 g2 g3 sz s0 gs gm gb go gz gf x (by
    exact ⟨rfl, rfl⟩)

set_option maxHeartbeats 4000000 in
set_option maxRecDepth 100000 in
theorem c_X2_answer (l : Launch) (G : Gt) (g g1 g2 g3 : Nat) (sz : Nat) (s0 : Nat) (gs : Int32) (gm : Int32) (gb : Int32) (go : Nat → Int32) (gz : Nat → Int32) (gf : Nat → Int32) (x : Int32) (hv : (¬ x = 0 → (¬ (¬ (x - 1) < 0 ∧ ¬ 5 < (x - 1)) → ((-1000000002) : Int32) = (if x = 0 then gb else if ¬ x - 1 < 0 ∧ ¬ 5 < x - 1 then gz (x - 1).toNatClampNeg else (-1000000002))) ∧ (¬ (x - 1) < 0 ∧ ¬ 5 < (x - 1) → (vp_in (x - 1) 6) ∧ (((gz (x - 1).toNatClampNeg) : Int32) = (if x = 0 then gb else if ¬ x - 1 < 0 ∧ ¬ 5 < x - 1 then gz (x - 1).toNatClampNeg else (-1000000002))))) ∧ (x = 0 → (gb : Int32) = (if x = 0 then gb else if ¬ x - 1 < 0 ∧ ¬ 5 < x - 1 then gz (x - 1).toNatClampNeg else (-1000000002)))) : MetI l yX2_answer wsX2_answer 1 22 G [.ref g, .int x] [(g, .inr (2, [.ref s0, .ref g1, .ref g2, .ref g3, .int gs, .int gm, .int gb])), aI G g1 6 go, aI G g2 6 gz, aI G g3 256 gf] sz (fun (r : Int32) (_ : Unit) => (r : Int32) = (if x = 0 then gb else if ¬ x - 1 < 0 ∧ ¬ 5 < x - 1 then gz (x - 1).toNatClampNeg else (-1000000002))) (fun (_ : Unit) => [(g, .inr (2, [.ref s0, .ref g1, .ref g2, .ref g3, .int gs, .int gm, .int gb])), aI G g1 6 go, aI G g2 6 gz, aI G g3 256 gf]) := by
  refine x_startI (cc := cX2_answer) (maxL := 2) (ret := (some .int)) (by decide) rfl (Nat.le_of_ble_eq_true rfl) ?_
  intro p e s m args below meth c A R Q ls hRf hRl hQ C hP hD hS hA hSS hl
  obtain ⟨hx, hb, hr, hml, hown, hts, hlocks, hKK⟩ := C
  have hown : s.vm.findClass RX2 = some m.cls := hown
  have hl : lv_has ls 2 [(0, .ref g), (1, .int x)] := hl
  have hinX2 : ∀ w ∈ u_ws RX2 TX2 7, w ∈ wsX2_answer := by decide +kernel
  have kl22 := hts (.fieldLink RX2 22 "WarmStones$Passing" "best" "[I") (by decide +kernel)
  have kl44 := hts (.fieldLink RX2 44 "WarmStones$Passing" "bestHeat" "I") (by decide +kernel)
  have kl51 := hts (.constant RX2 51 (-1000000002)) (by decide +kernel)
  have kn_iRX7 := hts (.initialized RX7) (by decide +kernel)
  have kn_sX7_within := hts (.static yX7_within) (by decide +kernel)
  refine lv_iload_n hx hb dX2_answer_0 rfl (lv_at hl 1 rfl) ?_
  refine lv_if_ne (tgt := 9) hx hb dX2_answer_1 (by decide) (fun hc_1 => ?_) (fun hc_1 => ?_)
  · have hv := hv.1 hc_1
    refine lv_iload_n hx hb dX2_answer_9 rfl (lv_at hl 1 rfl) ?_
    refine lv_iconst (v := 1) hx hb dX2_answer_10 (by decide) ?_
    refine lv_isub hx hb dX2_answer_11 ?_
    refine lv_iconst (v := 0) hx hb dX2_answer_12 (by decide) ?_
    refine lv_iconst (v := 5) hx hb dX2_answer_13 (by decide) ?_
    refine x_calliR (x_runSN (As := [.int (x - 1), .int 0, .int 5]) (rest := []) (n := 3) ⟨hx, hb, hml, hown, hts⟩ (k_X7_within l G  _ (x - 1) 0 5) gX2_answer_X7_within_n47 rfl kn_iRX7 kn_sX7_within (by decide) (by decide +kernel) ⟨Nat.le_trans (Nat.le_of_ble_eq_true rfl) hRf, Nat.le_trans (Nat.le_of_ble_eq_true rfl) hRl⟩ hKK hSS hS hA hP hD [] (by decide) rfl rfl hl.1 rfl (Nat.le_of_ble_eq_true rfl) dX2_answer_14) hP hD hS hA [] rfl (fun r_2 _ H locs hw hP hS => ?_)
    replace hw := hw.symm; subst hw
    refine lv_if_eq (tgt := 31) hx hb dX2_answer_17 (by decide) (fun hc_3 => ?_) (fun hc_3 => ?_)
    · have hv := hv.1 (tv_eq.mp hc_3)
      refine lv_ldc (v := (-1000000002)) hx hb hown kl51 dX2_answer_31 ?_
      exact x_iret (v := (-1000000002)) () hQ hx hb hr hlocks hS dX2_answer_33 hv hP hD
    · have hv := hv.2 (tv_eqn.mp hc_3)
      refine lv_aload_n hx hb dX2_answer_20 rfl (lv_at hl 0 rfl) ?_
      refine va_get (D := G.1) (ci := 2) (v := .ref g2) (C := RX2) (T := TX2) (N := 7) hx hb hts hinX2 hown hKK.1 hP 0 rfl rfl 2 (by decide) kl22 (fun _ h9 => h9) rfl dX2_answer_21 ?_
      refine lv_iload_n hx hb dX2_answer_24 rfl (lv_at hl 1 rfl) ?_
      refine lv_iconst (v := 1) hx hb dX2_answer_25 (by decide) ?_
      refine lv_isub hx hb dX2_answer_26 ?_
      obtain ⟨hin, hv⟩ := hv
      refine va_iald hx hb hKK.1 hP 2 0 rfl rfl hin dX2_answer_27 ?_
      refine lv_goto (tgt := 33) hx hb dX2_answer_28 (by decide) ?_
      exact x_iret (v := (gz (x - 1).toNatClampNeg)) () hQ hx hb hr hlocks hS dX2_answer_33 hv hP hD
  · have hv := hv.2 hc_1
    refine lv_aload_n hx hb dX2_answer_4 rfl (lv_at hl 0 rfl) ?_
    refine va_get (D := G.1) (ci := 2) (v := .int gb) (C := RX2) (T := TX2) (N := 7) hx hb hts hinX2 hown hKK.1 hP 0 rfl rfl 6 (by decide) kl44 (fun _ h9 => h9) rfl dX2_answer_5 ?_
    exact x_iret (v := gb) () hQ hx hb hr hlocks hS dX2_answer_8 hv hP hD
theorem k_X2_answer (l : Launch) (G : Gt) (g g1 g2 g3 : Nat) (sz : Nat) (s0 : Nat) (gs : Int32) (gm : Int32) (gb : Int32) (go : Nat → Int32) (gz : Nat → Int32) (gf : Nat → Int32) (x : Int32) : MetI l yX2_answer wsX2_answer 1 22 G [.ref g, .int x] [(g, .inr (2, [.ref s0, .ref g1, .ref g2, .ref g3, .int gs, .int gm, .int gb])), aI G g1 6 go, aI G g2 6 gz, aI G g3 256 gf] sz (fun (r : Int32) (_ : Unit) => (r : Int32) = (if x = 0 then gb else if ¬ x - 1 < 0 ∧ ¬ 5 < x - 1 then gz (x - 1).toNatClampNeg else (-1000000002))) (fun (_ : Unit) => [(g, .inr (2, [.ref s0, .ref g1, .ref g2, .ref g3, .int gs, .int gm, .int gb])), aI G g1 6 go, aI G g2 6 gz, aI G g3 256 gf]) :=
  c_X2_answer l G g g1 g2 g3 sz s0 gs gm gb go gz gf x (by
    sorry)

set_option maxHeartbeats 4000000 in
set_option maxRecDepth 100000 in
theorem c_X2_heatBehind (l : Launch) (G : Gt) (g g1 g2 g3 s0 t t1 t2 t3 t4 t5 t6 n n1 n2 n3 n4 n5 n6 n7 : Nat) (sz : Nat) (gs : Int32) (gm : Int32) (gb : Int32) (go : Nat → Int32) (gz : Nat → Int32) (gf : Nat → Int32) (sw : Int32) (sh : Int32) (ns : Int32) (np : Int32) (fu : Int32) (fd : Int32) (fi : Int32) (sz_ : Nat → Int32) (pt : Nat → Int32) (fh : Nat → Int32) (kd : Nat → Int32) (nd : Nat → Int32) (fw : Nat → Int32) (ht : Nat → Int32) (wm : Nat → Int32) (se : Nat → Int32) (cd : Nat → Int32) (sl : Nat → Int32) (od : Nat → Int32) (ow : Nat → Int32) (lo : Int32) (mi : Int32) (sd : Int32) (x : Int32) (pq : Int32) (y : Int32) (hv : (vp_in pq 8) ∧ ((vp_in pq 8) ∧ (∃ (I42_8 : Int32 → Int32 → Int32 → Prop) (μ42_9 : Int32 → Int32 → Int32 → Nat), I42_8 (if 0 < ((wm pq.toNatClampNeg) - ((x * gm) * (frostI (kd pq.toNatClampNeg) fu fd 0))) then ((wm pq.toNatClampNeg) - ((x * gm) * (frostI (kd pq.toNatClampNeg) fu fd 0))) else 0) y 0 ∧ (∀ (gs00_5 : Int32) (gs01_6 : Int32) (x7_7 : Int32), I42_8 gs00_5 gs01_6 x7_7 → (gm ≤ x7_7 → True) ∧ (¬ (gm ≤ x7_7) → (vp_in pq 8 ∧ (¬ gs < 0 → ¬ ns ≤ gs → vp_in gs 9)) ∧ (I42_8 (sitW ns fu fd (kd pq.toNatClampNeg) (sz_ gs.toNatClampNeg) gs gs00_5 gs01_6) (sitH ns (kd pq.toNatClampNeg) (sz_ gs.toNatClampNeg) gs gs00_5 gs01_6) (x7_7 + 1) ∧ μ42_9 (sitW ns fu fd (kd pq.toNatClampNeg) (sz_ gs.toNatClampNeg) gs gs00_5 gs01_6) (sitH ns (kd pq.toNatClampNeg) (sz_ gs.toNatClampNeg) gs gs00_5 gs01_6) (x7_7 + 1) < μ42_9 gs00_5 gs01_6 x7_7)))))) : MetI l yX2_heatBehind wsX2_heatBehind 3 70 G [.ref g, .ref t, .ref n, .int x, .int pq, .int y] [(g, .inr (2, [.ref s0, .ref g1, .ref g2, .ref g3, .int gs, .int gm, .int gb])), aI G g1 6 go, aI G g2 6 gz, aI G g3 256 gf, (s0, .inr (4, [.int sw, .int sh])), (t, .inr (6, [.int ns, .int np, .int fu, .int fd, .int fi, .ref t1, .ref t2, .ref t3, .ref t4, .ref t5, .ref t6])), aI G t1 9 sz_, aI G t2 9 pt, aI G t3 9 fh, aI G t4 8 kd, aI G t5 8 nd, aI G t6 8 fw, (n, .inr (1, [.ref n1, .ref n2, .ref n3, .ref n4, .ref n5, .ref n6, .ref n7, .int lo, .int mi, .int sd])), aI G n1 9 ht, aI G n2 8 wm, aI G n3 8 se, aI G n4 8 cd, aI G n5 8 sl, aI G n6 8 od, aI G n7 72 ow] sz (fun (r : Int32) (u : (Int32) × (Int32)) => True) (fun (u : (Int32) × (Int32)) => [(g, .inr (2, [.ref s0, .ref g1, .ref g2, .ref g3, .int gs, .int gm, .int gb])), aI G g1 6 go, aI G g2 6 gz, aI G g3 256 gf, (s0, .inr (4, [.int u.1, .int u.2])), (t, .inr (6, [.int ns, .int np, .int fu, .int fd, .int fi, .ref t1, .ref t2, .ref t3, .ref t4, .ref t5, .ref t6])), aI G t1 9 sz_, aI G t2 9 pt, aI G t3 9 fh, aI G t4 8 kd, aI G t5 8 nd, aI G t6 8 fw, (n, .inr (1, [.ref n1, .ref n2, .ref n3, .ref n4, .ref n5, .ref n6, .ref n7, .int lo, .int mi, .int sd])), aI G n1 9 ht, aI G n2 8 wm, aI G n3 8 se, aI G n4 8 cd, aI G n5 8 sl, aI G n6 8 od, aI G n7 72 ow]) := by
  refine x_startI (cc := cX2_heatBehind) (maxL := 8) (ret := (some .int)) (by decide) rfl (Nat.le_of_ble_eq_true rfl) ?_
  intro p e s m args below meth c A R Q ls hRf hRl hQ C hP hD hS hA hSS hl
  obtain ⟨hx, hb, hr, hml, hown, hts, hlocks, hKK⟩ := C
  have hown : s.vm.findClass RX2 = some m.cls := hown
  have hl : lv_has ls 8 [(0, .ref g), (1, .ref t), (2, .ref n), (3, .int x), (4, .int pq), (5, .int y)] := hl
  have hinX1 : ∀ w ∈ u_ws RX1 TX1 10, w ∈ wsX2_heatBehind := by decide +kernel
  have hinX2 : ∀ w ∈ u_ws RX2 TX2 7, w ∈ wsX2_heatBehind := by decide +kernel
  have hinX4 : ∀ w ∈ u_ws RX4 TX4 2, w ∈ wsX2_heatBehind := by decide +kernel
  have kl12 := hts (.fieldLink RX2 12 "WarmStones$Passing" "sitting" "LWarmStones$Sitting;") (by decide +kernel)
  have kl28 := hts (.fieldLink RX2 28 "WarmStones$Passing" "stone" "I") (by decide +kernel)
  have kl32 := hts (.fieldLink RX2 32 "WarmStones$Passing" "minutes" "I") (by decide +kernel)
  have kl69 := hts (.fieldLink RX2 69 "WarmStones$Night" "warmth" "[I") (by decide +kernel)
  have kl72 := hts (.methodLink RX2 72 Lib.Math.max.name) (by decide +kernel)
  have kl86 := hts (.fieldLink RX2 86 "WarmStones$Sitting" "heat" "I") (by decide +kernel)
  have km_c_max := hts (.code Lib.Math.max.name Lib.Math.max.code 2 (some .int)) (by decide +kernel)
  have km_i := hts (.initialized "java/lang/Math") (by decide +kernel)
  have km_s_max := hts (.static Lib.Math.max.name) (by decide +kernel)
  refine lv_iload_n hx hb dX2_heatBehind_0 rfl (lv_at hl 3 rfl) ?_
  refine lv_aload_n hx hb dX2_heatBehind_1 rfl (lv_at hl 0 rfl) ?_
  refine va_get (D := G.1) (ci := 2) (v := .int gm) (C := RX2) (T := TX2) (N := 7) hx hb hts hinX2 hown hKK.1 hP 0 rfl rfl 5 (by decide) kl32 (fun _ h9 => h9) rfl dX2_heatBehind_2 ?_
  refine lv_imul hx hb dX2_heatBehind_5 ?_
  refine lv_aload_n hx hb dX2_heatBehind_6 rfl (lv_at hl 1 rfl) ?_
  refine lv_iload hx hb dX2_heatBehind_7 (lv_at hl 4 rfl) ?_
  refine lv_iconst (v := 0) hx hb dX2_heatBehind_9 (by decide) ?_
  obtain ⟨hp, hv⟩ := hv
  refine x_calliR (x_runV (As := [.int pq, .int 0]) (rest := [.int (x * gm)]) (n := 2) (C := RX6) (ci := 6) ⟨hx, hb, hml, hown, hts⟩ (k_X6_frostOn l G t t1 t2 t3 t4 t5 t6 _ ns np fu fd fi sz_ pt fh kd nd fw pq 0 hp) gX2_heatBehind_X6_frostOn rfl (by decide +kernel) ⟨Nat.le_trans (Nat.le_of_ble_eq_true rfl) hRf, Nat.le_trans (Nat.le_of_ble_eq_true rfl) hRl⟩ hKK hSS hS hA hP hD [5, 6, 7, 8, 9, 10, 11] (by decide) rfl rfl rfl 5 rfl rfl hl.1 rfl (Nat.le_of_ble_eq_true rfl) dX2_heatBehind_10) hP hD hS hA [5, 6, 7, 8, 9, 10, 11] rfl (fun r_1 _ H locs hw hP hS => ?_)
  replace hw := hw.symm; subst hw
  refine lv_imul hx hb dX2_heatBehind_13 ?_
  refine lv_istore (lv' := [(6, .int ((x * gm) * (frostI (kd pq.toNatClampNeg) fu fd 0))), (0, .ref g), (1, .ref t), (2, .ref n), (3, .int x), (4, .int pq), (5, .int y)]) hx hb dX2_heatBehind_14 hl (by decide) rfl (fun ls hl => ?_)
  refine lv_aload_n hx hb dX2_heatBehind_16 rfl (lv_at hl 1 rfl) ?_
  refine va_get (D := G.1) (ci := 2) (v := .ref s0) (C := RX2) (T := TX2) (N := 7) hx hb hts hinX2 hown hKK.1 hP 0 rfl rfl 0 (by decide) kl12 (fun _ h9 => h9) rfl dX2_heatBehind_17 ?_
  refine lv_iconst (v := 0) hx hb dX2_heatBehind_20 (by decide) ?_
  refine lv_aload_n hx hb dX2_heatBehind_21 rfl (lv_at hl 3 rfl) ?_
  refine va_get (D := G.1) (ci := 1) (v := .ref n2) (C := RX1) (T := TX1) (N := 10) hx hb hts hinX1 hown hKK.1 hP 12 rfl rfl 1 (by decide) kl69 (fun _ h9 => h9) rfl dX2_heatBehind_22 ?_
  refine lv_iload hx hb dX2_heatBehind_25 (lv_at hl 5 rfl) ?_
  obtain ⟨hin, hv⟩ := hv
  refine va_iald hx hb hKK.1 hP 14 0 rfl rfl hin dX2_heatBehind_27 ?_
  refine lv_iload hx hb dX2_heatBehind_28 (lv_at hl 0 rfl) ?_
  refine lv_isub hx hb dX2_heatBehind_30 ?_
  refine va_mmax hx hb (hml.trans hl.1.symm) hown kl72 km_s_max km_i km_c_max (Nat.le_trans (Nat.le_of_ble_eq_true rfl) hRf) (Nat.le_trans (Nat.le_of_ble_eq_true rfl) hRl) (Nat.zero_le _) (Nat.zero_le _) dX2_heatBehind_31 ?_
  refine lv_iload hx hb dX2_heatBehind_34 (lv_at hl 6 rfl) ?_
  refine x_callv (wr := [(g, .inr (2, [.ref s0, .ref g1, .ref g2, .ref g3, .int gs, .int gm, .int gb])), aI G g1 6 go, aI G g2 6 gz, aI G g3 256 gf, (t, .inr (6, [.int ns, .int np, .int fu, .int fd, .int fi, .ref t1, .ref t2, .ref t3, .ref t4, .ref t5, .ref t6])), aI G t1 9 sz_, aI G t2 9 pt, aI G t3 9 fh, aI G t4 8 kd, aI G t5 8 nd, aI G t6 8 fw, (n, .inr (1, [.ref n1, .ref n2, .ref n3, .ref n4, .ref n5, .ref n6, .ref n7, .int lo, .int mi, .int sd])), aI G n1 9 ht, aI G n2 8 wm, aI G n3 8 se, aI G n4 8 cd, aI G n5 8 sl, aI G n6 8 od, aI G n7 72 ow]) (w' := fun (u : (Int32) × (Int32)) => [(g, .inr (2, [.ref s0, .ref g1, .ref g2, .ref g3, .int gs, .int gm, .int gb])), aI G g1 6 go, aI G g2 6 gz, aI G g3 256 gf, (s0, .inr (4, [.int u.1, .int u.2])), (t, .inr (6, [.int ns, .int np, .int fu, .int fd, .int fi, .ref t1, .ref t2, .ref t3, .ref t4, .ref t5, .ref t6])), aI G t1 9 sz_, aI G t2 9 pt, aI G t3 9 fh, aI G t4 8 kd, aI G t5 8 nd, aI G t6 8 fw, (n, .inr (1, [.ref n1, .ref n2, .ref n3, .ref n4, .ref n5, .ref n6, .ref n7, .int lo, .int mi, .int sd])), aI G n1 9 ht, aI G n2 8 wm, aI G n3 8 se, aI G n4 8 cd, aI G n5 8 sl, aI G n6 8 od, aI G n7 72 ow]) (x_runV (As := [.int (if 0 < ((wm pq.toNatClampNeg) - ((x * gm) * (frostI (kd pq.toNatClampNeg) fu fd 0))) then ((wm pq.toNatClampNeg) - ((x * gm) * (frostI (kd pq.toNatClampNeg) fu fd 0))) else 0), .int y]) (rest := []) (n := 2) (C := RX4) (ci := 4) ⟨hx, hb, hml, hown, hts⟩ (k_X4_begin l G s0 _ sw sh (if 0 < ((wm pq.toNatClampNeg) - ((x * gm) * (frostI (kd pq.toNatClampNeg) fu fd 0))) then ((wm pq.toNatClampNeg) - ((x * gm) * (frostI (kd pq.toNatClampNeg) fu fd 0))) else 0) y) gX2_heatBehind_X4_begin rfl (by decide +kernel) ⟨Nat.le_trans (Nat.le_of_ble_eq_true rfl) hRf, Nat.le_trans (Nat.le_of_ble_eq_true rfl) hRl⟩ hKK hSS hS hA hP hD [4] (by decide) rfl rfl rfl 4 rfl rfl hl.1 rfl (Nat.le_of_ble_eq_true rfl) dX2_heatBehind_36) hP hD hS hA [4] [0, 1, 2, 3, 5, 6, 7, 8, 9, 10, 11, 12, 13, 14, 15, 16, 17, 18, 19] [0, 1, 2, 3, 19, 4, 5, 6, 7, 8, 9, 10, 11, 12, 13, 14, 15, 16, 17, 18] rfl rfl (by decide) (by decide) (by decide) (fun _ => rfl) (fun  u H locs hw hP hD hS => ?_)
  obtain ⟨sw2_3, sh2_4⟩ := u
  obtain ⟨hw0, hw1⟩ := hw
  replace hw0 := hw0.symm; subst hw0
  replace hw1 := hw1.symm; subst hw1
  have hP : va_P G.1 vwCl [(g, .inr (2, [.ref s0, .ref g1, .ref g2, .ref g3, .int gs, .int gm, .int gb])), aI G g1 6 go, aI G g2 6 gz, aI G g3 256 gf, (s0, .inr (4, [.int (if 0 < ((wm pq.toNatClampNeg) - ((x * gm) * (frostI (kd pq.toNatClampNeg) fu fd 0))) then ((wm pq.toNatClampNeg) - ((x * gm) * (frostI (kd pq.toNatClampNeg) fu fd 0))) else 0), .int y])), (t, .inr (6, [.int ns, .int np, .int fu, .int fd, .int fi, .ref t1, .ref t2, .ref t3, .ref t4, .ref t5, .ref t6])), aI G t1 9 sz_, aI G t2 9 pt, aI G t3 9 fh, aI G t4 8 kd, aI G t5 8 nd, aI G t6 8 fw, (n, .inr (1, [.ref n1, .ref n2, .ref n3, .ref n4, .ref n5, .ref n6, .ref n7, .int lo, .int mi, .int sd])), aI G n1 9 ht, aI G n2 8 wm, aI G n3 8 se, aI G n4 8 cd, aI G n5 8 sl, aI G n6 8 od, aI G n7 72 ow] H := hP
  have hD : va_D A [(g, .inr (2, [.ref s0, .ref g1, .ref g2, .ref g3, .int gs, .int gm, .int gb])), aI G g1 6 go, aI G g2 6 gz, aI G g3 256 gf, (s0, .inr (4, [.int (if 0 < ((wm pq.toNatClampNeg) - ((x * gm) * (frostI (kd pq.toNatClampNeg) fu fd 0))) then ((wm pq.toNatClampNeg) - ((x * gm) * (frostI (kd pq.toNatClampNeg) fu fd 0))) else 0), .int y])), (t, .inr (6, [.int ns, .int np, .int fu, .int fd, .int fi, .ref t1, .ref t2, .ref t3, .ref t4, .ref t5, .ref t6])), aI G t1 9 sz_, aI G t2 9 pt, aI G t3 9 fh, aI G t4 8 kd, aI G t5 8 nd, aI G t6 8 fw, (n, .inr (1, [.ref n1, .ref n2, .ref n3, .ref n4, .ref n5, .ref n6, .ref n7, .int lo, .int mi, .int sd])), aI G n1 9 ht, aI G n2 8 wm, aI G n3 8 se, aI G n4 8 cd, aI G n5 8 sl, aI G n6 8 od, aI G n7 72 ow] := hD
  refine lv_iconst (v := 0) hx hb dX2_heatBehind_39 (by decide) ?_
  refine lv_istore (lv' := [(7, .int 0), (6, .int ((x * gm) * (frostI (kd pq.toNatClampNeg) fu fd 0))), (0, .ref g), (1, .ref t), (2, .ref n), (3, .int x), (4, .int pq), (5, .int y)]) hx hb dX2_heatBehind_40 hl (by decide) rfl (fun ls hl => ?_)
  obtain ⟨I42_8, μ42_9, hi0, hs_16⟩ := hv
  have Lm_18 : ∀ (n_17 : Nat) (gs00_5 : Int32) (gs01_6 : Int32) (x7_7 : Int32) (H : Heap) (locs : List Loc) (ls : Array Slot), μ42_9 gs00_5 gs01_6 x7_7 < n_17 → I42_8 gs00_5 gs01_6 x7_7 → va_P G.1 vwCl [(g, .inr (2, [.ref s0, .ref g1, .ref g2, .ref g3, .int gs, .int gm, .int gb])), aI G g1 6 go, aI G g2 6 gz, aI G g3 256 gf, (s0, .inr (4, [.int gs00_5, .int gs01_6])), (t, .inr (6, [.int ns, .int np, .int fu, .int fd, .int fi, .ref t1, .ref t2, .ref t3, .ref t4, .ref t5, .ref t6])), aI G t1 9 sz_, aI G t2 9 pt, aI G t3 9 fh, aI G t4 8 kd, aI G t5 8 nd, aI G t6 8 fw, (n, .inr (1, [.ref n1, .ref n2, .ref n3, .ref n4, .ref n5, .ref n6, .ref n7, .int lo, .int mi, .int sd])), aI G n1 9 ht, aI G n2 8 wm, aI G n3 8 se, aI G n4 8 cd, aI G n5 8 sl, aI G n6 8 od, aI G n7 72 ow] H → va_D A [(g, .inr (2, [.ref s0, .ref g1, .ref g2, .ref g3, .int gs, .int gm, .int gb])), aI G g1 6 go, aI G g2 6 gz, aI G g3 256 gf, (s0, .inr (4, [.int gs00_5, .int gs01_6])), (t, .inr (6, [.int ns, .int np, .int fu, .int fd, .int fi, .ref t1, .ref t2, .ref t3, .ref t4, .ref t5, .ref t6])), aI G t1 9 sz_, aI G t2 9 pt, aI G t3 9 fh, aI G t4 8 kd, aI G t5 8 nd, aI G t6 8 fw, (n, .inr (1, [.ref n1, .ref n2, .ref n3, .ref n4, .ref n5, .ref n6, .ref n7, .int lo, .int mi, .int sd])), aI G n1 9 ht, aI G n2 8 wm, aI G n3 8 se, aI G n4 8 cd, aI G n5 8 sl, aI G n6 8 od, aI G n7 72 ow] → va_S A s.heap H locs → lv_has ls 8 [(7, .int x7_7), (6, .int ((x * gm) * (frostI (kd pq.toNatClampNeg) fu fd 0))), (0, .ref g), (1, .ref t), (2, .ref n), (3, .int x), (4, .int pq), (5, .int y)] → W p l e R s m args below meth c H locs 0 0 Q (F0 m 42 ls []) := by
    intro n_17
    induction n_17 with
    | zero => intro gs00_5 gs01_6 x7_7 H locs ls hm; exact absurd hm (Nat.not_lt_zero _)
    | succ n_17 ih_10 =>
      intro gs00_5 gs01_6 x7_7 H locs ls hI_11 hi hP hD hS hl
      have hv := hs_16 gs00_5 gs01_6 x7_7 hi
      refine lv_iload hx hb dX2_heatBehind_42 (lv_at hl 0 rfl) ?_
      refine lv_aload_n hx hb dX2_heatBehind_44 rfl (lv_at hl 2 rfl) ?_
      refine va_get (D := G.1) (ci := 2) (v := .int gm) (C := RX2) (T := TX2) (N := 7) hx hb hts hinX2 hown hKK.1 hP 0 rfl rfl 5 (by decide) kl32 (fun _ h9 => h9) rfl dX2_heatBehind_45 ?_
      refine lv_icmp_ge (tgt := 71) hx hb dX2_heatBehind_48 (by decide) (fun hc_12 => ?_) (fun hc_12 => ?_)
      · have hv := hv.1 hc_12
        refine lv_aload_n hx hb dX2_heatBehind_71 rfl (lv_at hl 2 rfl) ?_
        refine va_get (D := G.1) (ci := 2) (v := .ref s0) (C := RX2) (T := TX2) (N := 7) hx hb hts hinX2 hown hKK.1 hP 0 rfl rfl 0 (by decide) kl12 (fun _ h9 => h9) rfl dX2_heatBehind_72 ?_
        refine va_get (D := G.1) (ci := 4) (v := .int gs01_6) (C := RX4) (T := TX4) (N := 2) hx hb hts hinX4 hown hKK.1 hP 4 rfl rfl 1 (by decide) kl86 (fun _ h9 => h9) rfl dX2_heatBehind_75 ?_
        exact x_iret (v := gs01_6) (gs00_5, gs01_6) hQ hx hb hr hlocks hS dX2_heatBehind_78 hv hP hD
      · have hv := hv.2 hc_12
        refine lv_aload_n hx hb dX2_heatBehind_51 rfl (lv_at hl 2 rfl) ?_
        refine va_get (D := G.1) (ci := 2) (v := .ref s0) (C := RX2) (T := TX2) (N := 7) hx hb hts hinX2 hown hKK.1 hP 0 rfl rfl 0 (by decide) kl12 (fun _ h9 => h9) rfl dX2_heatBehind_52 ?_
        refine lv_aload_n hx hb dX2_heatBehind_55 rfl (lv_at hl 3 rfl) ?_
        refine lv_iload hx hb dX2_heatBehind_56 (lv_at hl 6 rfl) ?_
        refine lv_aload_n hx hb dX2_heatBehind_58 rfl (lv_at hl 2 rfl) ?_
        refine va_get (D := G.1) (ci := 2) (v := .int gs) (C := RX2) (T := TX2) (N := 7) hx hb hts hinX2 hown hKK.1 hP 0 rfl rfl 4 (by decide) kl28 (fun _ h9 => h9) rfl dX2_heatBehind_59 ?_
        obtain ⟨hp, hv⟩ := hv
        refine x_callv (wr := [(g, .inr (2, [.ref s0, .ref g1, .ref g2, .ref g3, .int gs, .int gm, .int gb])), aI G g1 6 go, aI G g2 6 gz, aI G g3 256 gf, (n, .inr (1, [.ref n1, .ref n2, .ref n3, .ref n4, .ref n5, .ref n6, .ref n7, .int lo, .int mi, .int sd])), aI G n1 9 ht, aI G n2 8 wm, aI G n3 8 se, aI G n4 8 cd, aI G n5 8 sl, aI G n6 8 od, aI G n7 72 ow]) (w' := fun (u : (Int32) × (Int32)) => [(g, .inr (2, [.ref s0, .ref g1, .ref g2, .ref g3, .int gs, .int gm, .int gb])), aI G g1 6 go, aI G g2 6 gz, aI G g3 256 gf, (s0, .inr (4, [.int u.1, .int u.2])), (t, .inr (6, [.int ns, .int np, .int fu, .int fd, .int fi, .ref t1, .ref t2, .ref t3, .ref t4, .ref t5, .ref t6])), aI G t1 9 sz_, aI G t2 9 pt, aI G t3 9 fh, aI G t4 8 kd, aI G t5 8 nd, aI G t6 8 fw, (n, .inr (1, [.ref n1, .ref n2, .ref n3, .ref n4, .ref n5, .ref n6, .ref n7, .int lo, .int mi, .int sd])), aI G n1 9 ht, aI G n2 8 wm, aI G n3 8 se, aI G n4 8 cd, aI G n5 8 sl, aI G n6 8 od, aI G n7 72 ow]) (x_runV (As := [.ref t, .int pq, .int gs]) (rest := []) (n := 3) (C := RX4) (ci := 4) ⟨hx, hb, hml, hown, hts⟩ (k_X4_passMinute l G s0 t t1 t2 t3 t4 t5 t6 _ gs00_5 gs01_6 ns np fu fd fi sz_ pt fh kd nd fw pq gs hp) gX2_heatBehind_X4_passMinute rfl (by decide +kernel) ⟨Nat.le_trans (Nat.le_of_ble_eq_true rfl) hRf, Nat.le_trans (Nat.le_of_ble_eq_true rfl) hRl⟩ hKK hSS hS hA hP hD [4, 5, 6, 7, 8, 9, 10, 11] (by decide) rfl rfl rfl 4 rfl rfl hl.1 rfl (Nat.le_of_ble_eq_true rfl) dX2_heatBehind_62) hP hD hS hA [4, 5, 6, 7, 8, 9, 10, 11] [0, 1, 2, 3, 12, 13, 14, 15, 16, 17, 18, 19] [0, 1, 2, 3, 12, 13, 14, 15, 16, 17, 18, 19, 4, 5, 6, 7, 8, 9, 10, 11] rfl rfl (by decide) (by decide) (by decide) (fun _ => rfl) (fun  u H locs hw hP hD hS => ?_)
        obtain ⟨sw2_14, sh2_15⟩ := u
        obtain ⟨hw0, hw1⟩ := hw
        replace hw0 := hw0.symm; subst hw0
        replace hw1 := hw1.symm; subst hw1
        have hP : va_P G.1 vwCl [(g, .inr (2, [.ref s0, .ref g1, .ref g2, .ref g3, .int gs, .int gm, .int gb])), aI G g1 6 go, aI G g2 6 gz, aI G g3 256 gf, (s0, .inr (4, [.int (sitW ns fu fd (kd pq.toNatClampNeg) (sz_ gs.toNatClampNeg) gs gs00_5 gs01_6), .int (sitH ns (kd pq.toNatClampNeg) (sz_ gs.toNatClampNeg) gs gs00_5 gs01_6)])), (t, .inr (6, [.int ns, .int np, .int fu, .int fd, .int fi, .ref t1, .ref t2, .ref t3, .ref t4, .ref t5, .ref t6])), aI G t1 9 sz_, aI G t2 9 pt, aI G t3 9 fh, aI G t4 8 kd, aI G t5 8 nd, aI G t6 8 fw, (n, .inr (1, [.ref n1, .ref n2, .ref n3, .ref n4, .ref n5, .ref n6, .ref n7, .int lo, .int mi, .int sd])), aI G n1 9 ht, aI G n2 8 wm, aI G n3 8 se, aI G n4 8 cd, aI G n5 8 sl, aI G n6 8 od, aI G n7 72 ow] H := hP
        have hD : va_D A [(g, .inr (2, [.ref s0, .ref g1, .ref g2, .ref g3, .int gs, .int gm, .int gb])), aI G g1 6 go, aI G g2 6 gz, aI G g3 256 gf, (s0, .inr (4, [.int (sitW ns fu fd (kd pq.toNatClampNeg) (sz_ gs.toNatClampNeg) gs gs00_5 gs01_6), .int (sitH ns (kd pq.toNatClampNeg) (sz_ gs.toNatClampNeg) gs gs00_5 gs01_6)])), (t, .inr (6, [.int ns, .int np, .int fu, .int fd, .int fi, .ref t1, .ref t2, .ref t3, .ref t4, .ref t5, .ref t6])), aI G t1 9 sz_, aI G t2 9 pt, aI G t3 9 fh, aI G t4 8 kd, aI G t5 8 nd, aI G t6 8 fw, (n, .inr (1, [.ref n1, .ref n2, .ref n3, .ref n4, .ref n5, .ref n6, .ref n7, .int lo, .int mi, .int sd])), aI G n1 9 ht, aI G n2 8 wm, aI G n3 8 se, aI G n4 8 cd, aI G n5 8 sl, aI G n6 8 od, aI G n7 72 ow] := hD
        refine lv_iinc (v := (x7_7 + 1)) (lv' := [(7, .int (x7_7 + 1)), (6, .int ((x * gm) * (frostI (kd pq.toNatClampNeg) fu fd 0))), (0, .ref g), (1, .ref t), (2, .ref n), (3, .int x), (4, .int pq), (5, .int y)]) hx hb dX2_heatBehind_65 hl (k := 0) rfl rfl (by decide) rfl (fun ls hl => ?_)
        refine lv_goto (tgt := 42) hx hb dX2_heatBehind_68 (by decide) ?_
        exact ih_10 _ _ _ _ _ _ (Nat.lt_of_lt_of_le hv.2 (Nat.le_of_lt_succ hI_11)) hv.1 hP hD hS hl
  exact Lm_18 _ _ _ _ _ _ _ (Nat.lt_succ_self _) hi0 hP hD hS hl
theorem k_X2_heatBehind (l : Launch) (G : Gt) (g g1 g2 g3 s0 t t1 t2 t3 t4 t5 t6 n n1 n2 n3 n4 n5 n6 n7 : Nat) (sz : Nat) (gs : Int32) (gm : Int32) (gb : Int32) (go : Nat → Int32) (gz : Nat → Int32) (gf : Nat → Int32) (sw : Int32) (sh : Int32) (ns : Int32) (np : Int32) (fu : Int32) (fd : Int32) (fi : Int32) (sz_ : Nat → Int32) (pt : Nat → Int32) (fh : Nat → Int32) (kd : Nat → Int32) (nd : Nat → Int32) (fw : Nat → Int32) (ht : Nat → Int32) (wm : Nat → Int32) (se : Nat → Int32) (cd : Nat → Int32) (sl : Nat → Int32) (od : Nat → Int32) (ow : Nat → Int32) (lo : Int32) (mi : Int32) (sd : Int32) (x : Int32) (pq : Int32) (y : Int32) (hp : True) : MetI l yX2_heatBehind wsX2_heatBehind 3 70 G [.ref g, .ref t, .ref n, .int x, .int pq, .int y] [(g, .inr (2, [.ref s0, .ref g1, .ref g2, .ref g3, .int gs, .int gm, .int gb])), aI G g1 6 go, aI G g2 6 gz, aI G g3 256 gf, (s0, .inr (4, [.int sw, .int sh])), (t, .inr (6, [.int ns, .int np, .int fu, .int fd, .int fi, .ref t1, .ref t2, .ref t3, .ref t4, .ref t5, .ref t6])), aI G t1 9 sz_, aI G t2 9 pt, aI G t3 9 fh, aI G t4 8 kd, aI G t5 8 nd, aI G t6 8 fw, (n, .inr (1, [.ref n1, .ref n2, .ref n3, .ref n4, .ref n5, .ref n6, .ref n7, .int lo, .int mi, .int sd])), aI G n1 9 ht, aI G n2 8 wm, aI G n3 8 se, aI G n4 8 cd, aI G n5 8 sl, aI G n6 8 od, aI G n7 72 ow] sz (fun (r : Int32) (u : (Int32) × (Int32)) => True) (fun (u : (Int32) × (Int32)) => [(g, .inr (2, [.ref s0, .ref g1, .ref g2, .ref g3, .int gs, .int gm, .int gb])), aI G g1 6 go, aI G g2 6 gz, aI G g3 256 gf, (s0, .inr (4, [.int u.1, .int u.2])), (t, .inr (6, [.int ns, .int np, .int fu, .int fd, .int fi, .ref t1, .ref t2, .ref t3, .ref t4, .ref t5, .ref t6])), aI G t1 9 sz_, aI G t2 9 pt, aI G t3 9 fh, aI G t4 8 kd, aI G t5 8 nd, aI G t6 8 fw, (n, .inr (1, [.ref n1, .ref n2, .ref n3, .ref n4, .ref n5, .ref n6, .ref n7, .int lo, .int mi, .int sd])), aI G n1 9 ht, aI G n2 8 wm, aI G n3 8 se, aI G n4 8 cd, aI G n5 8 sl, aI G n6 8 od, aI G n7 72 ow]) :=
  c_X2_heatBehind l G g g1 g2 g3 s0 t t1 t2 t3 t4 t5 t6 n n1 n2 n3 n4 n5 n6 n7 sz gs gm gb go gz gf sw sh ns np fu fd fi sz_ pt fh kd nd fw ht wm se cd sl od ow lo mi sd x pq y (by
    sorry)

set_option maxHeartbeats 4000000 in
set_option maxRecDepth 100000 in
theorem c_X2_place (l : Launch) (G : Gt) (g g1 g2 g3 s0 t t1 t2 t3 t4 t5 t6 n n1 n2 n3 n4 n5 n6 n7 : Nat) (sz : Nat) (gs : Int32) (gm : Int32) (gb : Int32) (go : Nat → Int32) (gz : Nat → Int32) (gf : Nat → Int32) (sw : Int32) (sh : Int32) (ns : Int32) (np : Int32) (fu : Int32) (fd : Int32) (fi : Int32) (sz_ : Nat → Int32) (pt : Nat → Int32) (fh : Nat → Int32) (kd : Nat → Int32) (nd : Nat → Int32) (fw : Nat → Int32) (ht : Nat → Int32) (wm : Nat → Int32) (se : Nat → Int32) (cd : Nat → Int32) (sl : Nat → Int32) (od : Nat → Int32) (ow : Nat → Int32) (lo : Int32) (mi : Int32) (sd : Int32) (x : Int32) (lf : Int32) (y : Int32) (d fr_ lo_ : Nat) (hfr : 4 ≤ fr_) (hlo : 97 ≤ lo_) (hrec : ∀ (sz : Nat) (gs : Int32) (gm : Int32) (gb : Int32) (go : Nat → Int32) (gz : Nat → Int32) (gf : Nat → Int32) (sw : Int32) (sh : Int32) (ns : Int32) (np : Int32) (fu : Int32) (fd : Int32) (fi : Int32) (sz_ : Nat → Int32) (pt : Nat → Int32) (fh : Nat → Int32) (kd : Nat → Int32) (nd : Nat → Int32) (fw : Nat → Int32) (ht : Nat → Int32) (wm : Nat → Int32) (se : Nat → Int32) (cd : Nat → Int32) (sl : Nat → Int32) (od : Nat → Int32) (ow : Nat → Int32) (lo : Int32) (mi : Int32) (sd : Int32) (x : Int32) (lf : Int32) (y : Int32), d = d → MetV l yX2_place wsX2_place fr_ lo_ G [.ref g, .ref t, .ref n, .int x, .int lf, .int y] [(g, .inr (2, [.ref s0, .ref g1, .ref g2, .ref g3, .int gs, .int gm, .int gb])), aI G g1 6 go, aI G g2 6 gz, aI G g3 256 gf, (s0, .inr (4, [.int sw, .int sh])), (t, .inr (6, [.int ns, .int np, .int fu, .int fd, .int fi, .ref t1, .ref t2, .ref t3, .ref t4, .ref t5, .ref t6])), aI G t1 9 sz_, aI G t2 9 pt, aI G t3 9 fh, aI G t4 8 kd, aI G t5 8 nd, aI G t6 8 fw, (n, .inr (1, [.ref n1, .ref n2, .ref n3, .ref n4, .ref n5, .ref n6, .ref n7, .int lo, .int mi, .int sd])), aI G n1 9 ht, aI G n2 8 wm, aI G n3 8 se, aI G n4 8 cd, aI G n5 8 sl, aI G n6 8 od, aI G n7 72 ow] sz (fun (u : (Nat → Int32) × (Nat → Int32) × (Nat → Int32) × (Int32) × (Int32) × (Int32)) => True ∧ d = d) (fun (u : (Nat → Int32) × (Nat → Int32) × (Nat → Int32) × (Int32) × (Int32) × (Int32)) => [(g, .inr (2, [.ref s0, .ref g1, .ref g2, .ref g3, .int gs, .int gm, .int u.2.2.2.1])), aI G g1 6 u.1, aI G g2 6 u.2.1, aI G g3 256 u.2.2.1, (s0, .inr (4, [.int u.2.2.2.2.1, .int u.2.2.2.2.2])), (t, .inr (6, [.int ns, .int np, .int fu, .int fd, .int fi, .ref t1, .ref t2, .ref t3, .ref t4, .ref t5, .ref t6])), aI G t1 9 sz_, aI G t2 9 pt, aI G t3 9 fh, aI G t4 8 kd, aI G t5 8 nd, aI G t6 8 fw, (n, .inr (1, [.ref n1, .ref n2, .ref n3, .ref n4, .ref n5, .ref n6, .ref n7, .int lo, .int mi, .int sd])), aI G n1 9 ht, aI G n2 8 wm, aI G n3 8 se, aI G n4 8 cd, aI G n5 8 sl, aI G n6 8 od, aI G n7 72 ow])) (hv : (lf < 0 → True ∧ (d + 1) = (d + 1)) ∧ (¬ (lf < 0) → (256 ≤ lf → True ∧ (d + 1) = (d + 1)) ∧ (¬ (256 ≤ lf) → (vp_in lf 256) ∧ (((gf lf.toNatClampNeg) < y → (vp_in lf 256) ∧ ((lf = 0 → True ∧ (d + 1) = (d + 1)) ∧ (¬ (lf = 0) → (x < 6 → ∃ (I58_16 : (Nat → Int32) → (Nat → Int32) → (Nat → Int32) → Int32 → Int32 → Int32 → Int32 → Prop) (μ58_17 : (Nat → Int32) → (Nat → Int32) → (Nat → Int32) → Int32 → Int32 → Int32 → Int32 → Nat), I58_16 go gz (upd gf lf.toNatClampNeg y) gb sw sh 0 ∧ (∀ (fg1_9 : (Nat → Int32)) (fg2_10 : (Nat → Int32)) (fg3_11 : (Nat → Int32)) (gg6_12 : Int32) (gs00_13 : Int32) (gs01_14 : Int32) (x6_15 : Int32), I58_16 fg1_9 fg2_10 fg3_11 gg6_12 gs00_13 gs01_14 x6_15 → (np ≤ x6_15 → True ∧ (d + 1) = (d + 1)) ∧ (¬ (np ≤ x6_15) → (((lf >>> (x6_15 &&& 31)) &&& 1) = 0 → I58_16 fg1_9 fg2_10 fg3_11 gg6_12 gs00_13 gs01_14 (x6_15 + 1) ∧ μ58_17 fg1_9 fg2_10 fg3_11 gg6_12 gs00_13 gs01_14 (x6_15 + 1) < μ58_17 fg1_9 fg2_10 fg3_11 gg6_12 gs00_13 gs01_14 x6_15) ∧ (¬ (((lf >>> (x6_15 &&& 31)) &&& 1) = 0) → (vp_in x 6) ∧ ((True) ∧ (∀ (r_22 : Int32) (sw2_23 : Int32) (sh2_24 : Int32), (True) → ((d = d) ∧ (∀ (go2_26 : Nat → Int32) (gz2_27 : Nat → Int32) (gf2_28 : Nat → Int32) (gb2_29 : Int32) (sw2_30 : Int32) (sh2_31 : Int32), (True ∧ d = d) → (I58_16 go2_26 gz2_27 gf2_28 gb2_29 sw2_30 sh2_31 (x6_15 + 1) ∧ μ58_17 go2_26 gz2_27 gf2_28 gb2_29 sw2_30 sh2_31 (x6_15 + 1) < μ58_17 fg1_9 fg2_10 fg3_11 gg6_12 gs00_13 gs01_14 x6_15))))))))) ∧ (¬ (x < 6) → True ∧ (d + 1) = (d + 1))))) ∧ (¬ ((gf lf.toNatClampNeg) < y) → True ∧ (d + 1) = (d + 1)))))) : MetV l yX2_place wsX2_place (fr_ + 1) (lo_ + 26) G [.ref g, .ref t, .ref n, .int x, .int lf, .int y] [(g, .inr (2, [.ref s0, .ref g1, .ref g2, .ref g3, .int gs, .int gm, .int gb])), aI G g1 6 go, aI G g2 6 gz, aI G g3 256 gf, (s0, .inr (4, [.int sw, .int sh])), (t, .inr (6, [.int ns, .int np, .int fu, .int fd, .int fi, .ref t1, .ref t2, .ref t3, .ref t4, .ref t5, .ref t6])), aI G t1 9 sz_, aI G t2 9 pt, aI G t3 9 fh, aI G t4 8 kd, aI G t5 8 nd, aI G t6 8 fw, (n, .inr (1, [.ref n1, .ref n2, .ref n3, .ref n4, .ref n5, .ref n6, .ref n7, .int lo, .int mi, .int sd])), aI G n1 9 ht, aI G n2 8 wm, aI G n3 8 se, aI G n4 8 cd, aI G n5 8 sl, aI G n6 8 od, aI G n7 72 ow] sz (fun (u : (Nat → Int32) × (Nat → Int32) × (Nat → Int32) × (Int32) × (Int32) × (Int32)) => True ∧ (d + 1) = (d + 1)) (fun (u : (Nat → Int32) × (Nat → Int32) × (Nat → Int32) × (Int32) × (Int32) × (Int32)) => [(g, .inr (2, [.ref s0, .ref g1, .ref g2, .ref g3, .int gs, .int gm, .int u.2.2.2.1])), aI G g1 6 u.1, aI G g2 6 u.2.1, aI G g3 256 u.2.2.1, (s0, .inr (4, [.int u.2.2.2.2.1, .int u.2.2.2.2.2])), (t, .inr (6, [.int ns, .int np, .int fu, .int fd, .int fi, .ref t1, .ref t2, .ref t3, .ref t4, .ref t5, .ref t6])), aI G t1 9 sz_, aI G t2 9 pt, aI G t3 9 fh, aI G t4 8 kd, aI G t5 8 nd, aI G t6 8 fw, (n, .inr (1, [.ref n1, .ref n2, .ref n3, .ref n4, .ref n5, .ref n6, .ref n7, .int lo, .int mi, .int sd])), aI G n1 9 ht, aI G n2 8 wm, aI G n3 8 se, aI G n4 8 cd, aI G n5 8 sl, aI G n6 8 od, aI G n7 72 ow]) := by
  refine x_startV (cc := cX2_place) (maxL := 7) (ret := none) (by decide) rfl (Nat.le_of_ble_eq_true rfl) ?_
  intro p e s m args below meth c A R Q ls hRf hRl hQ C hP hD hS hA hSS hl
  obtain ⟨hx, hb, hr, hml, hown, hts, hlocks, hKK⟩ := C
  have hown : s.vm.findClass RX2 = some m.cls := hown
  have hl : lv_has ls 7 [(0, .ref g), (1, .ref t), (2, .ref n), (3, .int x), (4, .int lf), (5, .int y)] := hl
  have hinX2 : ∀ w ∈ u_ws RX2 TX2 7, w ∈ wsX2_place := by decide +kernel
  have hinX6 : ∀ w ∈ u_ws RX6 TX6 11, w ∈ wsX2_place := by decide +kernel
  have kl18 := hts (.fieldLink RX2 18 "WarmStones$Passing" "order" "[I") (by decide +kernel)
  have kl25 := hts (.fieldLink RX2 25 "WarmStones$Passing" "followed" "[I") (by decide +kernel)
  have kl56 := hts (.fieldLink RX2 56 "WarmStones$Town" "persons" "I") (by decide +kernel)
  refine lv_iload hx hb dX2_place_0 (lv_at hl 4 rfl) ?_
  refine lv_if_lt (tgt := 27) hx hb dX2_place_2 (by decide) (fun hc_1 => ?_) (fun hc_1 => ?_)
  · have hv := hv.1 hc_1
    exact x_vret (go, gz, gf, gb, sw, sh) hQ hx hb hr hlocks hS dX2_place_27 hv hP hD
  · have hv := hv.2 hc_1
    refine lv_iload hx hb dX2_place_5 (lv_at hl 4 rfl) ?_
    refine lv_aload_n hx hb dX2_place_7 rfl (lv_at hl 0 rfl) ?_
    refine va_get (D := G.1) (ci := 2) (v := .ref g3) (C := RX2) (T := TX2) (N := 7) hx hb hts hinX2 hown hKK.1 hP 0 rfl rfl 3 (by decide) kl25 (fun _ h9 => h9) rfl dX2_place_8 ?_
    refine va_alen (v := 256) hx hb hKK.1 hP 3 0 rfl rfl rfl dX2_place_11 ?_
    refine lv_icmp_ge (tgt := 27) hx hb dX2_place_12 (by decide) (fun hc_2 => ?_) (fun hc_2 => ?_)
    · have hv := hv.1 hc_2
      exact x_vret (go, gz, gf, gb, sw, sh) hQ hx hb hr hlocks hS dX2_place_27 hv hP hD
    · have hv := hv.2 hc_2
      refine lv_iload hx hb dX2_place_15 (lv_at hl 5 rfl) ?_
      refine lv_aload_n hx hb dX2_place_17 rfl (lv_at hl 0 rfl) ?_
      refine va_get (D := G.1) (ci := 2) (v := .ref g3) (C := RX2) (T := TX2) (N := 7) hx hb hts hinX2 hown hKK.1 hP 0 rfl rfl 3 (by decide) kl25 (fun _ h9 => h9) rfl dX2_place_18 ?_
      refine lv_iload hx hb dX2_place_21 (lv_at hl 4 rfl) ?_
      obtain ⟨hin, hv⟩ := hv
      refine va_iald hx hb hKK.1 hP 3 0 rfl rfl hin dX2_place_23 ?_
      refine lv_icmp_gt (tgt := 28) hx hb dX2_place_24 (by decide) (fun hc_3 => ?_) (fun hc_3 => ?_)
      · have hv := hv.1 hc_3
        refine lv_aload_n hx hb dX2_place_28 rfl (lv_at hl 0 rfl) ?_
        refine va_get (D := G.1) (ci := 2) (v := .ref g3) (C := RX2) (T := TX2) (N := 7) hx hb hts hinX2 hown hKK.1 hP 0 rfl rfl 3 (by decide) kl25 (fun _ h9 => h9) rfl dX2_place_29 ?_
        refine lv_iload hx hb dX2_place_32 (lv_at hl 4 rfl) ?_
        refine lv_iload hx hb dX2_place_34 (lv_at hl 5 rfl) ?_
        obtain ⟨hin, hv⟩ := hv
        refine va_iast hx hb hKK.1 hP hD hS 3 0 rfl rfl hin dX2_place_36 (fun H locs hP hD hS => ?_)
        have hP : va_P G.1 vwCl [(g, .inr (2, [.ref s0, .ref g1, .ref g2, .ref g3, .int gs, .int gm, .int gb])), aI G g1 6 go, aI G g2 6 gz, aI G g3 256 (upd gf lf.toNatClampNeg y), (s0, .inr (4, [.int sw, .int sh])), (t, .inr (6, [.int ns, .int np, .int fu, .int fd, .int fi, .ref t1, .ref t2, .ref t3, .ref t4, .ref t5, .ref t6])), aI G t1 9 sz_, aI G t2 9 pt, aI G t3 9 fh, aI G t4 8 kd, aI G t5 8 nd, aI G t6 8 fw, (n, .inr (1, [.ref n1, .ref n2, .ref n3, .ref n4, .ref n5, .ref n6, .ref n7, .int lo, .int mi, .int sd])), aI G n1 9 ht, aI G n2 8 wm, aI G n3 8 se, aI G n4 8 cd, aI G n5 8 sl, aI G n6 8 od, aI G n7 72 ow] H := hP
        have hD : va_D A [(g, .inr (2, [.ref s0, .ref g1, .ref g2, .ref g3, .int gs, .int gm, .int gb])), aI G g1 6 go, aI G g2 6 gz, aI G g3 256 (upd gf lf.toNatClampNeg y), (s0, .inr (4, [.int sw, .int sh])), (t, .inr (6, [.int ns, .int np, .int fu, .int fd, .int fi, .ref t1, .ref t2, .ref t3, .ref t4, .ref t5, .ref t6])), aI G t1 9 sz_, aI G t2 9 pt, aI G t3 9 fh, aI G t4 8 kd, aI G t5 8 nd, aI G t6 8 fw, (n, .inr (1, [.ref n1, .ref n2, .ref n3, .ref n4, .ref n5, .ref n6, .ref n7, .int lo, .int mi, .int sd])), aI G n1 9 ht, aI G n2 8 wm, aI G n3 8 se, aI G n4 8 cd, aI G n5 8 sl, aI G n6 8 od, aI G n7 72 ow] := hD
        refine lv_iload hx hb dX2_place_37 (lv_at hl 4 rfl) ?_
        refine lv_if_eq (tgt := 48) hx hb dX2_place_39 (by decide) (fun hc_4 => ?_) (fun hc_4 => ?_)
        · have hv := hv.1 hc_4
          refine lv_aload_n hx hb dX2_place_48 rfl (lv_at hl 0 rfl) ?_
          refine lv_iload hx hb dX2_place_49 (lv_at hl 5 rfl) ?_
          refine x_callv (wr := [(s0, .inr (4, [.int sw, .int sh])), (t, .inr (6, [.int ns, .int np, .int fu, .int fd, .int fi, .ref t1, .ref t2, .ref t3, .ref t4, .ref t5, .ref t6])), aI G t1 9 sz_, aI G t2 9 pt, aI G t3 9 fh, aI G t4 8 kd, aI G t5 8 nd, aI G t6 8 fw, (n, .inr (1, [.ref n1, .ref n2, .ref n3, .ref n4, .ref n5, .ref n6, .ref n7, .int lo, .int mi, .int sd])), aI G n1 9 ht, aI G n2 8 wm, aI G n3 8 se, aI G n4 8 cd, aI G n5 8 sl, aI G n6 8 od, aI G n7 72 ow]) (w' := fun (u : (Nat → Int32) × (Int32)) => [(g, .inr (2, [.ref s0, .ref g1, .ref g2, .ref g3, .int gs, .int gm, .int u.2])), aI G g1 6 go, aI G g2 6 u.1, aI G g3 256 (upd gf lf.toNatClampNeg y), (s0, .inr (4, [.int sw, .int sh])), (t, .inr (6, [.int ns, .int np, .int fu, .int fd, .int fi, .ref t1, .ref t2, .ref t3, .ref t4, .ref t5, .ref t6])), aI G t1 9 sz_, aI G t2 9 pt, aI G t3 9 fh, aI G t4 8 kd, aI G t5 8 nd, aI G t6 8 fw, (n, .inr (1, [.ref n1, .ref n2, .ref n3, .ref n4, .ref n5, .ref n6, .ref n7, .int lo, .int mi, .int sd])), aI G n1 9 ht, aI G n2 8 wm, aI G n3 8 se, aI G n4 8 cd, aI G n5 8 sl, aI G n6 8 od, aI G n7 72 ow]) (x_runV (As := [.int y]) (rest := []) (n := 1) (C := RX2) (ci := 2) ⟨hx, hb, hml, hown, hts⟩ (k_X2_keepBest l G g g1 g2 g3 _ s0 gs gm gb go gz (upd gf lf.toNatClampNeg y) y) gX2_place_X2_keepBest rfl (by decide +kernel) ⟨by omega, by omega⟩ hKK hSS hS hA hP hD [0, 1, 2, 3] (by decide) rfl rfl rfl 0 rfl rfl hl.1 rfl (Nat.le_of_ble_eq_true rfl) dX2_place_51) hP hD hS hA [0, 1, 2, 3] [4, 5, 6, 7, 8, 9, 10, 11, 12, 13, 14, 15, 16, 17, 18, 19] [16, 17, 18, 19, 0, 1, 2, 3, 4, 5, 6, 7, 8, 9, 10, 11, 12, 13, 14, 15] rfl rfl (by decide) (by decide) (by decide) (fun _ => rfl) (fun  u H locs hw hP hD hS => ?_)
          obtain ⟨gz2_6, gb2_7⟩ := u
          obtain ⟨hw0, hw1⟩ := hw
          replace hw0 := hw0.symm; subst hw0
          replace hw1 := hw1.symm; subst hw1
          have hP : va_P G.1 vwCl [(g, .inr (2, [.ref s0, .ref g1, .ref g2, .ref g3, .int gs, .int gm, .int y])), aI G g1 6 go, aI G g2 6 (va_cpy go gz 0 0 6), aI G g3 256 (upd gf lf.toNatClampNeg y), (s0, .inr (4, [.int sw, .int sh])), (t, .inr (6, [.int ns, .int np, .int fu, .int fd, .int fi, .ref t1, .ref t2, .ref t3, .ref t4, .ref t5, .ref t6])), aI G t1 9 sz_, aI G t2 9 pt, aI G t3 9 fh, aI G t4 8 kd, aI G t5 8 nd, aI G t6 8 fw, (n, .inr (1, [.ref n1, .ref n2, .ref n3, .ref n4, .ref n5, .ref n6, .ref n7, .int lo, .int mi, .int sd])), aI G n1 9 ht, aI G n2 8 wm, aI G n3 8 se, aI G n4 8 cd, aI G n5 8 sl, aI G n6 8 od, aI G n7 72 ow] H := hP
          have hD : va_D A [(g, .inr (2, [.ref s0, .ref g1, .ref g2, .ref g3, .int gs, .int gm, .int y])), aI G g1 6 go, aI G g2 6 (va_cpy go gz 0 0 6), aI G g3 256 (upd gf lf.toNatClampNeg y), (s0, .inr (4, [.int sw, .int sh])), (t, .inr (6, [.int ns, .int np, .int fu, .int fd, .int fi, .ref t1, .ref t2, .ref t3, .ref t4, .ref t5, .ref t6])), aI G t1 9 sz_, aI G t2 9 pt, aI G t3 9 fh, aI G t4 8 kd, aI G t5 8 nd, aI G t6 8 fw, (n, .inr (1, [.ref n1, .ref n2, .ref n3, .ref n4, .ref n5, .ref n6, .ref n7, .int lo, .int mi, .int sd])), aI G n1 9 ht, aI G n2 8 wm, aI G n3 8 se, aI G n4 8 cd, aI G n5 8 sl, aI G n6 8 od, aI G n7 72 ow] := hD
          exact x_vret (go, (va_cpy go gz 0 0 6), (upd gf lf.toNatClampNeg y), y, sw, sh) hQ hx hb hr hlocks hS dX2_place_54 hv hP hD
        · have hv := hv.2 hc_4
          refine lv_iload_n hx hb dX2_place_42 rfl (lv_at hl 3 rfl) ?_
          refine lv_bipush (v := 6) hx hb dX2_place_43 (by decide) ?_
          refine lv_icmp_lt (tgt := 55) hx hb dX2_place_45 (by decide) (fun hc_8 => ?_) (fun hc_8 => ?_)
          · have hv := hv.1 hc_8
            refine lv_iconst (v := 0) hx hb dX2_place_55 (by decide) ?_
            refine lv_istore (lv' := [(6, .int 0), (0, .ref g), (1, .ref t), (2, .ref n), (3, .int x), (4, .int lf), (5, .int y)]) hx hb dX2_place_56 hl (by decide) rfl (fun ls hl => ?_)
            obtain ⟨I58_16, μ58_17, hi0, hs_32⟩ := hv
            have Lm_34 : ∀ (n_33 : Nat) (fg1_9 : (Nat → Int32)) (fg2_10 : (Nat → Int32)) (fg3_11 : (Nat → Int32)) (gg6_12 : Int32) (gs00_13 : Int32) (gs01_14 : Int32) (x6_15 : Int32) (H : Heap) (locs : List Loc) (ls : Array Slot), μ58_17 fg1_9 fg2_10 fg3_11 gg6_12 gs00_13 gs01_14 x6_15 < n_33 → I58_16 fg1_9 fg2_10 fg3_11 gg6_12 gs00_13 gs01_14 x6_15 → va_P G.1 vwCl [(g, .inr (2, [.ref s0, .ref g1, .ref g2, .ref g3, .int gs, .int gm, .int gg6_12])), aI G g1 6 fg1_9, aI G g2 6 fg2_10, aI G g3 256 fg3_11, (s0, .inr (4, [.int gs00_13, .int gs01_14])), (t, .inr (6, [.int ns, .int np, .int fu, .int fd, .int fi, .ref t1, .ref t2, .ref t3, .ref t4, .ref t5, .ref t6])), aI G t1 9 sz_, aI G t2 9 pt, aI G t3 9 fh, aI G t4 8 kd, aI G t5 8 nd, aI G t6 8 fw, (n, .inr (1, [.ref n1, .ref n2, .ref n3, .ref n4, .ref n5, .ref n6, .ref n7, .int lo, .int mi, .int sd])), aI G n1 9 ht, aI G n2 8 wm, aI G n3 8 se, aI G n4 8 cd, aI G n5 8 sl, aI G n6 8 od, aI G n7 72 ow] H → va_D A [(g, .inr (2, [.ref s0, .ref g1, .ref g2, .ref g3, .int gs, .int gm, .int gg6_12])), aI G g1 6 fg1_9, aI G g2 6 fg2_10, aI G g3 256 fg3_11, (s0, .inr (4, [.int gs00_13, .int gs01_14])), (t, .inr (6, [.int ns, .int np, .int fu, .int fd, .int fi, .ref t1, .ref t2, .ref t3, .ref t4, .ref t5, .ref t6])), aI G t1 9 sz_, aI G t2 9 pt, aI G t3 9 fh, aI G t4 8 kd, aI G t5 8 nd, aI G t6 8 fw, (n, .inr (1, [.ref n1, .ref n2, .ref n3, .ref n4, .ref n5, .ref n6, .ref n7, .int lo, .int mi, .int sd])), aI G n1 9 ht, aI G n2 8 wm, aI G n3 8 se, aI G n4 8 cd, aI G n5 8 sl, aI G n6 8 od, aI G n7 72 ow] → va_S A s.heap H locs → lv_has ls 7 [(6, .int x6_15), (0, .ref g), (1, .ref t), (2, .ref n), (3, .int x), (4, .int lf), (5, .int y)] → W p l e R s m args below meth c H locs 0 0 Q (F0 m 58 ls []) := by
              intro n_33
              induction n_33 with
              | zero => intro fg1_9 fg2_10 fg3_11 gg6_12 gs00_13 gs01_14 x6_15 H locs ls hm; exact absurd hm (Nat.not_lt_zero _)
              | succ n_33 ih_18 =>
                intro fg1_9 fg2_10 fg3_11 gg6_12 gs00_13 gs01_14 x6_15 H locs ls hI_19 hi hP hD hS hl
                have hv := hs_32 fg1_9 fg2_10 fg3_11 gg6_12 gs00_13 gs01_14 x6_15 hi
                refine lv_iload hx hb dX2_place_58 (lv_at hl 0 rfl) ?_
                refine lv_aload_n hx hb dX2_place_60 rfl (lv_at hl 2 rfl) ?_
                refine va_get (D := G.1) (ci := 6) (v := .int np) (C := RX6) (T := TX6) (N := 11) hx hb hts hinX6 hown hKK.1 hP 5 rfl rfl 1 (by decide) kl56 (fun _ h9 => h9) rfl dX2_place_61 ?_
                refine lv_icmp_ge (tgt := 120) hx hb dX2_place_64 (by decide) (fun hc_20 => ?_) (fun hc_20 => ?_)
                · have hv := hv.1 hc_20
                  exact x_vret (fg1_9, fg2_10, fg3_11, gg6_12, gs00_13, gs01_14) hQ hx hb hr hlocks hS dX2_place_120 hv hP hD
                · have hv := hv.2 hc_20
                  refine lv_iload hx hb dX2_place_67 (lv_at hl 5 rfl) ?_
                  refine lv_iload hx hb dX2_place_69 (lv_at hl 0 rfl) ?_
                  refine lv_ishr hx hb dX2_place_71 ?_
                  refine lv_iconst (v := 1) hx hb dX2_place_72 (by decide) ?_
                  refine lv_iand hx hb dX2_place_73 ?_
                  refine lv_if_eq (tgt := 114) hx hb dX2_place_74 (by decide) (fun hc_21 => ?_) (fun hc_21 => ?_)
                  · have hv := hv.1 hc_21
                    refine lv_iinc (v := (x6_15 + 1)) (lv' := [(6, .int (x6_15 + 1)), (0, .ref g), (1, .ref t), (2, .ref n), (3, .int x), (4, .int lf), (5, .int y)]) hx hb dX2_place_114 hl (k := 0) rfl rfl (by decide) rfl (fun ls hl => ?_)
                    refine lv_goto (tgt := 58) hx hb dX2_place_117 (by decide) ?_
                    exact ih_18 _ _ _ _ _ _ _ _ _ _ (Nat.lt_of_lt_of_le hv.2 (Nat.le_of_lt_succ hI_19)) hv.1 hP hD hS hl
                  · have hv := hv.2 hc_21
                    refine lv_aload_n hx hb dX2_place_77 rfl (lv_at hl 1 rfl) ?_
                    refine va_get (D := G.1) (ci := 2) (v := .ref g1) (C := RX2) (T := TX2) (N := 7) hx hb hts hinX2 hown hKK.1 hP 0 rfl rfl 1 (by decide) kl18 (fun _ h9 => h9) rfl dX2_place_78 ?_
                    refine lv_iload_n hx hb dX2_place_81 rfl (lv_at hl 4 rfl) ?_
                    refine lv_iload hx hb dX2_place_82 (lv_at hl 0 rfl) ?_
                    obtain ⟨hin, hv⟩ := hv
                    refine va_iast hx hb hKK.1 hP hD hS 1 0 rfl rfl hin dX2_place_84 (fun H locs hP hD hS => ?_)
                    have hP : va_P G.1 vwCl [(g, .inr (2, [.ref s0, .ref g1, .ref g2, .ref g3, .int gs, .int gm, .int gg6_12])), aI G g1 6 (upd fg1_9 x.toNatClampNeg x6_15), aI G g2 6 fg2_10, aI G g3 256 fg3_11, (s0, .inr (4, [.int gs00_13, .int gs01_14])), (t, .inr (6, [.int ns, .int np, .int fu, .int fd, .int fi, .ref t1, .ref t2, .ref t3, .ref t4, .ref t5, .ref t6])), aI G t1 9 sz_, aI G t2 9 pt, aI G t3 9 fh, aI G t4 8 kd, aI G t5 8 nd, aI G t6 8 fw, (n, .inr (1, [.ref n1, .ref n2, .ref n3, .ref n4, .ref n5, .ref n6, .ref n7, .int lo, .int mi, .int sd])), aI G n1 9 ht, aI G n2 8 wm, aI G n3 8 se, aI G n4 8 cd, aI G n5 8 sl, aI G n6 8 od, aI G n7 72 ow] H := hP
                    have hD : va_D A [(g, .inr (2, [.ref s0, .ref g1, .ref g2, .ref g3, .int gs, .int gm, .int gg6_12])), aI G g1 6 (upd fg1_9 x.toNatClampNeg x6_15), aI G g2 6 fg2_10, aI G g3 256 fg3_11, (s0, .inr (4, [.int gs00_13, .int gs01_14])), (t, .inr (6, [.int ns, .int np, .int fu, .int fd, .int fi, .ref t1, .ref t2, .ref t3, .ref t4, .ref t5, .ref t6])), aI G t1 9 sz_, aI G t2 9 pt, aI G t3 9 fh, aI G t4 8 kd, aI G t5 8 nd, aI G t6 8 fw, (n, .inr (1, [.ref n1, .ref n2, .ref n3, .ref n4, .ref n5, .ref n6, .ref n7, .int lo, .int mi, .int sd])), aI G n1 9 ht, aI G n2 8 wm, aI G n3 8 se, aI G n4 8 cd, aI G n5 8 sl, aI G n6 8 od, aI G n7 72 ow] := hD
                    refine lv_aload_n hx hb dX2_place_85 rfl (lv_at hl 1 rfl) ?_
                    refine lv_aload_n hx hb dX2_place_86 rfl (lv_at hl 2 rfl) ?_
                    refine lv_aload_n hx hb dX2_place_87 rfl (lv_at hl 3 rfl) ?_
                    refine lv_iload_n hx hb dX2_place_88 rfl (lv_at hl 4 rfl) ?_
                    refine lv_iconst (v := 1) hx hb dX2_place_89 (by decide) ?_
                    refine lv_iadd hx hb dX2_place_90 ?_
                    refine lv_iload hx hb dX2_place_91 (lv_at hl 5 rfl) ?_
                    refine lv_iconst (v := 1) hx hb dX2_place_93 (by decide) ?_
                    refine lv_iload hx hb dX2_place_94 (lv_at hl 0 rfl) ?_
                    refine lv_ishl hx hb dX2_place_96 ?_
                    refine lv_iconst (v := (-1)) hx hb dX2_place_97 (by decide) ?_
                    refine lv_ixor hx hb dX2_place_98 ?_
                    refine lv_iand hx hb dX2_place_99 ?_
                    refine lv_aload_n hx hb dX2_place_100 rfl (lv_at hl 1 rfl) ?_
                    refine lv_aload_n hx hb dX2_place_101 rfl (lv_at hl 2 rfl) ?_
                    refine lv_aload_n hx hb dX2_place_102 rfl (lv_at hl 3 rfl) ?_
                    refine lv_iload_n hx hb dX2_place_103 rfl (lv_at hl 4 rfl) ?_
                    refine lv_iload hx hb dX2_place_104 (lv_at hl 0 rfl) ?_
                    refine lv_iload hx hb dX2_place_106 (lv_at hl 6 rfl) ?_
                    obtain ⟨hp, hv⟩ := hv
                    refine x_calli (wr := []) (w' := fun (u : (Int32) × (Int32)) => [(g, .inr (2, [.ref s0, .ref g1, .ref g2, .ref g3, .int gs, .int gm, .int gg6_12])), aI G g1 6 (upd fg1_9 x.toNatClampNeg x6_15), aI G g2 6 fg2_10, aI G g3 256 fg3_11, (s0, .inr (4, [.int u.1, .int u.2])), (t, .inr (6, [.int ns, .int np, .int fu, .int fd, .int fi, .ref t1, .ref t2, .ref t3, .ref t4, .ref t5, .ref t6])), aI G t1 9 sz_, aI G t2 9 pt, aI G t3 9 fh, aI G t4 8 kd, aI G t5 8 nd, aI G t6 8 fw, (n, .inr (1, [.ref n1, .ref n2, .ref n3, .ref n4, .ref n5, .ref n6, .ref n7, .int lo, .int mi, .int sd])), aI G n1 9 ht, aI G n2 8 wm, aI G n3 8 se, aI G n4 8 cd, aI G n5 8 sl, aI G n6 8 od, aI G n7 72 ow]) (x_runV (As := [.ref t, .ref n, .int x, .int x6_15, .int y]) (rest := [.int (lf &&& (((1 : Int32) <<< (x6_15 &&& 31)) ^^^ (-1))), .int (x + 1), .ref n, .ref t, .ref g]) (n := 5) (C := RX2) (ci := 2) ⟨hx, hb, hml, hown, hts⟩ (k_X2_heatBehind l G g g1 g2 g3 s0 t t1 t2 t3 t4 t5 t6 n n1 n2 n3 n4 n5 n6 n7 _ gs gm gg6_12 (upd fg1_9 x.toNatClampNeg x6_15) fg2_10 fg3_11 gs00_13 gs01_14 ns np fu fd fi sz_ pt fh kd nd fw ht wm se cd sl od ow lo mi sd x x6_15 y hp) gX2_place_X2_heatBehind rfl (by decide +kernel) ⟨by omega, by omega⟩ hKK hSS hS hA hP hD [0, 1, 2, 3, 4, 5, 6, 7, 8, 9, 10, 11, 12, 13, 14, 15, 16, 17, 18, 19] (by decide) rfl rfl rfl 0 rfl rfl hl.1 rfl (Nat.le_of_ble_eq_true rfl) dX2_place_108) hP hD hS hA [0, 1, 2, 3, 4, 5, 6, 7, 8, 9, 10, 11, 12, 13, 14, 15, 16, 17, 18, 19] [] [0, 1, 2, 3, 4, 5, 6, 7, 8, 9, 10, 11, 12, 13, 14, 15, 16, 17, 18, 19] rfl rfl (by decide) (by decide) (by decide) (fun _ => rfl) (fun r_22 u H locs hw hP hD hS => ?_)
                    obtain ⟨sw2_23, sh2_24⟩ := u
                    have hP : va_P G.1 vwCl [(g, .inr (2, [.ref s0, .ref g1, .ref g2, .ref g3, .int gs, .int gm, .int gg6_12])), aI G g1 6 (upd fg1_9 x.toNatClampNeg x6_15), aI G g2 6 fg2_10, aI G g3 256 fg3_11, (s0, .inr (4, [.int sw2_23, .int sh2_24])), (t, .inr (6, [.int ns, .int np, .int fu, .int fd, .int fi, .ref t1, .ref t2, .ref t3, .ref t4, .ref t5, .ref t6])), aI G t1 9 sz_, aI G t2 9 pt, aI G t3 9 fh, aI G t4 8 kd, aI G t5 8 nd, aI G t6 8 fw, (n, .inr (1, [.ref n1, .ref n2, .ref n3, .ref n4, .ref n5, .ref n6, .ref n7, .int lo, .int mi, .int sd])), aI G n1 9 ht, aI G n2 8 wm, aI G n3 8 se, aI G n4 8 cd, aI G n5 8 sl, aI G n6 8 od, aI G n7 72 ow] H := hP
                    have hD : va_D A [(g, .inr (2, [.ref s0, .ref g1, .ref g2, .ref g3, .int gs, .int gm, .int gg6_12])), aI G g1 6 (upd fg1_9 x.toNatClampNeg x6_15), aI G g2 6 fg2_10, aI G g3 256 fg3_11, (s0, .inr (4, [.int sw2_23, .int sh2_24])), (t, .inr (6, [.int ns, .int np, .int fu, .int fd, .int fi, .ref t1, .ref t2, .ref t3, .ref t4, .ref t5, .ref t6])), aI G t1 9 sz_, aI G t2 9 pt, aI G t3 9 fh, aI G t4 8 kd, aI G t5 8 nd, aI G t6 8 fw, (n, .inr (1, [.ref n1, .ref n2, .ref n3, .ref n4, .ref n5, .ref n6, .ref n7, .int lo, .int mi, .int sd])), aI G n1 9 ht, aI G n2 8 wm, aI G n3 8 se, aI G n4 8 cd, aI G n5 8 sl, aI G n6 8 od, aI G n7 72 ow] := hD
                    have hv := hv r_22 sw2_23 sh2_24 hw
                    obtain ⟨hp, hv⟩ := hv
                    refine x_callv (wr := []) (w' := fun (u : (Nat → Int32) × (Nat → Int32) × (Nat → Int32) × (Int32) × (Int32) × (Int32)) => [(g, .inr (2, [.ref s0, .ref g1, .ref g2, .ref g3, .int gs, .int gm, .int u.2.2.2.1])), aI G g1 6 u.1, aI G g2 6 u.2.1, aI G g3 256 u.2.2.1, (s0, .inr (4, [.int u.2.2.2.2.1, .int u.2.2.2.2.2])), (t, .inr (6, [.int ns, .int np, .int fu, .int fd, .int fi, .ref t1, .ref t2, .ref t3, .ref t4, .ref t5, .ref t6])), aI G t1 9 sz_, aI G t2 9 pt, aI G t3 9 fh, aI G t4 8 kd, aI G t5 8 nd, aI G t6 8 fw, (n, .inr (1, [.ref n1, .ref n2, .ref n3, .ref n4, .ref n5, .ref n6, .ref n7, .int lo, .int mi, .int sd])), aI G n1 9 ht, aI G n2 8 wm, aI G n3 8 se, aI G n4 8 cd, aI G n5 8 sl, aI G n6 8 od, aI G n7 72 ow]) (x_runV (As := [.ref t, .ref n, .int (x + 1), .int (lf &&& (((1 : Int32) <<< (x6_15 &&& 31)) ^^^ (-1))), .int r_22]) (rest := []) (n := 5) (C := RX2) (ci := 2) ⟨hx, hb, hml, hown, hts⟩ (hrec _ gs gm gg6_12 (upd fg1_9 x.toNatClampNeg x6_15) fg2_10 fg3_11 sw2_23 sh2_24 ns np fu fd fi sz_ pt fh kd nd fw ht wm se cd sl od ow lo mi sd (x + 1) (lf &&& (((1 : Int32) <<< (x6_15 &&& 31)) ^^^ (-1))) r_22 hp) gX2_place_X2_place rfl (by decide +kernel) ⟨by omega, by omega⟩ hKK hSS hS hA hP hD [0, 1, 2, 3, 4, 5, 6, 7, 8, 9, 10, 11, 12, 13, 14, 15, 16, 17, 18, 19] (by decide) rfl rfl rfl 0 rfl rfl hl.1 rfl (Nat.le_of_ble_eq_true rfl) dX2_place_111) hP hD hS hA [0, 1, 2, 3, 4, 5, 6, 7, 8, 9, 10, 11, 12, 13, 14, 15, 16, 17, 18, 19] [] [0, 1, 2, 3, 4, 5, 6, 7, 8, 9, 10, 11, 12, 13, 14, 15, 16, 17, 18, 19] rfl rfl (by decide) (by decide) (by decide) (fun _ => rfl) (fun  u H locs hw hP hD hS => ?_)
                    obtain ⟨go2_26, gz2_27, gf2_28, gb2_29, sw2_30, sh2_31⟩ := u
                    have hP : va_P G.1 vwCl [(g, .inr (2, [.ref s0, .ref g1, .ref g2, .ref g3, .int gs, .int gm, .int gb2_29])), aI G g1 6 go2_26, aI G g2 6 gz2_27, aI G g3 256 gf2_28, (s0, .inr (4, [.int sw2_30, .int sh2_31])), (t, .inr (6, [.int ns, .int np, .int fu, .int fd, .int fi, .ref t1, .ref t2, .ref t3, .ref t4, .ref t5, .ref t6])), aI G t1 9 sz_, aI G t2 9 pt, aI G t3 9 fh, aI G t4 8 kd, aI G t5 8 nd, aI G t6 8 fw, (n, .inr (1, [.ref n1, .ref n2, .ref n3, .ref n4, .ref n5, .ref n6, .ref n7, .int lo, .int mi, .int sd])), aI G n1 9 ht, aI G n2 8 wm, aI G n3 8 se, aI G n4 8 cd, aI G n5 8 sl, aI G n6 8 od, aI G n7 72 ow] H := hP
                    have hD : va_D A [(g, .inr (2, [.ref s0, .ref g1, .ref g2, .ref g3, .int gs, .int gm, .int gb2_29])), aI G g1 6 go2_26, aI G g2 6 gz2_27, aI G g3 256 gf2_28, (s0, .inr (4, [.int sw2_30, .int sh2_31])), (t, .inr (6, [.int ns, .int np, .int fu, .int fd, .int fi, .ref t1, .ref t2, .ref t3, .ref t4, .ref t5, .ref t6])), aI G t1 9 sz_, aI G t2 9 pt, aI G t3 9 fh, aI G t4 8 kd, aI G t5 8 nd, aI G t6 8 fw, (n, .inr (1, [.ref n1, .ref n2, .ref n3, .ref n4, .ref n5, .ref n6, .ref n7, .int lo, .int mi, .int sd])), aI G n1 9 ht, aI G n2 8 wm, aI G n3 8 se, aI G n4 8 cd, aI G n5 8 sl, aI G n6 8 od, aI G n7 72 ow] := hD
                    have hv := hv go2_26 gz2_27 gf2_28 gb2_29 sw2_30 sh2_31 hw
                    refine lv_iinc (v := (x6_15 + 1)) (lv' := [(6, .int (x6_15 + 1)), (0, .ref g), (1, .ref t), (2, .ref n), (3, .int x), (4, .int lf), (5, .int y)]) hx hb dX2_place_114 hl (k := 0) rfl rfl (by decide) rfl (fun ls hl => ?_)
                    refine lv_goto (tgt := 58) hx hb dX2_place_117 (by decide) ?_
                    exact ih_18 _ _ _ _ _ _ _ _ _ _ (Nat.lt_of_lt_of_le hv.2 (Nat.le_of_lt_succ hI_19)) hv.1 hP hD hS hl
            exact Lm_34 _ _ _ _ _ _ _ _ _ _ _ (Nat.lt_succ_self _) hi0 hP hD hS hl
          · have hv := hv.2 hc_8
            refine lv_aload_n hx hb dX2_place_48 rfl (lv_at hl 0 rfl) ?_
            refine lv_iload hx hb dX2_place_49 (lv_at hl 5 rfl) ?_
            refine x_callv (wr := [(s0, .inr (4, [.int sw, .int sh])), (t, .inr (6, [.int ns, .int np, .int fu, .int fd, .int fi, .ref t1, .ref t2, .ref t3, .ref t4, .ref t5, .ref t6])), aI G t1 9 sz_, aI G t2 9 pt, aI G t3 9 fh, aI G t4 8 kd, aI G t5 8 nd, aI G t6 8 fw, (n, .inr (1, [.ref n1, .ref n2, .ref n3, .ref n4, .ref n5, .ref n6, .ref n7, .int lo, .int mi, .int sd])), aI G n1 9 ht, aI G n2 8 wm, aI G n3 8 se, aI G n4 8 cd, aI G n5 8 sl, aI G n6 8 od, aI G n7 72 ow]) (w' := fun (u : (Nat → Int32) × (Int32)) => [(g, .inr (2, [.ref s0, .ref g1, .ref g2, .ref g3, .int gs, .int gm, .int u.2])), aI G g1 6 go, aI G g2 6 u.1, aI G g3 256 (upd gf lf.toNatClampNeg y), (s0, .inr (4, [.int sw, .int sh])), (t, .inr (6, [.int ns, .int np, .int fu, .int fd, .int fi, .ref t1, .ref t2, .ref t3, .ref t4, .ref t5, .ref t6])), aI G t1 9 sz_, aI G t2 9 pt, aI G t3 9 fh, aI G t4 8 kd, aI G t5 8 nd, aI G t6 8 fw, (n, .inr (1, [.ref n1, .ref n2, .ref n3, .ref n4, .ref n5, .ref n6, .ref n7, .int lo, .int mi, .int sd])), aI G n1 9 ht, aI G n2 8 wm, aI G n3 8 se, aI G n4 8 cd, aI G n5 8 sl, aI G n6 8 od, aI G n7 72 ow]) (x_runV (As := [.int y]) (rest := []) (n := 1) (C := RX2) (ci := 2) ⟨hx, hb, hml, hown, hts⟩ (k_X2_keepBest l G g g1 g2 g3 _ s0 gs gm gb go gz (upd gf lf.toNatClampNeg y) y) gX2_place_X2_keepBest rfl (by decide +kernel) ⟨by omega, by omega⟩ hKK hSS hS hA hP hD [0, 1, 2, 3] (by decide) rfl rfl rfl 0 rfl rfl hl.1 rfl (Nat.le_of_ble_eq_true rfl) dX2_place_51) hP hD hS hA [0, 1, 2, 3] [4, 5, 6, 7, 8, 9, 10, 11, 12, 13, 14, 15, 16, 17, 18, 19] [16, 17, 18, 19, 0, 1, 2, 3, 4, 5, 6, 7, 8, 9, 10, 11, 12, 13, 14, 15] rfl rfl (by decide) (by decide) (by decide) (fun _ => rfl) (fun  u H locs hw hP hD hS => ?_)
            obtain ⟨gz2_36, gb2_37⟩ := u
            obtain ⟨hw0, hw1⟩ := hw
            replace hw0 := hw0.symm; subst hw0
            replace hw1 := hw1.symm; subst hw1
            have hP : va_P G.1 vwCl [(g, .inr (2, [.ref s0, .ref g1, .ref g2, .ref g3, .int gs, .int gm, .int y])), aI G g1 6 go, aI G g2 6 (va_cpy go gz 0 0 6), aI G g3 256 (upd gf lf.toNatClampNeg y), (s0, .inr (4, [.int sw, .int sh])), (t, .inr (6, [.int ns, .int np, .int fu, .int fd, .int fi, .ref t1, .ref t2, .ref t3, .ref t4, .ref t5, .ref t6])), aI G t1 9 sz_, aI G t2 9 pt, aI G t3 9 fh, aI G t4 8 kd, aI G t5 8 nd, aI G t6 8 fw, (n, .inr (1, [.ref n1, .ref n2, .ref n3, .ref n4, .ref n5, .ref n6, .ref n7, .int lo, .int mi, .int sd])), aI G n1 9 ht, aI G n2 8 wm, aI G n3 8 se, aI G n4 8 cd, aI G n5 8 sl, aI G n6 8 od, aI G n7 72 ow] H := hP
            have hD : va_D A [(g, .inr (2, [.ref s0, .ref g1, .ref g2, .ref g3, .int gs, .int gm, .int y])), aI G g1 6 go, aI G g2 6 (va_cpy go gz 0 0 6), aI G g3 256 (upd gf lf.toNatClampNeg y), (s0, .inr (4, [.int sw, .int sh])), (t, .inr (6, [.int ns, .int np, .int fu, .int fd, .int fi, .ref t1, .ref t2, .ref t3, .ref t4, .ref t5, .ref t6])), aI G t1 9 sz_, aI G t2 9 pt, aI G t3 9 fh, aI G t4 8 kd, aI G t5 8 nd, aI G t6 8 fw, (n, .inr (1, [.ref n1, .ref n2, .ref n3, .ref n4, .ref n5, .ref n6, .ref n7, .int lo, .int mi, .int sd])), aI G n1 9 ht, aI G n2 8 wm, aI G n3 8 se, aI G n4 8 cd, aI G n5 8 sl, aI G n6 8 od, aI G n7 72 ow] := hD
            exact x_vret (go, (va_cpy go gz 0 0 6), (upd gf lf.toNatClampNeg y), y, sw, sh) hQ hx hb hr hlocks hS dX2_place_54 hv hP hD
      · have hv := hv.2 hc_3
        exact x_vret (go, gz, gf, gb, sw, sh) hQ hx hb hr hlocks hS dX2_place_27 hv hP hD
theorem k_X2_place (d : Nat) : ∀ (l : Launch) (G : Gt) (g g1 g2 g3 s0 t t1 t2 t3 t4 t5 t6 n n1 n2 n3 n4 n5 n6 n7 : Nat) (sz : Nat) (gs : Int32) (gm : Int32) (gb : Int32) (go : Nat → Int32) (gz : Nat → Int32) (gf : Nat → Int32) (sw : Int32) (sh : Int32) (ns : Int32) (np : Int32) (fu : Int32) (fd : Int32) (fi : Int32) (sz_ : Nat → Int32) (pt : Nat → Int32) (fh : Nat → Int32) (kd : Nat → Int32) (nd : Nat → Int32) (fw : Nat → Int32) (ht : Nat → Int32) (wm : Nat → Int32) (se : Nat → Int32) (cd : Nat → Int32) (sl : Nat → Int32) (od : Nat → Int32) (ow : Nat → Int32) (lo : Int32) (mi : Int32) (sd : Int32) (x : Int32) (lf : Int32) (y : Int32), d = d → MetV l yX2_place wsX2_place (4 + d) (97 + 26 * d) G [.ref g, .ref t, .ref n, .int x, .int lf, .int y] [(g, .inr (2, [.ref s0, .ref g1, .ref g2, .ref g3, .int gs, .int gm, .int gb])), aI G g1 6 go, aI G g2 6 gz, aI G g3 256 gf, (s0, .inr (4, [.int sw, .int sh])), (t, .inr (6, [.int ns, .int np, .int fu, .int fd, .int fi, .ref t1, .ref t2, .ref t3, .ref t4, .ref t5, .ref t6])), aI G t1 9 sz_, aI G t2 9 pt, aI G t3 9 fh, aI G t4 8 kd, aI G t5 8 nd, aI G t6 8 fw, (n, .inr (1, [.ref n1, .ref n2, .ref n3, .ref n4, .ref n5, .ref n6, .ref n7, .int lo, .int mi, .int sd])), aI G n1 9 ht, aI G n2 8 wm, aI G n3 8 se, aI G n4 8 cd, aI G n5 8 sl, aI G n6 8 od, aI G n7 72 ow] sz (fun (u : (Nat → Int32) × (Nat → Int32) × (Nat → Int32) × (Int32) × (Int32) × (Int32)) => True ∧ d = d) (fun (u : (Nat → Int32) × (Nat → Int32) × (Nat → Int32) × (Int32) × (Int32) × (Int32)) => [(g, .inr (2, [.ref s0, .ref g1, .ref g2, .ref g3, .int gs, .int gm, .int u.2.2.2.1])), aI G g1 6 u.1, aI G g2 6 u.2.1, aI G g3 256 u.2.2.1, (s0, .inr (4, [.int u.2.2.2.2.1, .int u.2.2.2.2.2])), (t, .inr (6, [.int ns, .int np, .int fu, .int fd, .int fi, .ref t1, .ref t2, .ref t3, .ref t4, .ref t5, .ref t6])), aI G t1 9 sz_, aI G t2 9 pt, aI G t3 9 fh, aI G t4 8 kd, aI G t5 8 nd, aI G t6 8 fw, (n, .inr (1, [.ref n1, .ref n2, .ref n3, .ref n4, .ref n5, .ref n6, .ref n7, .int lo, .int mi, .int sd])), aI G n1 9 ht, aI G n2 8 wm, aI G n3 8 se, aI G n4 8 cd, aI G n5 8 sl, aI G n6 8 od, aI G n7 72 ow]) := by
  sorry

set_option maxHeartbeats 4000000 in
set_option maxRecDepth 100000 in
theorem c_X2_search (l : Launch) (G : Gt) (g g1 g2 g3 s0 t t1 t2 t3 t4 t5 t6 n n1 n2 n3 n4 n5 n6 n7 : Nat) (sz : Nat) (gs : Int32) (gm : Int32) (gb : Int32) (go : Nat → Int32) (gz : Nat → Int32) (gf : Nat → Int32) (sw : Int32) (sh : Int32) (ns : Int32) (np : Int32) (fu : Int32) (fd : Int32) (fi : Int32) (sz_ : Nat → Int32) (pt : Nat → Int32) (fh : Nat → Int32) (kd : Nat → Int32) (nd : Nat → Int32) (fw : Nat → Int32) (ht : Nat → Int32) (wm : Nat → Int32) (se : Nat → Int32) (cd : Nat → Int32) (sl : Nat → Int32) (od : Nat → Int32) (ow : Nat → Int32) (lo : Int32) (mi : Int32) (sd : Int32) (x : Int32) (y : Int32) (z : Int32) (hv : ∃ (I14_3 : (Nat → Int32) → Int32 → Prop) (μ14_4 : (Nat → Int32) → Int32 → Nat), I14_3 gf 0 ∧ (∀ (fg3_1 : (Nat → Int32)) (x6_2 : Int32), I14_3 fg3_1 x6_2 → (256 ≤ x6_2 → (vp_in x 9) ∧ ((7 = 7) ∧ (∀ (go2_9 : Nat → Int32) (gz2_10 : Nat → Int32) (gf2_11 : Nat → Int32) (gb2_12 : Int32) (sw2_13 : Int32) (sh2_14 : Int32), (True ∧ 7 = 7) → (True)))) ∧ (¬ (256 ≤ x6_2) → (vp_in x6_2 256) ∧ (I14_3 (upd fg3_1 x6_2.toNatClampNeg (-1)) (x6_2 + 1) ∧ μ14_4 (upd fg3_1 x6_2.toNatClampNeg (-1)) (x6_2 + 1) < μ14_4 fg3_1 x6_2)))) : MetV l yX2_search wsX2_search 12 305 G [.ref g, .ref t, .ref n, .int x, .int y, .int z] [(g, .inr (2, [.ref s0, .ref g1, .ref g2, .ref g3, .int gs, .int gm, .int gb])), aI G g1 6 go, aI G g2 6 gz, aI G g3 256 gf, (s0, .inr (4, [.int sw, .int sh])), (t, .inr (6, [.int ns, .int np, .int fu, .int fd, .int fi, .ref t1, .ref t2, .ref t3, .ref t4, .ref t5, .ref t6])), aI G t1 9 sz_, aI G t2 9 pt, aI G t3 9 fh, aI G t4 8 kd, aI G t5 8 nd, aI G t6 8 fw, (n, .inr (1, [.ref n1, .ref n2, .ref n3, .ref n4, .ref n5, .ref n6, .ref n7, .int lo, .int mi, .int sd])), aI G n1 9 ht, aI G n2 8 wm, aI G n3 8 se, aI G n4 8 cd, aI G n5 8 sl, aI G n6 8 od, aI G n7 72 ow] sz (fun (u : (Nat → Int32) × (Nat → Int32) × (Nat → Int32) × (Int32) × (Int32) × (Int32) × (Int32) × (Int32)) => True) (fun (u : (Nat → Int32) × (Nat → Int32) × (Nat → Int32) × (Int32) × (Int32) × (Int32) × (Int32) × (Int32)) => [(g, .inr (2, [.ref s0, .ref g1, .ref g2, .ref g3, .int u.2.2.2.2.2.2.1, .int u.2.2.2.2.2.2.2, .int u.2.2.2.1])), aI G g1 6 u.1, aI G g2 6 u.2.1, aI G g3 256 u.2.2.1, (s0, .inr (4, [.int u.2.2.2.2.1, .int u.2.2.2.2.2.1])), (t, .inr (6, [.int ns, .int np, .int fu, .int fd, .int fi, .ref t1, .ref t2, .ref t3, .ref t4, .ref t5, .ref t6])), aI G t1 9 sz_, aI G t2 9 pt, aI G t3 9 fh, aI G t4 8 kd, aI G t5 8 nd, aI G t6 8 fw, (n, .inr (1, [.ref n1, .ref n2, .ref n3, .ref n4, .ref n5, .ref n6, .ref n7, .int lo, .int mi, .int sd])), aI G n1 9 ht, aI G n2 8 wm, aI G n3 8 se, aI G n4 8 cd, aI G n5 8 sl, aI G n6 8 od, aI G n7 72 ow]) := by
  refine x_startV (cc := cX2_search) (maxL := 7) (ret := none) (by decide) rfl (Nat.le_of_ble_eq_true rfl) ?_
  intro p e s m args below meth c A R Q ls hRf hRl hQ C hP hD hS hA hSS hl
  obtain ⟨hx, hb, hr, hml, hown, hts, hlocks, hKK⟩ := C
  have hown : s.vm.findClass RX2 = some m.cls := hown
  have hl : lv_has ls 7 [(0, .ref g), (1, .ref t), (2, .ref n), (3, .int x), (4, .int y), (5, .int z)] := hl
  have hinX1 : ∀ w ∈ u_ws RX1 TX1 10, w ∈ wsX2_search := by decide +kernel
  have hinX2 : ∀ w ∈ u_ws RX2 TX2 7, w ∈ wsX2_search := by decide +kernel
  have kl25 := hts (.fieldLink RX2 25 "WarmStones$Passing" "followed" "[I") (by decide +kernel)
  have kl28 := hts (.fieldLink RX2 28 "WarmStones$Passing" "stone" "I") (by decide +kernel)
  have kl32 := hts (.fieldLink RX2 32 "WarmStones$Passing" "minutes" "I") (by decide +kernel)
  have kl35 := hts (.fieldLink RX2 35 "WarmStones$Night" "heat" "[I") (by decide +kernel)
  refine lv_aload_n hx hb dX2_search_0 rfl (lv_at hl 0 rfl) ?_
  refine lv_iload_n hx hb dX2_search_1 rfl (lv_at hl 3 rfl) ?_
  refine va_put (D := G.1) (ci := 2) (v := .int x) (ty := .int) (C := RX2) (T := TX2) (N := 7) hx hb hts hinX2 tyX2 tyX2_ok nmX2 hown hKK.1 hP hD hS 0 rfl rfl 4 (by decide) kl28 (fun _ h9 => h9) rfl (by decide +kernel) rfl rfl (Nat.le_of_ble_eq_true rfl) dX2_search_2 (fun H locs hP hD hS => ?_)
  have hP : va_P G.1 vwCl [(g, .inr (2, [.ref s0, .ref g1, .ref g2, .ref g3, .int x, .int gm, .int gb])), aI G g1 6 go, aI G g2 6 gz, aI G g3 256 gf, (s0, .inr (4, [.int sw, .int sh])), (t, .inr (6, [.int ns, .int np, .int fu, .int fd, .int fi, .ref t1, .ref t2, .ref t3, .ref t4, .ref t5, .ref t6])), aI G t1 9 sz_, aI G t2 9 pt, aI G t3 9 fh, aI G t4 8 kd, aI G t5 8 nd, aI G t6 8 fw, (n, .inr (1, [.ref n1, .ref n2, .ref n3, .ref n4, .ref n5, .ref n6, .ref n7, .int lo, .int mi, .int sd])), aI G n1 9 ht, aI G n2 8 wm, aI G n3 8 se, aI G n4 8 cd, aI G n5 8 sl, aI G n6 8 od, aI G n7 72 ow] H := hP
  have hD : va_D A [(g, .inr (2, [.ref s0, .ref g1, .ref g2, .ref g3, .int x, .int gm, .int gb])), aI G g1 6 go, aI G g2 6 gz, aI G g3 256 gf, (s0, .inr (4, [.int sw, .int sh])), (t, .inr (6, [.int ns, .int np, .int fu, .int fd, .int fi, .ref t1, .ref t2, .ref t3, .ref t4, .ref t5, .ref t6])), aI G t1 9 sz_, aI G t2 9 pt, aI G t3 9 fh, aI G t4 8 kd, aI G t5 8 nd, aI G t6 8 fw, (n, .inr (1, [.ref n1, .ref n2, .ref n3, .ref n4, .ref n5, .ref n6, .ref n7, .int lo, .int mi, .int sd])), aI G n1 9 ht, aI G n2 8 wm, aI G n3 8 se, aI G n4 8 cd, aI G n5 8 sl, aI G n6 8 od, aI G n7 72 ow] := hD
  refine lv_aload_n hx hb dX2_search_5 rfl (lv_at hl 0 rfl) ?_
  refine lv_iload hx hb dX2_search_6 (lv_at hl 5 rfl) ?_
  refine va_put (D := G.1) (ci := 2) (v := .int z) (ty := .int) (C := RX2) (T := TX2) (N := 7) hx hb hts hinX2 tyX2 tyX2_ok nmX2 hown hKK.1 hP hD hS 0 rfl rfl 5 (by decide) kl32 (fun _ h9 => h9) rfl (by decide +kernel) rfl rfl (Nat.le_of_ble_eq_true rfl) dX2_search_8 (fun H locs hP hD hS => ?_)
  have hP : va_P G.1 vwCl [(g, .inr (2, [.ref s0, .ref g1, .ref g2, .ref g3, .int x, .int z, .int gb])), aI G g1 6 go, aI G g2 6 gz, aI G g3 256 gf, (s0, .inr (4, [.int sw, .int sh])), (t, .inr (6, [.int ns, .int np, .int fu, .int fd, .int fi, .ref t1, .ref t2, .ref t3, .ref t4, .ref t5, .ref t6])), aI G t1 9 sz_, aI G t2 9 pt, aI G t3 9 fh, aI G t4 8 kd, aI G t5 8 nd, aI G t6 8 fw, (n, .inr (1, [.ref n1, .ref n2, .ref n3, .ref n4, .ref n5, .ref n6, .ref n7, .int lo, .int mi, .int sd])), aI G n1 9 ht, aI G n2 8 wm, aI G n3 8 se, aI G n4 8 cd, aI G n5 8 sl, aI G n6 8 od, aI G n7 72 ow] H := hP
  have hD : va_D A [(g, .inr (2, [.ref s0, .ref g1, .ref g2, .ref g3, .int x, .int z, .int gb])), aI G g1 6 go, aI G g2 6 gz, aI G g3 256 gf, (s0, .inr (4, [.int sw, .int sh])), (t, .inr (6, [.int ns, .int np, .int fu, .int fd, .int fi, .ref t1, .ref t2, .ref t3, .ref t4, .ref t5, .ref t6])), aI G t1 9 sz_, aI G t2 9 pt, aI G t3 9 fh, aI G t4 8 kd, aI G t5 8 nd, aI G t6 8 fw, (n, .inr (1, [.ref n1, .ref n2, .ref n3, .ref n4, .ref n5, .ref n6, .ref n7, .int lo, .int mi, .int sd])), aI G n1 9 ht, aI G n2 8 wm, aI G n3 8 se, aI G n4 8 cd, aI G n5 8 sl, aI G n6 8 od, aI G n7 72 ow] := hD
  refine lv_iconst (v := 0) hx hb dX2_search_11 (by decide) ?_
  refine lv_istore (lv' := [(6, .int 0), (0, .ref g), (1, .ref t), (2, .ref n), (3, .int x), (4, .int y), (5, .int z)]) hx hb dX2_search_12 hl (by decide) rfl (fun ls hl => ?_)
  obtain ⟨I14_3, μ14_4, hi0, hs_15⟩ := hv
  have Lm_17 : ∀ (n_16 : Nat) (fg3_1 : (Nat → Int32)) (x6_2 : Int32) (H : Heap) (locs : List Loc) (ls : Array Slot), μ14_4 fg3_1 x6_2 < n_16 → I14_3 fg3_1 x6_2 → va_P G.1 vwCl [(g, .inr (2, [.ref s0, .ref g1, .ref g2, .ref g3, .int x, .int z, .int gb])), aI G g1 6 go, aI G g2 6 gz, aI G g3 256 fg3_1, (s0, .inr (4, [.int sw, .int sh])), (t, .inr (6, [.int ns, .int np, .int fu, .int fd, .int fi, .ref t1, .ref t2, .ref t3, .ref t4, .ref t5, .ref t6])), aI G t1 9 sz_, aI G t2 9 pt, aI G t3 9 fh, aI G t4 8 kd, aI G t5 8 nd, aI G t6 8 fw, (n, .inr (1, [.ref n1, .ref n2, .ref n3, .ref n4, .ref n5, .ref n6, .ref n7, .int lo, .int mi, .int sd])), aI G n1 9 ht, aI G n2 8 wm, aI G n3 8 se, aI G n4 8 cd, aI G n5 8 sl, aI G n6 8 od, aI G n7 72 ow] H → va_D A [(g, .inr (2, [.ref s0, .ref g1, .ref g2, .ref g3, .int x, .int z, .int gb])), aI G g1 6 go, aI G g2 6 gz, aI G g3 256 fg3_1, (s0, .inr (4, [.int sw, .int sh])), (t, .inr (6, [.int ns, .int np, .int fu, .int fd, .int fi, .ref t1, .ref t2, .ref t3, .ref t4, .ref t5, .ref t6])), aI G t1 9 sz_, aI G t2 9 pt, aI G t3 9 fh, aI G t4 8 kd, aI G t5 8 nd, aI G t6 8 fw, (n, .inr (1, [.ref n1, .ref n2, .ref n3, .ref n4, .ref n5, .ref n6, .ref n7, .int lo, .int mi, .int sd])), aI G n1 9 ht, aI G n2 8 wm, aI G n3 8 se, aI G n4 8 cd, aI G n5 8 sl, aI G n6 8 od, aI G n7 72 ow] → va_S A s.heap H locs → lv_has ls 7 [(6, .int x6_2), (0, .ref g), (1, .ref t), (2, .ref n), (3, .int x), (4, .int y), (5, .int z)] → W p l e R s m args below meth c H locs 0 0 Q (F0 m 14 ls []) := by
    intro n_16
    induction n_16 with
    | zero => intro fg3_1 x6_2 H locs ls hm; exact absurd hm (Nat.not_lt_zero _)
    | succ n_16 ih_5 =>
      intro fg3_1 x6_2 H locs ls hI_6 hi hP hD hS hl
      have hv := hs_15 fg3_1 x6_2 hi
      refine lv_iload hx hb dX2_search_14 (lv_at hl 0 rfl) ?_
      refine lv_aload_n hx hb dX2_search_16 rfl (lv_at hl 1 rfl) ?_
      refine va_get (D := G.1) (ci := 2) (v := .ref g3) (C := RX2) (T := TX2) (N := 7) hx hb hts hinX2 hown hKK.1 hP 0 rfl rfl 3 (by decide) kl25 (fun _ h9 => h9) rfl dX2_search_17 ?_
      refine va_alen (v := 256) hx hb hKK.1 hP 3 0 rfl rfl rfl dX2_search_20 ?_
      refine lv_icmp_ge (tgt := 38) hx hb dX2_search_21 (by decide) (fun hc_7 => ?_) (fun hc_7 => ?_)
      · have hv := hv.1 hc_7
        refine lv_aload_n hx hb dX2_search_38 rfl (lv_at hl 1 rfl) ?_
        refine lv_aload_n hx hb dX2_search_39 rfl (lv_at hl 2 rfl) ?_
        refine lv_aload_n hx hb dX2_search_40 rfl (lv_at hl 3 rfl) ?_
        refine lv_iconst (v := 0) hx hb dX2_search_41 (by decide) ?_
        refine lv_iload hx hb dX2_search_42 (lv_at hl 5 rfl) ?_
        refine lv_aload_n hx hb dX2_search_44 rfl (lv_at hl 3 rfl) ?_
        refine va_get (D := G.1) (ci := 1) (v := .ref n1) (C := RX1) (T := TX1) (N := 10) hx hb hts hinX1 hown hKK.1 hP 12 rfl rfl 0 (by decide) kl35 (fun _ h9 => h9) rfl dX2_search_45 ?_
        refine lv_iload_n hx hb dX2_search_48 rfl (lv_at hl 4 rfl) ?_
        obtain ⟨hin, hv⟩ := hv
        refine va_iald hx hb hKK.1 hP 13 0 rfl rfl hin dX2_search_49 ?_
        obtain ⟨hp, hv⟩ := hv
        refine x_callv (wr := []) (w' := fun (u : (Nat → Int32) × (Nat → Int32) × (Nat → Int32) × (Int32) × (Int32) × (Int32)) => [(g, .inr (2, [.ref s0, .ref g1, .ref g2, .ref g3, .int x, .int z, .int u.2.2.2.1])), aI G g1 6 u.1, aI G g2 6 u.2.1, aI G g3 256 u.2.2.1, (s0, .inr (4, [.int u.2.2.2.2.1, .int u.2.2.2.2.2])), (t, .inr (6, [.int ns, .int np, .int fu, .int fd, .int fi, .ref t1, .ref t2, .ref t3, .ref t4, .ref t5, .ref t6])), aI G t1 9 sz_, aI G t2 9 pt, aI G t3 9 fh, aI G t4 8 kd, aI G t5 8 nd, aI G t6 8 fw, (n, .inr (1, [.ref n1, .ref n2, .ref n3, .ref n4, .ref n5, .ref n6, .ref n7, .int lo, .int mi, .int sd])), aI G n1 9 ht, aI G n2 8 wm, aI G n3 8 se, aI G n4 8 cd, aI G n5 8 sl, aI G n6 8 od, aI G n7 72 ow]) (x_runV (As := [.ref t, .ref n, .int 0, .int y, .int (ht x.toNatClampNeg)]) (rest := []) (n := 5) (C := RX2) (ci := 2) ⟨hx, hb, hml, hown, hts⟩ (k_X2_place 7 l G g g1 g2 g3 s0 t t1 t2 t3 t4 t5 t6 n n1 n2 n3 n4 n5 n6 n7 _ x z gb go gz fg3_1 sw sh ns np fu fd fi sz_ pt fh kd nd fw ht wm se cd sl od ow lo mi sd 0 y (ht x.toNatClampNeg) hp) gX2_search_X2_place rfl (by decide +kernel) ⟨Nat.le_trans (Nat.le_of_ble_eq_true rfl) hRf, Nat.le_trans (Nat.le_of_ble_eq_true rfl) hRl⟩ hKK hSS hS hA hP hD [0, 1, 2, 3, 4, 5, 6, 7, 8, 9, 10, 11, 12, 13, 14, 15, 16, 17, 18, 19] (by decide) rfl rfl rfl 0 rfl rfl hl.1 rfl (Nat.le_of_ble_eq_true rfl) dX2_search_50) hP hD hS hA [0, 1, 2, 3, 4, 5, 6, 7, 8, 9, 10, 11, 12, 13, 14, 15, 16, 17, 18, 19] [] [0, 1, 2, 3, 4, 5, 6, 7, 8, 9, 10, 11, 12, 13, 14, 15, 16, 17, 18, 19] rfl rfl (by decide) (by decide) (by decide) (fun _ => rfl) (fun  u H locs hw hP hD hS => ?_)
        obtain ⟨go2_9, gz2_10, gf2_11, gb2_12, sw2_13, sh2_14⟩ := u
        have hP : va_P G.1 vwCl [(g, .inr (2, [.ref s0, .ref g1, .ref g2, .ref g3, .int x, .int z, .int gb2_12])), aI G g1 6 go2_9, aI G g2 6 gz2_10, aI G g3 256 gf2_11, (s0, .inr (4, [.int sw2_13, .int sh2_14])), (t, .inr (6, [.int ns, .int np, .int fu, .int fd, .int fi, .ref t1, .ref t2, .ref t3, .ref t4, .ref t5, .ref t6])), aI G t1 9 sz_, aI G t2 9 pt, aI G t3 9 fh, aI G t4 8 kd, aI G t5 8 nd, aI G t6 8 fw, (n, .inr (1, [.ref n1, .ref n2, .ref n3, .ref n4, .ref n5, .ref n6, .ref n7, .int lo, .int mi, .int sd])), aI G n1 9 ht, aI G n2 8 wm, aI G n3 8 se, aI G n4 8 cd, aI G n5 8 sl, aI G n6 8 od, aI G n7 72 ow] H := hP
        have hD : va_D A [(g, .inr (2, [.ref s0, .ref g1, .ref g2, .ref g3, .int x, .int z, .int gb2_12])), aI G g1 6 go2_9, aI G g2 6 gz2_10, aI G g3 256 gf2_11, (s0, .inr (4, [.int sw2_13, .int sh2_14])), (t, .inr (6, [.int ns, .int np, .int fu, .int fd, .int fi, .ref t1, .ref t2, .ref t3, .ref t4, .ref t5, .ref t6])), aI G t1 9 sz_, aI G t2 9 pt, aI G t3 9 fh, aI G t4 8 kd, aI G t5 8 nd, aI G t6 8 fw, (n, .inr (1, [.ref n1, .ref n2, .ref n3, .ref n4, .ref n5, .ref n6, .ref n7, .int lo, .int mi, .int sd])), aI G n1 9 ht, aI G n2 8 wm, aI G n3 8 se, aI G n4 8 cd, aI G n5 8 sl, aI G n6 8 od, aI G n7 72 ow] := hD
        have hv := hv go2_9 gz2_10 gf2_11 gb2_12 sw2_13 sh2_14 hw
        exact x_vret (go2_9, gz2_10, gf2_11, gb2_12, sw2_13, sh2_14, x, z) hQ hx hb hr hlocks hS dX2_search_53 hv hP hD
      · have hv := hv.2 hc_7
        refine lv_aload_n hx hb dX2_search_24 rfl (lv_at hl 1 rfl) ?_
        refine va_get (D := G.1) (ci := 2) (v := .ref g3) (C := RX2) (T := TX2) (N := 7) hx hb hts hinX2 hown hKK.1 hP 0 rfl rfl 3 (by decide) kl25 (fun _ h9 => h9) rfl dX2_search_25 ?_
        refine lv_iload hx hb dX2_search_28 (lv_at hl 0 rfl) ?_
        refine lv_iconst (v := (-1)) hx hb dX2_search_30 (by decide) ?_
        obtain ⟨hin, hv⟩ := hv
        refine va_iast hx hb hKK.1 hP hD hS 3 0 rfl rfl hin dX2_search_31 (fun H locs hP hD hS => ?_)
        have hP : va_P G.1 vwCl [(g, .inr (2, [.ref s0, .ref g1, .ref g2, .ref g3, .int x, .int z, .int gb])), aI G g1 6 go, aI G g2 6 gz, aI G g3 256 (upd fg3_1 x6_2.toNatClampNeg (-1)), (s0, .inr (4, [.int sw, .int sh])), (t, .inr (6, [.int ns, .int np, .int fu, .int fd, .int fi, .ref t1, .ref t2, .ref t3, .ref t4, .ref t5, .ref t6])), aI G t1 9 sz_, aI G t2 9 pt, aI G t3 9 fh, aI G t4 8 kd, aI G t5 8 nd, aI G t6 8 fw, (n, .inr (1, [.ref n1, .ref n2, .ref n3, .ref n4, .ref n5, .ref n6, .ref n7, .int lo, .int mi, .int sd])), aI G n1 9 ht, aI G n2 8 wm, aI G n3 8 se, aI G n4 8 cd, aI G n5 8 sl, aI G n6 8 od, aI G n7 72 ow] H := hP
        have hD : va_D A [(g, .inr (2, [.ref s0, .ref g1, .ref g2, .ref g3, .int x, .int z, .int gb])), aI G g1 6 go, aI G g2 6 gz, aI G g3 256 (upd fg3_1 x6_2.toNatClampNeg (-1)), (s0, .inr (4, [.int sw, .int sh])), (t, .inr (6, [.int ns, .int np, .int fu, .int fd, .int fi, .ref t1, .ref t2, .ref t3, .ref t4, .ref t5, .ref t6])), aI G t1 9 sz_, aI G t2 9 pt, aI G t3 9 fh, aI G t4 8 kd, aI G t5 8 nd, aI G t6 8 fw, (n, .inr (1, [.ref n1, .ref n2, .ref n3, .ref n4, .ref n5, .ref n6, .ref n7, .int lo, .int mi, .int sd])), aI G n1 9 ht, aI G n2 8 wm, aI G n3 8 se, aI G n4 8 cd, aI G n5 8 sl, aI G n6 8 od, aI G n7 72 ow] := hD
        refine lv_iinc (v := (x6_2 + 1)) (lv' := [(6, .int (x6_2 + 1)), (0, .ref g), (1, .ref t), (2, .ref n), (3, .int x), (4, .int y), (5, .int z)]) hx hb dX2_search_32 hl (k := 0) rfl rfl (by decide) rfl (fun ls hl => ?_)
        refine lv_goto (tgt := 14) hx hb dX2_search_35 (by decide) ?_
        exact ih_5 _ _ _ _ _ (Nat.lt_of_lt_of_le hv.2 (Nat.le_of_lt_succ hI_6)) hv.1 hP hD hS hl
  exact Lm_17 _ _ _ _ _ _ (Nat.lt_succ_self _) hi0 hP hD hS hl
theorem k_X2_search (l : Launch) (G : Gt) (g g1 g2 g3 s0 t t1 t2 t3 t4 t5 t6 n n1 n2 n3 n4 n5 n6 n7 : Nat) (sz : Nat) (gs : Int32) (gm : Int32) (gb : Int32) (go : Nat → Int32) (gz : Nat → Int32) (gf : Nat → Int32) (sw : Int32) (sh : Int32) (ns : Int32) (np : Int32) (fu : Int32) (fd : Int32) (fi : Int32) (sz_ : Nat → Int32) (pt : Nat → Int32) (fh : Nat → Int32) (kd : Nat → Int32) (nd : Nat → Int32) (fw : Nat → Int32) (ht : Nat → Int32) (wm : Nat → Int32) (se : Nat → Int32) (cd : Nat → Int32) (sl : Nat → Int32) (od : Nat → Int32) (ow : Nat → Int32) (lo : Int32) (mi : Int32) (sd : Int32) (x : Int32) (y : Int32) (z : Int32) (hp : True) : MetV l yX2_search wsX2_search 12 305 G [.ref g, .ref t, .ref n, .int x, .int y, .int z] [(g, .inr (2, [.ref s0, .ref g1, .ref g2, .ref g3, .int gs, .int gm, .int gb])), aI G g1 6 go, aI G g2 6 gz, aI G g3 256 gf, (s0, .inr (4, [.int sw, .int sh])), (t, .inr (6, [.int ns, .int np, .int fu, .int fd, .int fi, .ref t1, .ref t2, .ref t3, .ref t4, .ref t5, .ref t6])), aI G t1 9 sz_, aI G t2 9 pt, aI G t3 9 fh, aI G t4 8 kd, aI G t5 8 nd, aI G t6 8 fw, (n, .inr (1, [.ref n1, .ref n2, .ref n3, .ref n4, .ref n5, .ref n6, .ref n7, .int lo, .int mi, .int sd])), aI G n1 9 ht, aI G n2 8 wm, aI G n3 8 se, aI G n4 8 cd, aI G n5 8 sl, aI G n6 8 od, aI G n7 72 ow] sz (fun (u : (Nat → Int32) × (Nat → Int32) × (Nat → Int32) × (Int32) × (Int32) × (Int32) × (Int32) × (Int32)) => True) (fun (u : (Nat → Int32) × (Nat → Int32) × (Nat → Int32) × (Int32) × (Int32) × (Int32) × (Int32) × (Int32)) => [(g, .inr (2, [.ref s0, .ref g1, .ref g2, .ref g3, .int u.2.2.2.2.2.2.1, .int u.2.2.2.2.2.2.2, .int u.2.2.2.1])), aI G g1 6 u.1, aI G g2 6 u.2.1, aI G g3 256 u.2.2.1, (s0, .inr (4, [.int u.2.2.2.2.1, .int u.2.2.2.2.2.1])), (t, .inr (6, [.int ns, .int np, .int fu, .int fd, .int fi, .ref t1, .ref t2, .ref t3, .ref t4, .ref t5, .ref t6])), aI G t1 9 sz_, aI G t2 9 pt, aI G t3 9 fh, aI G t4 8 kd, aI G t5 8 nd, aI G t6 8 fw, (n, .inr (1, [.ref n1, .ref n2, .ref n3, .ref n4, .ref n5, .ref n6, .ref n7, .int lo, .int mi, .int sd])), aI G n1 9 ht, aI G n2 8 wm, aI G n3 8 se, aI G n4 8 cd, aI G n5 8 sl, aI G n6 8 od, aI G n7 72 ow]) :=
  c_X2_search l G g g1 g2 g3 s0 t t1 t2 t3 t4 t5 t6 n n1 n2 n3 n4 n5 n6 n7 sz gs gm gb go gz gf sw sh ns np fu fd fi sz_ pt fh kd nd fw ht wm se cd sl od ow lo mi sd x y z (by
    sorry)
