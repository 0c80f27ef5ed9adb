set_option maxHeartbeats 4000000 in
set_option maxRecDepth 100000 in
theorem c_X7_within (l : Launch) (G : Gt) (sz : Nat) (x : Int32) (y : Int32) (z : Int32) (hv : (x < y → (0 : Int32) = (if ¬ x < y ∧ ¬ z < x then 1 else 0)) ∧ (¬ (x < y) → (z < x → (0 : Int32) = (if ¬ x < y ∧ ¬ z < x then 1 else 0)) ∧ (¬ (z < x) → (1 : Int32) = (if ¬ x < y ∧ ¬ z < x then 1 else 0)))) : MetI l yX7_within wsX7_within 0 0 G [.int x, .int y, .int z] [] sz (fun (r : Int32) (_ : Unit) => (r : Int32) = (if ¬ x < y ∧ ¬ z < x then 1 else 0)) (fun (_ : Unit) => []) := by
  refine x_startI (cc := cX7_within) (maxL := 3) (ret := (some .boolean)) (by decide) rfl (Nat.le_of_ble_eq_true rfl) ?_
  intro p e s m args below meth c A R Q ls hRf hRl hQ C hP hD hS hA hSS hl
  obtain ⟨hx, hb, hr, hml, hown, hts, hlocks, hKK⟩ := C
  have hown : s.vm.findClass RX7 = some m.cls := hown
  have hl : lv_has ls 3 [(0, .int x), (1, .int y), (2, .int z)] := hl
  refine lv_iload_n hx hb dX7_within_0 rfl (lv_at hl 0 rfl) ?_
  refine lv_iload_n hx hb dX7_within_1 rfl (lv_at hl 1 rfl) ?_
  refine lv_icmp_lt (tgt := 14) hx hb dX7_within_2 (by decide) (fun hc_1 => ?_) (fun hc_1 => ?_)
  · have hv := hv.1 hc_1
    refine lv_iconst (v := 0) hx hb dX7_within_14 (by decide) ?_
    exact x_zret (v := 0) () hQ hx hb hr hlocks hS dX7_within_15 rfl hv hP hD
  · have hv := hv.2 hc_1
    refine lv_iload_n hx hb dX7_within_5 rfl (lv_at hl 0 rfl) ?_
    refine lv_iload_n hx hb dX7_within_6 rfl (lv_at hl 2 rfl) ?_
    refine lv_icmp_gt (tgt := 14) hx hb dX7_within_7 (by decide) (fun hc_2 => ?_) (fun hc_2 => ?_)
    · have hv := hv.1 hc_2
      refine lv_iconst (v := 0) hx hb dX7_within_14 (by decide) ?_
      exact x_zret (v := 0) () hQ hx hb hr hlocks hS dX7_within_15 rfl hv hP hD
    · have hv := hv.2 hc_2
      refine lv_iconst (v := 1) hx hb dX7_within_10 (by decide) ?_
      refine lv_goto (tgt := 15) hx hb dX7_within_11 (by decide) ?_
      exact x_zret (v := 1) () hQ hx hb hr hlocks hS dX7_within_15 rfl hv hP hD
theorem v_X7_within (l : Launch) (G : Gt) (sz : Nat) (x : Int32) (y : Int32) (z : Int32) : (x < y → (0 : Int32) = (if ¬ x < y ∧ ¬ z < x then 1 else 0)) ∧ (¬ (x < y) → (z < x → (0 : Int32) = (if ¬ x < y ∧ ¬ z < x then 1 else 0)) ∧ (¬ (z < x) → (1 : Int32) = (if ¬ x < y ∧ ¬ z < x then 1 else 0))) := by
  simp_all
theorem k_X7_within (l : Launch) (G : Gt) (sz : Nat) (x : Int32) (y : Int32) (z : Int32) : MetI l yX7_within wsX7_within 0 0 G [.int x, .int y, .int z] [] sz (fun (r : Int32) (_ : Unit) => (r : Int32) = (if ¬ x < y ∧ ¬ z < x then 1 else 0)) (fun (_ : Unit) => []) :=
  c_X7_within l G  sz x y z (v_X7_within l G  sz x y z)

set_option maxHeartbeats 4000000 in
set_option maxRecDepth 100000 in
theorem c_X7_ownedAt (l : Launch) (G : Gt) (sz : Nat) (x : Int32) (y : Int32) (hv : (((x * 9) + y) : Int32) = x * 9 + y) : MetI l yX7_ownedAt wsX7_ownedAt 0 0 G [.int x, .int y] [] sz (fun (r : Int32) (_ : Unit) => (r : Int32) = x * 9 + y) (fun (_ : Unit) => []) := by
  refine x_startI (cc := cX7_ownedAt) (maxL := 2) (ret := (some .int)) (by decide) rfl (Nat.le_of_ble_eq_true rfl) ?_
  intro p e s m args below meth c A R Q ls hRf hRl hQ C hP hD hS hA hSS hl
  obtain ⟨hx, hb, hr, hml, hown, hts, hlocks, hKK⟩ := C
  have hown : s.vm.findClass RX7 = some m.cls := hown
  have hl : lv_has ls 2 [(0, .int x), (1, .int y)] := hl
  refine lv_iload_n hx hb dX7_ownedAt_0 rfl (lv_at hl 0 rfl) ?_
  refine lv_bipush (v := 9) hx hb dX7_ownedAt_1 (by decide) ?_
  refine lv_imul hx hb dX7_ownedAt_3 ?_
  refine lv_iload_n hx hb dX7_ownedAt_4 rfl (lv_at hl 1 rfl) ?_
  refine lv_iadd hx hb dX7_ownedAt_5 ?_
  exact x_iret (v := ((x * 9) + y)) () hQ hx hb hr hlocks hS dX7_ownedAt_6 hv hP hD
theorem v_X7_ownedAt (l : Launch) (G : Gt) (sz : Nat) (x : Int32) (y : Int32) : (((x * 9) + y) : Int32) = x * 9 + y := by
  rfl
theorem k_X7_ownedAt (l : Launch) (G : Gt) (sz : Nat) (x : Int32) (y : Int32) : MetI l yX7_ownedAt wsX7_ownedAt 0 0 G [.int x, .int y] [] sz (fun (r : Int32) (_ : Unit) => (r : Int32) = x * 9 + y) (fun (_ : Unit) => []) :=
  c_X7_ownedAt l G  sz x y (v_X7_ownedAt l G  sz x y)

set_option maxHeartbeats 4000000 in
set_option maxRecDepth 100000 in
theorem c_X1_freeze (l : Launch) (G : Gt) (n n1 n2 n3 n4 n5 n6 n7 : Nat) (sz : Nat) (ht : Nat → Int32) (wm : Nat → Int32) (se : Nat → Int32) (cd : Nat → Int32) (sl : Nat → Int32) (od : Nat → Int32) (ow : Nat → Int32) (lo : Int32) (mi : Int32) (sd : Int32) (pq : Int32) (fr : Int32) (T : Nat → Nat → Int) (Ns : Nat) (Np : Nat) (v : Nat → Int) (kk : Nat → Int) (M : Int) (ip : Nat) (F : Int) (hv : (vp_in pq 8) ∧ ((vp_in pq 8) ∧ ((vp_in pq 8) ∧ (CN Ns Np (zFr ip F v) ht (upd wm pq.toNatClampNeg ((wm pq.toNatClampNeg) - (if (wm pq.toNatClampNeg) < fr then (wm pq.toNatClampNeg) else fr))) se cd sl od ow (lo + (if (wm pq.toNatClampNeg) < fr then (wm pq.toNatClampNeg) else fr)) mi sd)))) : MetV l yX1_freeze wsX1_freeze 1 13 G [.ref n, .int pq, .int fr] [(n, .inr (1, [.ref n1, .ref n2, .ref n3, .ref n4, .ref n5, .ref n6, .ref n7, .int lo, .int mi, .int sd])), aI G n1 9 ht, aI G n2 8 wm, aI G n3 8 se, aI G n4 8 cd, aI G n5 8 sl, aI G n6 8 od, aI G n7 72 ow] sz (fun (u : (Nat → Int32) × (Int32)) => CN Ns Np (zFr ip F v) ht u.1 se cd sl od ow u.2 mi sd) (fun (u : (Nat → Int32) × (Int32)) => [(n, .inr (1, [.ref n1, .ref n2, .ref n3, .ref n4, .ref n5, .ref n6, .ref n7, .int u.2, .int mi, .int sd])), aI G n1 9 ht, aI G n2 8 u.1, aI G n3 8 se, aI G n4 8 cd, aI G n5 8 sl, aI G n6 8 od, aI G n7 72 ow]) := by
  refine x_startV (cc := cX1_freeze) (maxL := 4) (ret := none) (by decide) rfl (Nat.le_of_ble_eq_true rfl) ?_
  intro p e s m args below meth c A R Q ls hRf hRl hQ C hP hD hS hA hSS hl
  obtain ⟨hx, hb, hr, hml, hown, hts, hlocks, hKK⟩ := C
  have hown : s.vm.findClass RX1 = some m.cls := hown
  have hl : lv_has ls 4 [(0, .ref n), (1, .int pq), (2, .int fr)] := hl
  have hinX1 : ∀ w ∈ u_ws RX1 TX1 10, w ∈ wsX1_freeze := by decide +kernel
  have kl100 := hts (.methodLink RX1 100 Lib.Math.min.name) (by decide +kernel)
  have kl15 := hts (.fieldLink RX1 15 "WarmStones$Night" "warmth" "[I") (by decide +kernel)
  have kl48 := hts (.fieldLink RX1 48 "WarmStones$Night" "lost" "I") (by decide +kernel)
  have km_c_min := hts (.code Lib.Math.min.name Lib.Math.min.code 2 (some .int)) (by decide +kernel)
  have km_i := hts (.initialized "java/lang/Math") (by decide +kernel)
  have km_s_min := hts (.static Lib.Math.min.name) (by decide +kernel)
  refine lv_iload_n hx hb dX1_freeze_0 rfl (lv_at hl 2 rfl) ?_
  refine lv_aload_n hx hb dX1_freeze_1 rfl (lv_at hl 0 rfl) ?_
  refine va_get (D := G.1) (ci := 1) (v := .ref n2) (C := RX1) (T := TX1) (N := 10) hx hb hts hinX1 hown hKK.1 hP 0 rfl rfl 1 (by decide) kl15 (fun _ h9 => h9) rfl dX1_freeze_2 ?_
  refine lv_iload_n hx hb dX1_freeze_5 rfl (lv_at hl 1 rfl) ?_
  obtain ⟨hin, hv⟩ := hv
  refine va_iald hx hb hKK.1 hP 2 0 rfl rfl hin dX1_freeze_6 ?_
  refine va_mmin hx hb (hml.trans hl.1.symm) hown kl100 km_s_min km_i km_c_min (Nat.le_trans (Nat.le_of_ble_eq_true rfl) hRf) (Nat.le_trans (Nat.le_of_ble_eq_true rfl) hRl) (Nat.zero_le _) (Nat.zero_le _) dX1_freeze_7 ?_
  refine lv_istore_n (lv' := [(3, .int (if (wm pq.toNatClampNeg) < fr then (wm pq.toNatClampNeg) else fr)), (0, .ref n), (1, .int pq), (2, .int fr)]) hx hb dX1_freeze_10 rfl hl (by decide) rfl (fun ls hl => ?_)
  refine lv_aload_n hx hb dX1_freeze_11 rfl (lv_at hl 1 rfl) ?_
  refine va_get (D := G.1) (ci := 1) (v := .ref n2) (C := RX1) (T := TX1) (N := 10) hx hb hts hinX1 hown hKK.1 hP 0 rfl rfl 1 (by decide) kl15 (fun _ h9 => h9) rfl dX1_freeze_12 ?_
  refine lv_iload_n hx hb dX1_freeze_15 rfl (lv_at hl 2 rfl) ?_
  refine lv_dup2_11 hx hb dX1_freeze_16 rfl rfl ?_
  obtain ⟨hin, hv⟩ := hv
  refine va_iald hx hb hKK.1 hP 2 0 rfl rfl hin dX1_freeze_17 ?_
  refine lv_iload_n hx hb dX1_freeze_18 rfl (lv_at hl 0 rfl) ?_
  refine lv_isub hx hb dX1_freeze_19 ?_
  obtain ⟨hin, hv⟩ := hv
  refine va_iast hx hb hKK.1 hP hD hS 2 0 rfl rfl hin dX1_freeze_20 (fun H locs hP hD hS => ?_)
  have hP : va_P G.1 vwCl [(n, .inr (1, [.ref n1, .ref n2, .ref n3, .ref n4, .ref n5, .ref n6, .ref n7, .int lo, .int mi, .int sd])), aI G n1 9 ht, aI G n2 8 (upd wm pq.toNatClampNeg ((wm pq.toNatClampNeg) - (if (wm pq.toNatClampNeg) < fr then (wm pq.toNatClampNeg) else fr))), aI G n3 8 se, aI G n4 8 cd, aI G n5 8 sl, aI G n6 8 od, aI G n7 72 ow] H := hP
  have hD : va_D A [(n, .inr (1, [.ref n1, .ref n2, .ref n3, .ref n4, .ref n5, .ref n6, .ref n7, .int lo, .int mi, .int sd])), aI G n1 9 ht, aI G n2 8 (upd wm pq.toNatClampNeg ((wm pq.toNatClampNeg) - (if (wm pq.toNatClampNeg) < fr then (wm pq.toNatClampNeg) else fr))), aI G n3 8 se, aI G n4 8 cd, aI G n5 8 sl, aI G n6 8 od, aI G n7 72 ow] := hD
  refine lv_aload_n hx hb dX1_freeze_21 rfl (lv_at hl 1 rfl) ?_
  refine lv_dup hx hb dX1_freeze_22 rfl ?_
  refine va_get (D := G.1) (ci := 1) (v := .int lo) (C := RX1) (T := TX1) (N := 10) hx hb hts hinX1 hown hKK.1 hP 0 rfl rfl 7 (by decide) kl48 (fun _ h9 => h9) rfl dX1_freeze_23 ?_
  refine lv_iload_n hx hb dX1_freeze_26 rfl (lv_at hl 0 rfl) ?_
  refine lv_iadd hx hb dX1_freeze_27 ?_
  refine va_put (D := G.1) (ci := 1) (v := .int (lo + (if (wm pq.toNatClampNeg) < fr then (wm pq.toNatClampNeg) else fr))) (ty := .int) (C := RX1) (T := TX1) (N := 10) hx hb hts hinX1 tyX1 tyX1_ok nmX1 hown hKK.1 hP hD hS 0 rfl rfl 7 (by decide) kl48 (fun _ h9 => h9) rfl (by decide +kernel) rfl rfl (Nat.le_of_ble_eq_true rfl) dX1_freeze_28 (fun H locs hP hD hS => ?_)
  have hP : va_P G.1 vwCl [(n, .inr (1, [.ref n1, .ref n2, .ref n3, .ref n4, .ref n5, .ref n6, .ref n7, .int (lo + (if (wm pq.toNatClampNeg) < fr then (wm pq.toNatClampNeg) else fr)), .int mi, .int sd])), aI G n1 9 ht, aI G n2 8 (upd wm pq.toNatClampNeg ((wm pq.toNatClampNeg) - (if (wm pq.toNatClampNeg) < fr then (wm pq.toNatClampNeg) else fr))), aI G n3 8 se, aI G n4 8 cd, aI G n5 8 sl, aI G n6 8 od, aI G n7 72 ow] H := hP
  have hD : va_D A [(n, .inr (1, [.ref n1, .ref n2, .ref n3, .ref n4, .ref n5, .ref n6, .ref n7, .int (lo + (if (wm pq.toNatClampNeg) < fr then (wm pq.toNatClampNeg) else fr)), .int mi, .int sd])), aI G n1 9 ht, aI G n2 8 (upd wm pq.toNatClampNeg ((wm pq.toNatClampNeg) - (if (wm pq.toNatClampNeg) < fr then (wm pq.toNatClampNeg) else fr))), aI G n3 8 se, aI G n4 8 cd, aI G n5 8 sl, aI G n6 8 od, aI G n7 72 ow] := hD
  exact x_vret ((upd wm pq.toNatClampNeg ((wm pq.toNatClampNeg) - (if (wm pq.toNatClampNeg) < fr then (wm pq.toNatClampNeg) else fr))), (lo + (if (wm pq.toNatClampNeg) < fr then (wm pq.toNatClampNeg) else fr))) hQ hx hb hr hlocks hS dX1_freeze_31 hv hP hD
theorem v_X1_freeze (l : Launch) (G : Gt) (n n1 n2 n3 n4 n5 n6 n7 : Nat) (sz : Nat) (ht : Nat → Int32) (wm : Nat → Int32) (se : Nat → Int32) (cd : Nat → Int32) (sl : Nat → Int32) (od : Nat → Int32) (ow : Nat → Int32) (lo : Int32) (mi : Int32) (sd : Int32) (pq : Int32) (fr : Int32) (T : Nat → Nat → Int) (Ns : Nat) (Np : Nat) (v : Nat → Int) (kk : Nat → Int) (M : Int) (ip : Nat) (F : Int) (hp : TOK T Ns Np ∧ CN Ns Np v ht wm se cd sl od ow lo mi sd ∧ NOK T Ns Np kk M v ∧ pq = nI ip ∧ ip < Np ∧ fr.toInt = F ∧ 0 ≤ F) : (vp_in pq 8) ∧ ((vp_in pq 8) ∧ ((vp_in pq 8) ∧ (CN Ns Np (zFr ip F v) ht (upd wm pq.toNatClampNeg ((wm pq.toNatClampNeg) - (if (wm pq.toNatClampNeg) < fr then (wm pq.toNatClampNeg) else fr))) se cd sl od ow (lo + (if (wm pq.toNatClampNeg) < fr then (wm pq.toNatClampNeg) else fr)) mi sd))) := by
  obtain ⟨hT, hN, hO, rfl, h1, hF, h0⟩ := hp
  have t2 := hT.2.1
  have a := vp_in_nI (n := ip) (N := 8) (by omega) (by omega)
  have ea : (nI ip).toNatClampNeg = ip := nI_clamp (by omega)
  simp only [ea]
  exact ⟨a, a, a, CN_freeze hT hN hO h1 hF h0⟩
theorem k_X1_freeze (l : Launch) (G : Gt) (n n1 n2 n3 n4 n5 n6 n7 : Nat) (sz : Nat) (ht : Nat → Int32) (wm : Nat → Int32) (se : Nat → Int32) (cd : Nat → Int32) (sl : Nat → Int32) (od : Nat → Int32) (ow : Nat → Int32) (lo : Int32) (mi : Int32) (sd : Int32) (pq : Int32) (fr : Int32) (T : Nat → Nat → Int) (Ns : Nat) (Np : Nat) (v : Nat → Int) (kk : Nat → Int) (M : Int) (ip : Nat) (F : Int) (hp : TOK T Ns Np ∧ CN Ns Np v ht wm se cd sl od ow lo mi sd ∧ NOK T Ns Np kk M v ∧ pq = nI ip ∧ ip < Np ∧ fr.toInt = F ∧ 0 ≤ F) : MetV l yX1_freeze wsX1_freeze 1 13 G [.ref n, .int pq, .int fr] [(n, .inr (1, [.ref n1, .ref n2, .ref n3, .ref n4, .ref n5, .ref n6, .ref n7, .int lo, .int mi, .int sd])), aI G n1 9 ht, aI G n2 8 wm, aI G n3 8 se, aI G n4 8 cd, aI G n5 8 sl, aI G n6 8 od, aI G n7 72 ow] sz (fun (u : (Nat → Int32) × (Int32)) => CN Ns Np (zFr ip F v) ht u.1 se cd sl od ow u.2 mi sd) (fun (u : (Nat → Int32) × (Int32)) => [(n, .inr (1, [.ref n1, .ref n2, .ref n3, .ref n4, .ref n5, .ref n6, .ref n7, .int u.2, .int mi, .int sd])), aI G n1 9 ht, aI G n2 8 u.1, aI G n3 8 se, aI G n4 8 cd, aI G n5 8 sl, aI G n6 8 od, aI G n7 72 ow]) :=
  c_X1_freeze l G n n1 n2 n3 n4 n5 n6 n7 sz ht wm se cd sl od ow lo mi sd pq fr T Ns Np v kk M ip F (v_X1_freeze l G n n1 n2 n3 n4 n5 n6 n7 sz ht wm se cd sl od ow lo mi sd pq fr T Ns Np v kk M ip F hp)

set_option maxHeartbeats 4000000 in
set_option maxRecDepth 100000 in
theorem c_X1_useMinute (l : Launch) (G : Gt) (n n1 n2 n3 n4 n5 n6 n7 : Nat) (sz : Nat) (ht : Nat → Int32) (wm : Nat → Int32) (se : Nat → Int32) (cd : Nat → Int32) (sl : Nat → Int32) (od : Nat → Int32) (ow : Nat → Int32) (lo : Int32) (mi : Int32) (sd : Int32) (pq : Int32) (bq : Int32) (T : Nat → Nat → Int) (Ns : Nat) (Np : Nat) (v : Nat → Int) (kk : Nat → Int) (M : Int) (ip : Nat) (ib : Nat) (hv : (vp_in (pq * 9 + bq) 72) ∧ (((ow (pq * 9 + bq).toNatClampNeg) ≤ 0 → (vp_in pq 8) ∧ ((vp_in pq 8) ∧ (CN Ns Np (zOwn ip ib v) ht wm se cd (upd sl pq.toNatClampNeg ((sl pq.toNatClampNeg) + 1)) od ow lo mi sd))) ∧ (¬ ((ow (pq * 9 + bq).toNatClampNeg) ≤ 0) → (vp_in (pq * 9 + bq) 72) ∧ ((vp_in (pq * 9 + bq) 72) ∧ (CN Ns Np (zOwn ip ib v) ht wm se cd sl od (upd ow ((pq * 9 + bq).toNatClampNeg) ((ow (pq * 9 + bq).toNatClampNeg) - 1)) lo mi sd))))) : MetV l yX1_useMinute wsX1_useMinute 1 21 G [.ref n, .int pq, .int bq] [(n, .inr (1, [.ref n1, .ref n2, .ref n3, .ref n4, .ref n5, .ref n6, .ref n7, .int lo, .int mi, .int sd])), aI G n1 9 ht, aI G n2 8 wm, aI G n3 8 se, aI G n4 8 cd, aI G n5 8 sl, aI G n6 8 od, aI G n7 72 ow] sz (fun (u : (Nat → Int32) × (Nat → Int32)) => CN Ns Np (zOwn ip ib v) ht wm se cd u.1 od u.2 lo mi sd) (fun (u : (Nat → Int32) × (Nat → Int32)) => [(n, .inr (1, [.ref n1, .ref n2, .ref n3, .ref n4, .ref n5, .ref n6, .ref n7, .int lo, .int mi, .int sd])), aI G n1 9 ht, aI G n2 8 wm, aI G n3 8 se, aI G n4 8 cd, aI G n5 8 u.1, aI G n6 8 od, aI G n7 72 u.2]) := by
  refine x_startV (cc := cX1_useMinute) (maxL := 4) (ret := none) (by decide) rfl (Nat.le_of_ble_eq_true rfl) ?_
  intro p e s m args below meth c A R Q ls hRf hRl hQ C hP hD hS hA hSS hl
  obtain ⟨hx, hb, hr, hml, hown, hts, hlocks, hKK⟩ := C
  have hown : s.vm.findClass RX1 = some m.cls := hown
  have hl : lv_has ls 4 [(0, .ref n), (1, .int pq), (2, .int bq)] := hl
  have hinX1 : ∀ w ∈ u_ws RX1 TX1 10, w ∈ wsX1_useMinute := by decide +kernel
  have kl24 := hts (.fieldLink RX1 24 "WarmStones$Night" "stolen" "[I") (by decide +kernel)
  have kl30 := hts (.fieldLink RX1 30 "WarmStones$Night" "owned" "[I") (by decide +kernel)
  have kn_iRX7 := hts (.initialized RX7) (by decide +kernel)
  have kn_sX7_ownedAt := hts (.static yX7_ownedAt) (by decide +kernel)
  refine lv_iload_n hx hb dX1_useMinute_0 rfl (lv_at hl 1 rfl) ?_
  refine lv_iload_n hx hb dX1_useMinute_1 rfl (lv_at hl 2 rfl) ?_
  refine x_calliR (x_runSN (As := [.int pq, .int bq]) (rest := []) (n := 2) ⟨hx, hb, hml, hown, hts⟩ (k_X7_ownedAt l G  _ pq bq) gX1_useMinute_X7_ownedAt_n96 rfl kn_iRX7 kn_sX7_ownedAt (by decide) (by decide +kernel) ⟨Nat.le_trans (Nat.le_of_ble_eq_true rfl) hRf, Nat.le_trans (Nat.le_of_ble_eq_true rfl) hRl⟩ hKK hSS hS hA hP hD [] (by decide) rfl rfl hl.1 rfl (Nat.le_of_ble_eq_true rfl) dX1_useMinute_2) hP hD hS hA [] rfl (fun r_1 _ H locs hw hP hS => ?_)
  replace hw := hw.symm; subst hw
  refine lv_istore_n (lv' := [(3, .int (pq * 9 + bq)), (0, .ref n), (1, .int pq), (2, .int bq)]) hx hb dX1_useMinute_5 rfl hl (by decide) rfl (fun ls hl => ?_)
  refine lv_aload_n hx hb dX1_useMinute_6 rfl (lv_at hl 1 rfl) ?_
  refine va_get (D := G.1) (ci := 1) (v := .ref n7) (C := RX1) (T := TX1) (N := 10) hx hb hts hinX1 hown hKK.1 hP 0 rfl rfl 6 (by decide) kl30 (fun _ h9 => h9) rfl dX1_useMinute_7 ?_
  refine lv_iload_n hx hb dX1_useMinute_10 rfl (lv_at hl 0 rfl) ?_
  obtain ⟨hin, hv⟩ := hv
  refine va_iald hx hb hKK.1 hP 7 0 rfl rfl hin dX1_useMinute_11 ?_
  refine lv_if_le (tgt := 28) hx hb dX1_useMinute_12 (by decide) (fun hc_2 => ?_) (fun hc_2 => ?_)
  · have hv := hv.1 hc_2
    refine lv_aload_n hx hb dX1_useMinute_28 rfl (lv_at hl 1 rfl) ?_
    refine va_get (D := G.1) (ci := 1) (v := .ref n5) (C := RX1) (T := TX1) (N := 10) hx hb hts hinX1 hown hKK.1 hP 0 rfl rfl 4 (by decide) kl24 (fun _ h9 => h9) rfl dX1_useMinute_29 ?_
    refine lv_iload_n hx hb dX1_useMinute_32 rfl (lv_at hl 2 rfl) ?_
    refine lv_dup2_11 hx hb dX1_useMinute_33 rfl rfl ?_
    obtain ⟨hin, hv⟩ := hv
    refine va_iald hx hb hKK.1 hP 5 0 rfl rfl hin dX1_useMinute_34 ?_
    refine lv_iconst (v := 1) hx hb dX1_useMinute_35 (by decide) ?_
    refine lv_iadd hx hb dX1_useMinute_36 ?_
    obtain ⟨hin, hv⟩ := hv
    refine va_iast hx hb hKK.1 hP hD hS 5 0 rfl rfl hin dX1_useMinute_37 (fun H locs hP hD hS => ?_)
    have hP : va_P G.1 vwCl [(n, .inr (1, [.ref n1, .ref n2, .ref n3, .ref n4, .ref n5, .ref n6, .ref n7, .int lo, .int mi, .int sd])), aI G n1 9 ht, aI G n2 8 wm, aI G n3 8 se, aI G n4 8 cd, aI G n5 8 (upd sl pq.toNatClampNeg ((sl pq.toNatClampNeg) + 1)), aI G n6 8 od, aI G n7 72 ow] H := hP
    have hD : va_D A [(n, .inr (1, [.ref n1, .ref n2, .ref n3, .ref n4, .ref n5, .ref n6, .ref n7, .int lo, .int mi, .int sd])), aI G n1 9 ht, aI G n2 8 wm, aI G n3 8 se, aI G n4 8 cd, aI G n5 8 (upd sl pq.toNatClampNeg ((sl pq.toNatClampNeg) + 1)), aI G n6 8 od, aI G n7 72 ow] := hD
    exact x_vret ((upd sl pq.toNatClampNeg ((sl pq.toNatClampNeg) + 1)), ow) hQ hx hb hr hlocks hS dX1_useMinute_38 hv hP hD
  · have hv := hv.2 hc_2
    refine lv_aload_n hx hb dX1_useMinute_15 rfl (lv_at hl 1 rfl) ?_
    refine va_get (D := G.1) (ci := 1) (v := .ref n7) (C := RX1) (T := TX1) (N := 10) hx hb hts hinX1 hown hKK.1 hP 0 rfl rfl 6 (by decide) kl30 (fun _ h9 => h9) rfl dX1_useMinute_16 ?_
    refine lv_iload_n hx hb dX1_useMinute_19 rfl (lv_at hl 0 rfl) ?_
    refine lv_dup2_11 hx hb dX1_useMinute_20 rfl rfl ?_
    obtain ⟨hin, hv⟩ := hv
    refine va_iald hx hb hKK.1 hP 7 0 rfl rfl hin dX1_useMinute_21 ?_
    refine lv_iconst (v := 1) hx hb dX1_useMinute_22 (by decide) ?_
    refine lv_isub hx hb dX1_useMinute_23 ?_
    obtain ⟨hin, hv⟩ := hv
    refine va_iast hx hb hKK.1 hP hD hS 7 0 rfl rfl hin dX1_useMinute_24 (fun H locs hP hD hS => ?_)
    have hP : va_P G.1 vwCl [(n, .inr (1, [.ref n1, .ref n2, .ref n3, .ref n4, .ref n5, .ref n6, .ref n7, .int lo, .int mi, .int sd])), aI G n1 9 ht, aI G n2 8 wm, aI G n3 8 se, aI G n4 8 cd, aI G n5 8 sl, aI G n6 8 od, aI G n7 72 (upd ow ((pq * 9 + bq).toNatClampNeg) ((ow (pq * 9 + bq).toNatClampNeg) - 1))] H := hP
    have hD : va_D A [(n, .inr (1, [.ref n1, .ref n2, .ref n3, .ref n4, .ref n5, .ref n6, .ref n7, .int lo, .int mi, .int sd])), aI G n1 9 ht, aI G n2 8 wm, aI G n3 8 se, aI G n4 8 cd, aI G n5 8 sl, aI G n6 8 od, aI G n7 72 (upd ow ((pq * 9 + bq).toNatClampNeg) ((ow (pq * 9 + bq).toNatClampNeg) - 1))] := hD
    refine lv_goto (tgt := 38) hx hb dX1_useMinute_25 (by decide) ?_
    exact x_vret (sl, (upd ow ((pq * 9 + bq).toNatClampNeg) ((ow (pq * 9 + bq).toNatClampNeg) - 1))) hQ hx hb hr hlocks hS dX1_useMinute_38 hv hP hD
theorem v_X1_useMinute (l : Launch) (G : Gt) (n n1 n2 n3 n4 n5 n6 n7 : Nat) (sz : Nat) (ht : Nat → Int32) (wm : Nat → Int32) (se : Nat → Int32) (cd : Nat → Int32) (sl : Nat → Int32) (od : Nat → Int32) (ow : Nat → Int32) (lo : Int32) (mi : Int32) (sd : Int32) (pq : Int32) (bq : Int32) (T : Nat → Nat → Int) (Ns : Nat) (Np : Nat) (v : Nat → Int) (kk : Nat → Int) (M : Int) (ip : Nat) (ib : Nat) (hp : TOK T Ns Np ∧ CN Ns Np v ht wm se cd sl od ow lo mi sd ∧ NOK T Ns Np kk M v ∧ NB kk M ∧ pq = nI ip ∧ ip < Np ∧ bq = nI ib ∧ ib < Ns) : (vp_in (pq * 9 + bq) 72) ∧ (((ow (pq * 9 + bq).toNatClampNeg) ≤ 0 → (vp_in pq 8) ∧ ((vp_in pq 8) ∧ (CN Ns Np (zOwn ip ib v) ht wm se cd (upd sl pq.toNatClampNeg ((sl pq.toNatClampNeg) + 1)) od ow lo mi sd))) ∧ (¬ ((ow (pq * 9 + bq).toNatClampNeg) ≤ 0) → (vp_in (pq * 9 + bq) 72) ∧ ((vp_in (pq * 9 + bq) 72) ∧ (CN Ns Np (zOwn ip ib v) ht wm se cd sl od (upd ow ((pq * 9 + bq).toNatClampNeg) ((ow (pq * 9 + bq).toNatClampNeg) - 1)) lo mi sd)))) := by
  obtain ⟨hT, hN, hO, hB, rfl, h1, rfl, h2⟩ := hp
  have t1 := hT.1
  have t2 := hT.2.1
  have a := vp_in_nI (n := ip) (N := 8) (by omega) (by omega)
  have b := vp_in_nI (n := 9 * ip + ib) (N := 72) (by omega) (by omega)
  have ea : (nI ip).toNatClampNeg = ip := nI_clamp (by omega)
  have e9 : nI ip * 9 + nI ib = nI (9 * ip + ib) := by rw [show (9 : Int32) = nI 9 from rfl, pk_mul, nI_add, Nat.mul_comm]
  have eb : (nI (9 * ip + ib)).toNatClampNeg = 9 * ip + ib := nI_clamp (by omega)
  simp only [e9, ea, eb]
  have key := CN_own hT hN hO hB h1 h2
  refine ⟨b, fun h => ⟨a, a, ?_⟩, fun h => ⟨b, b, ?_⟩⟩
  · have h' : ¬ (0 : Int32) < ow (9 * ip + ib) := Int32.not_lt.mpr h
    rwa [if_neg h', if_neg h'] at key
  · have h' : (0 : Int32) < ow (9 * ip + ib) := Int32.not_le.mp h
    rwa [if_pos h', if_pos h'] at key
theorem k_X1_useMinute (l : Launch) (G : Gt) (n n1 n2 n3 n4 n5 n6 n7 : Nat) (sz : Nat) (ht : Nat → Int32) (wm : Nat → Int32) (se : Nat → Int32) (cd : Nat → Int32) (sl : Nat → Int32) (od : Nat → Int32) (ow : Nat → Int32) (lo : Int32) (mi : Int32) (sd : Int32) (pq : Int32) (bq : Int32) (T : Nat → Nat → Int) (Ns : Nat) (Np : Nat) (v : Nat → Int) (kk : Nat → Int) (M : Int) (ip : Nat) (ib : Nat) (hp : TOK T Ns Np ∧ CN Ns Np v ht wm se cd sl od ow lo mi sd ∧ NOK T Ns Np kk M v ∧ NB kk M ∧ pq = nI ip ∧ ip < Np ∧ bq = nI ib ∧ ib < Ns) : MetV l yX1_useMinute wsX1_useMinute 1 21 G [.ref n, .int pq, .int bq] [(n, .inr (1, [.ref n1, .ref n2, .ref n3, .ref n4, .ref n5, .ref n6, .ref n7, .int lo, .int mi, .int sd])), aI G n1 9 ht, aI G n2 8 wm, aI G n3 8 se, aI G n4 8 cd, aI G n5 8 sl, aI G n6 8 od, aI G n7 72 ow] sz (fun (u : (Nat → Int32) × (Nat → Int32)) => CN Ns Np (zOwn ip ib v) ht wm se cd u.1 od u.2 lo mi sd) (fun (u : (Nat → Int32) × (Nat → Int32)) => [(n, .inr (1, [.ref n1, .ref n2, .ref n3, .ref n4, .ref n5, .ref n6, .ref n7, .int lo, .int mi, .int sd])), aI G n1 9 ht, aI G n2 8 wm, aI G n3 8 se, aI G n4 8 cd, aI G n5 8 u.1, aI G n6 8 od, aI G n7 72 u.2]) :=
  c_X1_useMinute l G n n1 n2 n3 n4 n5 n6 n7 sz ht wm se cd sl od ow lo mi sd pq bq T Ns Np v kk M ip ib (v_X1_useMinute l G n n1 n2 n3 n4 n5 n6 n7 sz ht wm se cd sl od ow lo mi sd pq bq T Ns Np v kk M ip ib hp)

set_option maxHeartbeats 4000000 in
set_option maxRecDepth 100000 in
theorem c_X1_shareHeat (l : Launch) (G : Gt) (n n1 n2 n3 n4 n5 n6 n7 t t1 t2 t3 t4 t5 t6 : Nat) (sz : Nat) (ht : Nat → Int32) (wm : Nat → Int32) (se : Nat → Int32) (cd : Nat → Int32) (sl : Nat → Int32) (od : Nat → Int32) (ow : Nat → Int32) (lo : Int32) (mi : Int32) (sd : Int32) (ns : Int32) (np : Int32) (fu : Int32) (fd : Int32) (fi : Int32) (sz_ : Nat → Int32) (pt : Nat → Int32) (fh : Nat → Int32) (kd : Nat → Int32) (nd : Nat → Int32) (fw : Nat → Int32) (pq : Int32) (bq : Int32) (T : Nat → Nat → Int) (Ns : Nat) (Np : Nat) (v : Nat → Int) (kk : Nat → Int) (M : Int) (ip : Nat) (ib : Nat) (hv : (vp_in pq 8) ∧ ((vp_in bq 9) ∧ ((vp_in pq 8 ∧ vp_in bq 9) ∧ ((vp_in pq 8) ∧ ((vp_in pq 8) ∧ ((vp_in bq 9) ∧ ((vp_in bq 9) ∧ (CN Ns Np (zSit T ip ib v) (upd ht bq.toNatClampNeg ((ht bq.toNatClampNeg) + (flowI (kd pq.toNatClampNeg) (sz_ bq.toNatClampNeg) (wm pq.toNatClampNeg) (ht bq.toNatClampNeg)))) (upd wm pq.toNatClampNeg ((wm pq.toNatClampNeg) - (flowI (kd pq.toNatClampNeg) (sz_ bq.toNatClampNeg) (wm pq.toNatClampNeg) (ht bq.toNatClampNeg)))) se cd sl od ow lo mi sd)))))))) : MetV l yX1_shareHeat wsX1_shareHeat 2 45 G [.ref n, .ref t, .int pq, .int bq] [(n, .inr (1, [.ref n1, .ref n2, .ref n3, .ref n4, .ref n5, .ref n6, .ref n7, .int lo, .int mi, .int sd])), aI G n1 9 ht, aI G n2 8 wm, aI G n3 8 se, aI G n4 8 cd, aI G n5 8 sl, aI G n6 8 od, aI G n7 72 ow, (t, .inr (6, [.int ns, .int np, .int fu, .int fd, .int fi, .ref t1, .ref t2, .ref t3, .ref t4, .ref t5, .ref t6])), aI G t1 9 sz_, aI G t2 9 pt, aI G t3 9 fh, aI G t4 8 kd, aI G t5 8 nd, aI G t6 8 fw] sz (fun (u : (Nat → Int32) × (Nat → Int32)) => CN Ns Np (zSit T ip ib v) u.1 u.2 se cd sl od ow lo mi sd) (fun (u : (Nat → Int32) × (Nat → Int32)) => [(n, .inr (1, [.ref n1, .ref n2, .ref n3, .ref n4, .ref n5, .ref n6, .ref n7, .int lo, .int mi, .int sd])), aI G n1 9 u.1, aI G n2 8 u.2, aI G n3 8 se, aI G n4 8 cd, aI G n5 8 sl, aI G n6 8 od, aI G n7 72 ow, (t, .inr (6, [.int ns, .int np, .int fu, .int fd, .int fi, .ref t1, .ref t2, .ref t3, .ref t4, .ref t5, .ref t6])), aI G t1 9 sz_, aI G t2 9 pt, aI G t3 9 fh, aI G t4 8 kd, aI G t5 8 nd, aI G t6 8 fw]) := by
  refine x_startV (cc := cX1_shareHeat) (maxL := 5) (ret := none) (by decide) rfl (Nat.le_of_ble_eq_true rfl) ?_
  intro p e s m args below meth c A R Q ls hRf hRl hQ C hP hD hS hA hSS hl
  obtain ⟨hx, hb, hr, hml, hown, hts, hlocks, hKK⟩ := C
  have hown : s.vm.findClass RX1 = some m.cls := hown
  have hl : lv_has ls 5 [(0, .ref n), (1, .ref t), (2, .int pq), (3, .int bq)] := hl
  have hinX1 : ∀ w ∈ u_ws RX1 TX1 10, w ∈ wsX1_shareHeat := by decide +kernel
  have kl15 := hts (.fieldLink RX1 15 "WarmStones$Night" "warmth" "[I") (by decide +kernel)
  have kl9 := hts (.fieldLink RX1 9 "WarmStones$Night" "heat" "[I") (by decide +kernel)
  refine lv_aload_n hx hb dX1_shareHeat_0 rfl (lv_at hl 1 rfl) ?_
  refine lv_iload_n hx hb dX1_shareHeat_1 rfl (lv_at hl 2 rfl) ?_
  refine lv_iload_n hx hb dX1_shareHeat_2 rfl (lv_at hl 3 rfl) ?_
  refine lv_aload_n hx hb dX1_shareHeat_3 rfl (lv_at hl 0 rfl) ?_
  refine va_get (D := G.1) (ci := 1) (v := .ref n2) (C := RX1) (T := TX1) (N := 10) hx hb hts hinX1 hown hKK.1 hP 0 rfl rfl 1 (by decide) kl15 (fun _ h9 => h9) rfl dX1_shareHeat_4 ?_
  refine lv_iload_n hx hb dX1_shareHeat_7 rfl (lv_at hl 2 rfl) ?_
  obtain ⟨hin, hv⟩ := hv
  refine va_iald hx hb hKK.1 hP 2 0 rfl rfl hin dX1_shareHeat_8 ?_
  refine lv_aload_n hx hb dX1_shareHeat_9 rfl (lv_at hl 0 rfl) ?_
  refine va_get (D := G.1) (ci := 1) (v := .ref n1) (C := RX1) (T := TX1) (N := 10) hx hb hts hinX1 hown hKK.1 hP 0 rfl rfl 0 (by decide) kl9 (fun _ h9 => h9) rfl dX1_shareHeat_10 ?_
  refine lv_iload_n hx hb dX1_shareHeat_13 rfl (lv_at hl 3 rfl) ?_
  obtain ⟨hin, hv⟩ := hv
  refine va_iald hx hb hKK.1 hP 1 0 rfl rfl hin dX1_shareHeat_14 ?_
  obtain ⟨hp, hv⟩ := hv
  refine x_calliR (x_runV (As := [.int pq, .int bq, .int (wm pq.toNatClampNeg), .int (ht bq.toNatClampNeg)]) (rest := []) (n := 4) (C := RX6) (ci := 6) ⟨hx, hb, hml, hown, hts⟩ (k_X6_flow l G t t1 t2 t3 t4 t5 t6 _ ns np fu fd fi sz_ pt fh kd nd fw pq bq (wm pq.toNatClampNeg) (ht bq.toNatClampNeg) hp) gX1_shareHeat_X6_flow rfl (by decide +kernel) ⟨Nat.le_trans (Nat.le_of_ble_eq_true rfl) hRf, Nat.le_trans (Nat.le_of_ble_eq_true rfl) hRl⟩ hKK hSS hS hA hP hD [8, 9, 10, 11, 12, 13, 14] (by decide) rfl rfl rfl 8 rfl rfl hl.1 rfl (Nat.le_of_ble_eq_true rfl) dX1_shareHeat_15) hP hD hS hA [8, 9, 10, 11, 12, 13, 14] rfl (fun r_1 _ H locs hw hP hS => ?_)
  replace hw := hw.symm; subst hw
  refine lv_istore (lv' := [(4, .int (flowI (kd pq.toNatClampNeg) (sz_ bq.toNatClampNeg) (wm pq.toNatClampNeg) (ht bq.toNatClampNeg))), (0, .ref n), (1, .ref t), (2, .int pq), (3, .int bq)]) hx hb dX1_shareHeat_18 hl (by decide) rfl (fun ls hl => ?_)
  refine lv_aload_n hx hb dX1_shareHeat_20 rfl (lv_at hl 1 rfl) ?_
  refine va_get (D := G.1) (ci := 1) (v := .ref n2) (C := RX1) (T := TX1) (N := 10) hx hb hts hinX1 hown hKK.1 hP 0 rfl rfl 1 (by decide) kl15 (fun _ h9 => h9) rfl dX1_shareHeat_21 ?_
  refine lv_iload_n hx hb dX1_shareHeat_24 rfl (lv_at hl 3 rfl) ?_
  refine lv_dup2_11 hx hb dX1_shareHeat_25 rfl rfl ?_
  obtain ⟨hin, hv⟩ := hv
  refine va_iald hx hb hKK.1 hP 2 0 rfl rfl hin dX1_shareHeat_26 ?_
  refine lv_iload hx hb dX1_shareHeat_27 (lv_at hl 0 rfl) ?_
  refine lv_isub hx hb dX1_shareHeat_29 ?_
  obtain ⟨hin, hv⟩ := hv
  refine va_iast hx hb hKK.1 hP hD hS 2 0 rfl rfl hin dX1_shareHeat_30 (fun H locs hP hD hS => ?_)
  have hP : va_P G.1 vwCl [(n, .inr (1, [.ref n1, .ref n2, .ref n3, .ref n4, .ref n5, .ref n6, .ref n7, .int lo, .int mi, .int sd])), aI G n1 9 ht, aI G n2 8 (upd wm pq.toNatClampNeg ((wm pq.toNatClampNeg) - (flowI (kd pq.toNatClampNeg) (sz_ bq.toNatClampNeg) (wm pq.toNatClampNeg) (ht bq.toNatClampNeg)))), aI G n3 8 se, aI G n4 8 cd, aI G n5 8 sl, aI G n6 8 od, aI G n7 72 ow, (t, .inr (6, [.int ns, .int np, .int fu, .int fd, .int fi, .ref t1, .ref t2, .ref t3, .ref t4, .ref t5, .ref t6])), aI G t1 9 sz_, aI G t2 9 pt, aI G t3 9 fh, aI G t4 8 kd, aI G t5 8 nd, aI G t6 8 fw] H := hP
  have hD : va_D A [(n, .inr (1, [.ref n1, .ref n2, .ref n3, .ref n4, .ref n5, .ref n6, .ref n7, .int lo, .int mi, .int sd])), aI G n1 9 ht, aI G n2 8 (upd wm pq.toNatClampNeg ((wm pq.toNatClampNeg) - (flowI (kd pq.toNatClampNeg) (sz_ bq.toNatClampNeg) (wm pq.toNatClampNeg) (ht bq.toNatClampNeg)))), aI G n3 8 se, aI G n4 8 cd, aI G n5 8 sl, aI G n6 8 od, aI G n7 72 ow, (t, .inr (6, [.int ns, .int np, .int fu, .int fd, .int fi, .ref t1, .ref t2, .ref t3, .ref t4, .ref t5, .ref t6])), aI G t1 9 sz_, aI G t2 9 pt, aI G t3 9 fh, aI G t4 8 kd, aI G t5 8 nd, aI G t6 8 fw] := hD
  refine lv_aload_n hx hb dX1_shareHeat_31 rfl (lv_at hl 1 rfl) ?_
  refine va_get (D := G.1) (ci := 1) (v := .ref n1) (C := RX1) (T := TX1) (N := 10) hx hb hts hinX1 hown hKK.1 hP 0 rfl rfl 0 (by decide) kl9 (fun _ h9 => h9) rfl dX1_shareHeat_32 ?_
  refine lv_iload_n hx hb dX1_shareHeat_35 rfl (lv_at hl 4 rfl) ?_
  refine lv_dup2_11 hx hb dX1_shareHeat_36 rfl rfl ?_
  obtain ⟨hin, hv⟩ := hv
  refine va_iald hx hb hKK.1 hP 1 0 rfl rfl hin dX1_shareHeat_37 ?_
  refine lv_iload hx hb dX1_shareHeat_38 (lv_at hl 0 rfl) ?_
  refine lv_iadd hx hb dX1_shareHeat_40 ?_
  obtain ⟨hin, hv⟩ := hv
  refine va_iast hx hb hKK.1 hP hD hS 1 0 rfl rfl hin dX1_shareHeat_41 (fun H locs hP hD hS => ?_)
  have hP : va_P G.1 vwCl [(n, .inr (1, [.ref n1, .ref n2, .ref n3, .ref n4, .ref n5, .ref n6, .ref n7, .int lo, .int mi, .int sd])), aI G n1 9 (upd ht bq.toNatClampNeg ((ht bq.toNatClampNeg) + (flowI (kd pq.toNatClampNeg) (sz_ bq.toNatClampNeg) (wm pq.toNatClampNeg) (ht bq.toNatClampNeg)))), aI G n2 8 (upd wm pq.toNatClampNeg ((wm pq.toNatClampNeg) - (flowI (kd pq.toNatClampNeg) (sz_ bq.toNatClampNeg) (wm pq.toNatClampNeg) (ht bq.toNatClampNeg)))), aI G n3 8 se, aI G n4 8 cd, aI G n5 8 sl, aI G n6 8 od, aI G n7 72 ow, (t, .inr (6, [.int ns, .int np, .int fu, .int fd, .int fi, .ref t1, .ref t2, .ref t3, .ref t4, .ref t5, .ref t6])), aI G t1 9 sz_, aI G t2 9 pt, aI G t3 9 fh, aI G t4 8 kd, aI G t5 8 nd, aI G t6 8 fw] H := hP
  have hD : va_D A [(n, .inr (1, [.ref n1, .ref n2, .ref n3, .ref n4, .ref n5, .ref n6, .ref n7, .int lo, .int mi, .int sd])), aI G n1 9 (upd ht bq.toNatClampNeg ((ht bq.toNatClampNeg) + (flowI (kd pq.toNatClampNeg) (sz_ bq.toNatClampNeg) (wm pq.toNatClampNeg) (ht bq.toNatClampNeg)))), aI G n2 8 (upd wm pq.toNatClampNeg ((wm pq.toNatClampNeg) - (flowI (kd pq.toNatClampNeg) (sz_ bq.toNatClampNeg) (wm pq.toNatClampNeg) (ht bq.toNatClampNeg)))), aI G n3 8 se, aI G n4 8 cd, aI G n5 8 sl, aI G n6 8 od, aI G n7 72 ow, (t, .inr (6, [.int ns, .int np, .int fu, .int fd, .int fi, .ref t1, .ref t2, .ref t3, .ref t4, .ref t5, .ref t6])), aI G t1 9 sz_, aI G t2 9 pt, aI G t3 9 fh, aI G t4 8 kd, aI G t5 8 nd, aI G t6 8 fw] := hD
  exact x_vret ((upd ht bq.toNatClampNeg ((ht bq.toNatClampNeg) + (flowI (kd pq.toNatClampNeg) (sz_ bq.toNatClampNeg) (wm pq.toNatClampNeg) (ht bq.toNatClampNeg)))), (upd wm pq.toNatClampNeg ((wm pq.toNatClampNeg) - (flowI (kd pq.toNatClampNeg) (sz_ bq.toNatClampNeg) (wm pq.toNatClampNeg) (ht bq.toNatClampNeg))))) hQ hx hb hr hlocks hS dX1_shareHeat_42 hv hP hD
theorem v_X1_shareHeat (l : Launch) (G : Gt) (n n1 n2 n3 n4 n5 n6 n7 t t1 t2 t3 t4 t5 t6 : Nat) (sz : Nat) (ht : Nat → Int32) (wm : Nat → Int32) (se : Nat → Int32) (cd : Nat → Int32) (sl : Nat → Int32) (od : Nat → Int32) (ow : Nat → Int32) (lo : Int32) (mi : Int32) (sd : Int32) (ns : Int32) (np : Int32) (fu : Int32) (fd : Int32) (fi : Int32) (sz_ : Nat → Int32) (pt : Nat → Int32) (fh : Nat → Int32) (kd : Nat → Int32) (nd : Nat → Int32) (fw : Nat → Int32) (pq : Int32) (bq : Int32) (T : Nat → Nat → Int) (Ns : Nat) (Np : Nat) (v : Nat → Int) (kk : Nat → Int) (M : Int) (ip : Nat) (ib : Nat) (hp : TOK T Ns Np ∧ CT T Ns Np ns np fu fd fi sz_ pt kd nd ∧ CN Ns Np v ht wm se cd sl od ow lo mi sd ∧ NOK T Ns Np kk M v ∧ pq = nI ip ∧ ip < Np ∧ bq = nI ib ∧ ib < Ns) : (vp_in pq 8) ∧ ((vp_in bq 9) ∧ ((vp_in pq 8 ∧ vp_in bq 9) ∧ ((vp_in pq 8) ∧ ((vp_in pq 8) ∧ ((vp_in bq 9) ∧ ((vp_in bq 9) ∧ (CN Ns Np (zSit T ip ib v) (upd ht bq.toNatClampNeg ((ht bq.toNatClampNeg) + (flowI (kd pq.toNatClampNeg) (sz_ bq.toNatClampNeg) (wm pq.toNatClampNeg) (ht bq.toNatClampNeg)))) (upd wm pq.toNatClampNeg ((wm pq.toNatClampNeg) - (flowI (kd pq.toNatClampNeg) (sz_ bq.toNatClampNeg) (wm pq.toNatClampNeg) (ht bq.toNatClampNeg)))) se cd sl od ow lo mi sd))))))) := by
  obtain ⟨hT, hC, hN, hO, rfl, h1, rfl, h2⟩ := hp
  have t1 := hT.1
  have t2 := hT.2.1
  have a := vp_in_nI (n := ip) (N := 8) (by omega) (by omega)
  have b := vp_in_nI (n := ib) (N := 9) (by omega) (by omega)
  have ea : (nI ip).toNatClampNeg = ip := nI_clamp (by omega)
  have eb : (nI ib).toNatClampNeg = ib := nI_clamp (by omega)
  simp only [ea, eb]
  exact ⟨a, b, ⟨a, b⟩, a, a, b, b, CN_share hT hC hN hO h1 h2⟩
theorem k_X1_shareHeat (l : Launch) (G : Gt) (n n1 n2 n3 n4 n5 n6 n7 t t1 t2 t3 t4 t5 t6 : Nat) (sz : Nat) (ht : Nat → Int32) (wm : Nat → Int32) (se : Nat → Int32) (cd : Nat → Int32) (sl : Nat → Int32) (od : Nat → Int32) (ow : Nat → Int32) (lo : Int32) (mi : Int32) (sd : Int32) (ns : Int32) (np : Int32) (fu : Int32) (fd : Int32) (fi : Int32) (sz_ : Nat → Int32) (pt : Nat → Int32) (fh : Nat → Int32) (kd : Nat → Int32) (nd : Nat → Int32) (fw : Nat → Int32) (pq : Int32) (bq : Int32) (T : Nat → Nat → Int) (Ns : Nat) (Np : Nat) (v : Nat → Int) (kk : Nat → Int) (M : Int) (ip : Nat) (ib : Nat) (hp : TOK T Ns Np ∧ CT T Ns Np ns np fu fd fi sz_ pt kd nd ∧ CN Ns Np v ht wm se cd sl od ow lo mi sd ∧ NOK T Ns Np kk M v ∧ pq = nI ip ∧ ip < Np ∧ bq = nI ib ∧ ib < Ns) : MetV l yX1_shareHeat wsX1_shareHeat 2 45 G [.ref n, .ref t, .int pq, .int bq] [(n, .inr (1, [.ref n1, .ref n2, .ref n3, .ref n4, .ref n5, .ref n6, .ref n7, .int lo, .int mi, .int sd])), aI G n1 9 ht, aI G n2 8 wm, aI G n3 8 se, aI G n4 8 cd, aI G n5 8 sl, aI G n6 8 od, aI G n7 72 ow, (t, .inr (6, [.int ns, .int np, .int fu, .int fd, .int fi, .ref t1, .ref t2, .ref t3, .ref t4, .ref t5, .ref t6])), aI G t1 9 sz_, aI G t2 9 pt, aI G t3 9 fh, aI G t4 8 kd, aI G t5 8 nd, aI G t6 8 fw] sz (fun (u : (Nat → Int32) × (Nat → Int32)) => CN Ns Np (zSit T ip ib v) u.1 u.2 se cd sl od ow lo mi sd) (fun (u : (Nat → Int32) × (Nat → Int32)) => [(n, .inr (1, [.ref n1, .ref n2, .ref n3, .ref n4, .ref n5, .ref n6, .ref n7, .int lo, .int mi, .int sd])), aI G n1 9 u.1, aI G n2 8 u.2, aI G n3 8 se, aI G n4 8 cd, aI G n5 8 sl, aI G n6 8 od, aI G n7 72 ow, (t, .inr (6, [.int ns, .int np, .int fu, .int fd, .int fi, .ref t1, .ref t2, .ref t3, .ref t4, .ref t5, .ref t6])), aI G t1 9 sz_, aI G t2 9 pt, aI G t3 9 fh, aI G t4 8 kd, aI G t5 8 nd, aI G t6 8 fw]) :=
  c_X1_shareHeat l G n n1 n2 n3 n4 n5 n6 n7 t t1 t2 t3 t4 t5 t6 sz ht wm se cd sl od ow lo mi sd ns np fu fd fi sz_ pt fh kd nd fw pq bq T Ns Np v kk M ip ib (v_X1_shareHeat l G n n1 n2 n3 n4 n5 n6 n7 t t1 t2 t3 t4 t5 t6 sz ht wm se cd sl od ow lo mi sd ns np fu fd fi sz_ pt fh kd nd fw pq bq T Ns Np v kk M ip ib hp)

set_option maxHeartbeats 4000000 in
set_option maxRecDepth 100000 in
theorem c_X1_coolEmptyStones (l : Launch) (G : Gt) (n n1 n2 n3 n4 n5 n6 n7 t t1 t2 t3 t4 t5 t6 : Nat) (sz : Nat) (ht : Nat → Int32) (wm : Nat → Int32) (se : Nat → Int32) (cd : Nat → Int32) (sl : Nat → Int32) (od : Nat → Int32) (ow : Nat → Int32) (lo : Int32) (mi : Int32) (sd : Int32) (ns : Int32) (np : Int32) (fu : Int32) (fd : Int32) (fi : Int32) (sz_ : Nat → Int32) (pt : Nat → Int32) (fh : Nat → Int32) (kd : Nat → Int32) (nd : Nat → Int32) (fw : Nat → Int32) (tk : Int32) (T : Nat → Nat → Int) (Ns : Nat) (Np : Nat) (v : Nat → Int) (kk : Nat → Int) (M : Int) (hv : ∃ (I2_4 : (Nat → Int32) → Int32 → Int32 → Prop) (μ2_5 : (Nat → Int32) → Int32 → Int32 → Nat), I2_4 ht lo 0 ∧ (∀ (fn1_1 : (Nat → Int32)) (gn7_2 : Int32) (x3_3 : Int32), I2_4 fn1_1 gn7_2 x3_3 → (ns ≤ x3_3 → CN Ns Np (zCools T Np v Ns) fn1_1 wm se cd sl od ow gn7_2 mi sd) ∧ (¬ (ns ≤ x3_3) → (¬ ((tk >>> (x3_3 &&& 31)) &&& 1) = 0 → I2_4 fn1_1 gn7_2 (x3_3 + 1) ∧ μ2_5 fn1_1 gn7_2 (x3_3 + 1) < μ2_5 fn1_1 gn7_2 x3_3) ∧ (((tk >>> (x3_3 &&& 31)) &&& 1) = 0 → (vp_in x3_3 9) ∧ ((vp_in x3_3 9) ∧ ((vp_in x3_3 9) ∧ ((vp_in x3_3 9) ∧ (I2_4 (upd fn1_1 x3_3.toNatClampNeg ((fn1_1 x3_3.toNatClampNeg) - (lossI (pt x3_3.toNatClampNeg) (fn1_1 x3_3.toNatClampNeg)))) (gn7_2 + (lossI (pt x3_3.toNatClampNeg) (fn1_1 x3_3.toNatClampNeg))) (x3_3 + 1) ∧ μ2_5 (upd fn1_1 x3_3.toNatClampNeg ((fn1_1 x3_3.toNatClampNeg) - (lossI (pt x3_3.toNatClampNeg) (fn1_1 x3_3.toNatClampNeg)))) (gn7_2 + (lossI (pt x3_3.toNatClampNeg) (fn1_1 x3_3.toNatClampNeg))) (x3_3 + 1) < μ2_5 fn1_1 gn7_2 x3_3)))))))) : MetV l yX1_coolEmptyStones wsX1_coolEmptyStones 2 35 G [.ref n, .ref t, .int tk] [(n, .inr (1, [.ref n1, .ref n2, .ref n3, .ref n4, .ref n5, .ref n6, .ref n7, .int lo, .int mi, .int sd])), aI G n1 9 ht, aI G n2 8 wm, aI G n3 8 se, aI G n4 8 cd, aI G n5 8 sl, aI G n6 8 od, aI G n7 72 ow, (t, .inr (6, [.int ns, .int np, .int fu, .int fd, .int fi, .ref t1, .ref t2, .ref t3, .ref t4, .ref t5, .ref t6])), aI G t1 9 sz_, aI G t2 9 pt, aI G t3 9 fh, aI G t4 8 kd, aI G t5 8 nd, aI G t6 8 fw] sz (fun (u : (Nat → Int32) × (Int32)) => CN Ns Np (zCools T Np v Ns) u.1 wm se cd sl od ow u.2 mi sd) (fun (u : (Nat → Int32) × (Int32)) => [(n, .inr (1, [.ref n1, .ref n2, .ref n3, .ref n4, .ref n5, .ref n6, .ref n7, .int u.2, .int mi, .int sd])), aI G n1 9 u.1, aI G n2 8 wm, aI G n3 8 se, aI G n4 8 cd, aI G n5 8 sl, aI G n6 8 od, aI G n7 72 ow, (t, .inr (6, [.int ns, .int np, .int fu, .int fd, .int fi, .ref t1, .ref t2, .ref t3, .ref t4, .ref t5, .ref t6])), aI G t1 9 sz_, aI G t2 9 pt, aI G t3 9 fh, aI G t4 8 kd, aI G t5 8 nd, aI G t6 8 fw]) := by
  refine x_startV (cc := cX1_coolEmptyStones) (maxL := 5) (ret := none) (by decide) rfl (Nat.le_of_ble_eq_true rfl) ?_
  intro p e s m args below meth c A R Q ls hRf hRl hQ C hP hD hS hA hSS hl
  obtain ⟨hx, hb, hr, hml, hown, hts, hlocks, hKK⟩ := C
  have hown : s.vm.findClass RX1 = some m.cls := hown
  have hl : lv_has ls 5 [(0, .ref n), (1, .ref t), (2, .int tk)] := hl
  have hinX1 : ∀ w ∈ u_ws RX1 TX1 10, w ∈ wsX1_coolEmptyStones := by decide +kernel
  have hinX6 : ∀ w ∈ u_ws RX6 TX6 11, w ∈ wsX1_coolEmptyStones := by decide +kernel
  have kl33 := hts (.fieldLink RX1 33 "WarmStones$Town" "stones" "I") (by decide +kernel)
  have kl48 := hts (.fieldLink RX1 48 "WarmStones$Night" "lost" "I") (by decide +kernel)
  have kl9 := hts (.fieldLink RX1 9 "WarmStones$Night" "heat" "[I") (by decide +kernel)
  refine lv_iconst (v := 0) hx hb dX1_coolEmptyStones_0 (by decide) ?_
  refine lv_istore_n (lv' := [(3, .int 0), (0, .ref n), (1, .ref t), (2, .int tk)]) hx hb dX1_coolEmptyStones_1 rfl hl (by decide) rfl (fun ls hl => ?_)
  obtain ⟨I2_4, μ2_5, hi0, hs_11⟩ := hv
  have Lm_13 : ∀ (n_12 : Nat) (fn1_1 : (Nat → Int32)) (gn7_2 : Int32) (x3_3 : Int32) (H : Heap) (locs : List Loc) (ls : Array Slot), μ2_5 fn1_1 gn7_2 x3_3 < n_12 → I2_4 fn1_1 gn7_2 x3_3 → va_P G.1 vwCl [(n, .inr (1, [.ref n1, .ref n2, .ref n3, .ref n4, .ref n5, .ref n6, .ref n7, .int gn7_2, .int mi, .int sd])), aI G n1 9 fn1_1, aI G n2 8 wm, aI G n3 8 se, aI G n4 8 cd, aI G n5 8 sl, aI G n6 8 od, aI G n7 72 ow, (t, .inr (6, [.int ns, .int np, .int fu, .int fd, .int fi, .ref t1, .ref t2, .ref t3, .ref t4, .ref t5, .ref t6])), aI G t1 9 sz_, aI G t2 9 pt, aI G t3 9 fh, aI G t4 8 kd, aI G t5 8 nd, aI G t6 8 fw] H → va_D A [(n, .inr (1, [.ref n1, .ref n2, .ref n3, .ref n4, .ref n5, .ref n6, .ref n7, .int gn7_2, .int mi, .int sd])), aI G n1 9 fn1_1, aI G n2 8 wm, aI G n3 8 se, aI G n4 8 cd, aI G n5 8 sl, aI G n6 8 od, aI G n7 72 ow, (t, .inr (6, [.int ns, .int np, .int fu, .int fd, .int fi, .ref t1, .ref t2, .ref t3, .ref t4, .ref t5, .ref t6])), aI G t1 9 sz_, aI G t2 9 pt, aI G t3 9 fh, aI G t4 8 kd, aI G t5 8 nd, aI G t6 8 fw] → va_S A s.heap H locs → lv_has ls 5 [(3, .int x3_3), (0, .ref n), (1, .ref t), (2, .int tk)] → W p l e R s m args below meth c H locs 0 0 Q (F0 m 2 ls []) := by
    intro n_12
    induction n_12 with
    | zero => intro fn1_1 gn7_2 x3_3 H locs ls hm; exact absurd hm (Nat.not_lt_zero _)
    | succ n_12 ih_6 =>
      intro fn1_1 gn7_2 x3_3 H locs ls hI_7 hi hP hD hS hl
      have hv := hs_11 fn1_1 gn7_2 x3_3 hi
      refine lv_iload_n hx hb dX1_coolEmptyStones_2 rfl (lv_at hl 0 rfl) ?_
      refine lv_aload_n hx hb dX1_coolEmptyStones_3 rfl (lv_at hl 2 rfl) ?_
      refine va_get (D := G.1) (ci := 6) (v := .int ns) (C := RX6) (T := TX6) (N := 11) hx hb hts hinX6 hown hKK.1 hP 8 rfl rfl 0 (by decide) kl33 (fun _ h9 => h9) rfl dX1_coolEmptyStones_4 ?_
      refine lv_icmp_ge (tgt := 59) hx hb dX1_coolEmptyStones_7 (by decide) (fun hc_8 => ?_) (fun hc_8 => ?_)
      · have hv := hv.1 hc_8
        exact x_vret (fn1_1, gn7_2) hQ hx hb hr hlocks hS dX1_coolEmptyStones_59 hv hP hD
      · have hv := hv.2 hc_8
        refine lv_iload_n hx hb dX1_coolEmptyStones_10 rfl (lv_at hl 3 rfl) ?_
        refine lv_iload_n hx hb dX1_coolEmptyStones_11 rfl (lv_at hl 0 rfl) ?_
        refine lv_ishr hx hb dX1_coolEmptyStones_12 ?_
        refine lv_iconst (v := 1) hx hb dX1_coolEmptyStones_13 (by decide) ?_
        refine lv_iand hx hb dX1_coolEmptyStones_14 ?_
        refine lv_if_ne (tgt := 53) hx hb dX1_coolEmptyStones_15 (by decide) (fun hc_9 => ?_) (fun hc_9 => ?_)
        · have hv := hv.1 hc_9
          refine lv_iinc (v := (x3_3 + 1)) (lv' := [(3, .int (x3_3 + 1)), (0, .ref n), (1, .ref t), (2, .int tk)]) hx hb dX1_coolEmptyStones_53 hl (k := 0) rfl rfl (by decide) rfl (fun ls hl => ?_)
          refine lv_goto (tgt := 2) hx hb dX1_coolEmptyStones_56 (by decide) ?_
          exact ih_6 _ _ _ _ _ _ (Nat.lt_of_lt_of_le hv.2 (Nat.le_of_lt_succ hI_7)) hv.1 hP hD hS hl
        · have hv := hv.2 hc_9
          refine lv_aload_n hx hb dX1_coolEmptyStones_18 rfl (lv_at hl 2 rfl) ?_
          refine lv_iload_n hx hb dX1_coolEmptyStones_19 rfl (lv_at hl 0 rfl) ?_
          refine lv_aload_n hx hb dX1_coolEmptyStones_20 rfl (lv_at hl 1 rfl) ?_
          refine va_get (D := G.1) (ci := 1) (v := .ref n1) (C := RX1) (T := TX1) (N := 10) hx hb hts hinX1 hown hKK.1 hP 0 rfl rfl 0 (by decide) kl9 (fun _ h9 => h9) rfl dX1_coolEmptyStones_21 ?_
          refine lv_iload_n hx hb dX1_coolEmptyStones_24 rfl (lv_at hl 0 rfl) ?_
          obtain ⟨hin, hv⟩ := hv
          refine va_iald hx hb hKK.1 hP 1 0 rfl rfl hin dX1_coolEmptyStones_25 ?_
          obtain ⟨hp, hv⟩ := hv
          refine x_calliR (x_runV (As := [.int x3_3, .int (fn1_1 x3_3.toNatClampNeg)]) (rest := []) (n := 2) (C := RX6) (ci := 6) ⟨hx, hb, hml, hown, hts⟩ (k_X6_lossOfEmpty l G t t1 t2 t3 t4 t5 t6 _ ns np fu fd fi sz_ pt fh kd nd fw x3_3 (fn1_1 x3_3.toNatClampNeg) hp) gX1_coolEmptyStones_X6_lossOfEmpty rfl (by decide +kernel) ⟨Nat.le_trans (Nat.le_of_ble_eq_true rfl) hRf, Nat.le_trans (Nat.le_of_ble_eq_true rfl) hRl⟩ hKK hSS hS hA hP hD [8, 9, 10, 11, 12, 13, 14] (by decide) rfl rfl rfl 8 rfl rfl hl.1 rfl (Nat.le_of_ble_eq_true rfl) dX1_coolEmptyStones_26) hP hD hS hA [8, 9, 10, 11, 12, 13, 14] rfl (fun r_10 _ H locs hw hP hS => ?_)
          replace hw := hw.symm; subst hw
          refine lv_istore (lv' := [(4, .int (lossI (pt x3_3.toNatClampNeg) (fn1_1 x3_3.toNatClampNeg))), (3, .int x3_3), (0, .ref n), (1, .ref t), (2, .int tk)]) hx hb dX1_coolEmptyStones_29 hl (by decide) rfl (fun ls hl => ?_)
          refine lv_aload_n hx hb dX1_coolEmptyStones_31 rfl (lv_at hl 2 rfl) ?_
          refine va_get (D := G.1) (ci := 1) (v := .ref n1) (C := RX1) (T := TX1) (N := 10) hx hb hts hinX1 hown hKK.1 hP 0 rfl rfl 0 (by decide) kl9 (fun _ h9 => h9) rfl dX1_coolEmptyStones_32 ?_
          refine lv_iload_n hx hb dX1_coolEmptyStones_35 rfl (lv_at hl 1 rfl) ?_
          refine lv_dup2_11 hx hb dX1_coolEmptyStones_36 rfl rfl ?_
          obtain ⟨hin, hv⟩ := hv
          refine va_iald hx hb hKK.1 hP 1 0 rfl rfl hin dX1_coolEmptyStones_37 ?_
          refine lv_iload hx hb dX1_coolEmptyStones_38 (lv_at hl 0 rfl) ?_
          refine lv_isub hx hb dX1_coolEmptyStones_40 ?_
          obtain ⟨hin, hv⟩ := hv
          refine va_iast hx hb hKK.1 hP hD hS 1 0 rfl rfl hin dX1_coolEmptyStones_41 (fun H locs hP hD hS => ?_)
          have hP : va_P G.1 vwCl [(n, .inr (1, [.ref n1, .ref n2, .ref n3, .ref n4, .ref n5, .ref n6, .ref n7, .int gn7_2, .int mi, .int sd])), aI G n1 9 (upd fn1_1 x3_3.toNatClampNeg ((fn1_1 x3_3.toNatClampNeg) - (lossI (pt x3_3.toNatClampNeg) (fn1_1 x3_3.toNatClampNeg)))), aI G n2 8 wm, aI G n3 8 se, aI G n4 8 cd, aI G n5 8 sl, aI G n6 8 od, aI G n7 72 ow, (t, .inr (6, [.int ns, .int np, .int fu, .int fd, .int fi, .ref t1, .ref t2, .ref t3, .ref t4, .ref t5, .ref t6])), aI G t1 9 sz_, aI G t2 9 pt, aI G t3 9 fh, aI G t4 8 kd, aI G t5 8 nd, aI G t6 8 fw] H := hP
          have hD : va_D A [(n, .inr (1, [.ref n1, .ref n2, .ref n3, .ref n4, .ref n5, .ref n6, .ref n7, .int gn7_2, .int mi, .int sd])), aI G n1 9 (upd fn1_1 x3_3.toNatClampNeg ((fn1_1 x3_3.toNatClampNeg) - (lossI (pt x3_3.toNatClampNeg) (fn1_1 x3_3.toNatClampNeg)))), aI G n2 8 wm, aI G n3 8 se, aI G n4 8 cd, aI G n5 8 sl, aI G n6 8 od, aI G n7 72 ow, (t, .inr (6, [.int ns, .int np, .int fu, .int fd, .int fi, .ref t1, .ref t2, .ref t3, .ref t4, .ref t5, .ref t6])), aI G t1 9 sz_, aI G t2 9 pt, aI G t3 9 fh, aI G t4 8 kd, aI G t5 8 nd, aI G t6 8 fw] := hD
          refine lv_aload_n hx hb dX1_coolEmptyStones_42 rfl (lv_at hl 2 rfl) ?_
          refine lv_dup hx hb dX1_coolEmptyStones_43 rfl ?_
          refine va_get (D := G.1) (ci := 1) (v := .int gn7_2) (C := RX1) (T := TX1) (N := 10) hx hb hts hinX1 hown hKK.1 hP 0 rfl rfl 7 (by decide) kl48 (fun _ h9 => h9) rfl dX1_coolEmptyStones_44 ?_
          refine lv_iload hx hb dX1_coolEmptyStones_47 (lv_at hl 0 rfl) ?_
          refine lv_iadd hx hb dX1_coolEmptyStones_49 ?_
          refine va_put (D := G.1) (ci := 1) (v := .int (gn7_2 + (lossI (pt x3_3.toNatClampNeg) (fn1_1 x3_3.toNatClampNeg)))) (ty := .int) (C := RX1) (T := TX1) (N := 10) hx hb hts hinX1 tyX1 tyX1_ok nmX1 hown hKK.1 hP hD hS 0 rfl rfl 7 (by decide) kl48 (fun _ h9 => h9) rfl (by decide +kernel) rfl rfl (Nat.le_of_ble_eq_true rfl) dX1_coolEmptyStones_50 (fun H locs hP hD hS => ?_)
          have hP : va_P G.1 vwCl [(n, .inr (1, [.ref n1, .ref n2, .ref n3, .ref n4, .ref n5, .ref n6, .ref n7, .int (gn7_2 + (lossI (pt x3_3.toNatClampNeg) (fn1_1 x3_3.toNatClampNeg))), .int mi, .int sd])), aI G n1 9 (upd fn1_1 x3_3.toNatClampNeg ((fn1_1 x3_3.toNatClampNeg) - (lossI (pt x3_3.toNatClampNeg) (fn1_1 x3_3.toNatClampNeg)))), aI G n2 8 wm, aI G n3 8 se, aI G n4 8 cd, aI G n5 8 sl, aI G n6 8 od, aI G n7 72 ow, (t, .inr (6, [.int ns, .int np, .int fu, .int fd, .int fi, .ref t1, .ref t2, .ref t3, .ref t4, .ref t5, .ref t6])), aI G t1 9 sz_, aI G t2 9 pt, aI G t3 9 fh, aI G t4 8 kd, aI G t5 8 nd, aI G t6 8 fw] H := hP
          have hD : va_D A [(n, .inr (1, [.ref n1, .ref n2, .ref n3, .ref n4, .ref n5, .ref n6, .ref n7, .int (gn7_2 + (lossI (pt x3_3.toNatClampNeg) (fn1_1 x3_3.toNatClampNeg))), .int mi, .int sd])), aI G n1 9 (upd fn1_1 x3_3.toNatClampNeg ((fn1_1 x3_3.toNatClampNeg) - (lossI (pt x3_3.toNatClampNeg) (fn1_1 x3_3.toNatClampNeg)))), aI G n2 8 wm, aI G n3 8 se, aI G n4 8 cd, aI G n5 8 sl, aI G n6 8 od, aI G n7 72 ow, (t, .inr (6, [.int ns, .int np, .int fu, .int fd, .int fi, .ref t1, .ref t2, .ref t3, .ref t4, .ref t5, .ref t6])), aI G t1 9 sz_, aI G t2 9 pt, aI G t3 9 fh, aI G t4 8 kd, aI G t5 8 nd, aI G t6 8 fw] := hD
          refine lv_iinc (v := (x3_3 + 1)) (lv' := [(3, .int (x3_3 + 1)), (4, .int (lossI (pt x3_3.toNatClampNeg) (fn1_1 x3_3.toNatClampNeg))), (0, .ref n), (1, .ref t), (2, .int tk)]) hx hb dX1_coolEmptyStones_53 hl (k := 1) rfl rfl (by decide) rfl (fun ls hl => ?_)
          refine lv_goto (tgt := 2) hx hb dX1_coolEmptyStones_56 (by decide) ?_
          exact ih_6 _ _ _ _ _ _ (Nat.lt_of_lt_of_le hv.2 (Nat.le_of_lt_succ hI_7)) hv.1 hP hD hS (lv_sub hl [0, 2, 3, 4] rfl)
  exact Lm_13 _ _ _ _ _ _ _ (Nat.lt_succ_self _) hi0 hP hD hS hl
theorem v_X1_coolEmptyStones (l : Launch) (G : Gt) (n n1 n2 n3 n4 n5 n6 n7 t t1 t2 t3 t4 t5 t6 : Nat) (sz : Nat) (ht : Nat → Int32) (wm : Nat → Int32) (se : Nat → Int32) (cd : Nat → Int32) (sl : Nat → Int32) (od : Nat → Int32) (ow : Nat → Int32) (lo : Int32) (mi : Int32) (sd : Int32) (ns : Int32) (np : Int32) (fu : Int32) (fd : Int32) (fi : Int32) (sz_ : Nat → Int32) (pt : Nat → Int32) (fh : Nat → Int32) (kd : Nat → Int32) (nd : Nat → Int32) (fw : Nat → Int32) (tk : Int32) (T : Nat → Nat → Int) (Ns : Nat) (Np : Nat) (v : Nat → Int) (kk : Nat → Int) (M : Int) (hp : TOK T Ns Np ∧ CT T Ns Np ns np fu fd fi sz_ pt kd nd ∧ CN Ns Np v ht wm se cd sl od ow lo mi sd ∧ NOK T Ns Np kk M v ∧ (∀ b, b < 9 → (((tk >>> (nI b &&& 31)) &&& 1) = 0 ↔ zEmpty v b Np))) : ∃ (I2_4 : (Nat → Int32) → Int32 → Int32 → Prop) (μ2_5 : (Nat → Int32) → Int32 → Int32 → Nat), I2_4 ht lo 0 ∧ (∀ (fn1_1 : (Nat → Int32)) (gn7_2 : Int32) (x3_3 : Int32), I2_4 fn1_1 gn7_2 x3_3 → (ns ≤ x3_3 → CN Ns Np (zCools T Np v Ns) fn1_1 wm se cd sl od ow gn7_2 mi sd) ∧ (¬ (ns ≤ x3_3) → (¬ ((tk >>> (x3_3 &&& 31)) &&& 1) = 0 → I2_4 fn1_1 gn7_2 (x3_3 + 1) ∧ μ2_5 fn1_1 gn7_2 (x3_3 + 1) < μ2_5 fn1_1 gn7_2 x3_3) ∧ (((tk >>> (x3_3 &&& 31)) &&& 1) = 0 → (vp_in x3_3 9) ∧ ((vp_in x3_3 9) ∧ ((vp_in x3_3 9) ∧ ((vp_in x3_3 9) ∧ (I2_4 (upd fn1_1 x3_3.toNatClampNeg ((fn1_1 x3_3.toNatClampNeg) - (lossI (pt x3_3.toNatClampNeg) (fn1_1 x3_3.toNatClampNeg)))) (gn7_2 + (lossI (pt x3_3.toNatClampNeg) (fn1_1 x3_3.toNatClampNeg))) (x3_3 + 1) ∧ μ2_5 (upd fn1_1 x3_3.toNatClampNeg ((fn1_1 x3_3.toNatClampNeg) - (lossI (pt x3_3.toNatClampNeg) (fn1_1 x3_3.toNatClampNeg)))) (gn7_2 + (lossI (pt x3_3.toNatClampNeg) (fn1_1 x3_3.toNatClampNeg))) (x3_3 + 1) < μ2_5 fn1_1 gn7_2 x3_3))))))) := by
  obtain ⟨hT, hC, hN, hO, hK⟩ := hp
  have t1 := hT.1
  have t2 := hT.2.1
  have hns : ns = nI Ns := hC.1
  refine ⟨fun f g x => ∃ i, i ≤ Ns ∧ x = nI i ∧ CN Ns Np (zCools T Np v i) f wm se cd sl od ow g mi sd, fun _ _ x => 9 - x.toNatClampNeg, ⟨0, by omega, rfl, hN⟩, ?_⟩
  rintro f g x ⟨i, hi, rfl, hNi⟩
  have ei : (nI i).toNatClampNeg = i := nI_clamp (by omega)
  have ei1 : nI i + 1 = nI (i + 1) := nI_1 i
  have ej : (nI (i + 1)).toNatClampNeg = i + 1 := nI_clamp (by omega)
  simp only [ei1, ei, ej, hns]
  refine ⟨fun h => ?_, fun h => ?_⟩
  · have e : Ns = i := by have := (nI_leI (a := Ns) (b := i) (by omega) (by omega)).mp h; omega
    subst e; exact hNi
  · have hlt : i < Ns := by
      rcases Nat.lt_or_ge i Ns with q | q
      · exact q
      · exact absurd ((nI_leI (by omega) (by omega)).mpr q) h
    have a := vp_in_nI (n := i) (N := 9) (by omega) (by omega)
    have hE : zEmpty (zCools T Np v i) i Np ↔ zEmpty v i Np := by
      rw [zEmpty_iff, zEmpty_iff]
      refine forall_congr' fun q => forall_congr' fun hq => ?_
      rw [zCools_far (by omega) i (by omega)]
    have hOi := zCools_ok hT hO i hi
    refine ⟨fun h2 => ⟨⟨i + 1, by omega, rfl, ?_⟩, by omega⟩, fun h2 => ⟨a, a, a, a, ⟨i + 1, by omega, rfl, ?_⟩, by omega⟩⟩
    · rw [zCools, zCool_no (fun q => h2 ((hK i (by omega)).mpr (hE.mp q)))]; exact hNi
    · rw [zCools, zCool_yes (hE.mpr ((hK i (by omega)).mp h2))]
      exact CN_loss hT hC hNi hOi hlt
theorem k_X1_coolEmptyStones (l : Launch) (G : Gt) (n n1 n2 n3 n4 n5 n6 n7 t t1 t2 t3 t4 t5 t6 : Nat) (sz : Nat) (ht : Nat → Int32) (wm : Nat → Int32) (se : Nat → Int32) (cd : Nat → Int32) (sl : Nat → Int32) (od : Nat → Int32) (ow : Nat → Int32) (lo : Int32) (mi : Int32) (sd : Int32) (ns : Int32) (np : Int32) (fu : Int32) (fd : Int32) (fi : Int32) (sz_ : Nat → Int32) (pt : Nat → Int32) (fh : Nat → Int32) (kd : Nat → Int32) (nd : Nat → Int32) (fw : Nat → Int32) (tk : Int32) (T : Nat → Nat → Int) (Ns : Nat) (Np : Nat) (v : Nat → Int) (kk : Nat → Int) (M : Int) (hp : TOK T Ns Np ∧ CT T Ns Np ns np fu fd fi sz_ pt kd nd ∧ CN Ns Np v ht wm se cd sl od ow lo mi sd ∧ NOK T Ns Np kk M v ∧ (∀ b, b < 9 → (((tk >>> (nI b &&& 31)) &&& 1) = 0 ↔ zEmpty v b Np))) : MetV l yX1_coolEmptyStones wsX1_coolEmptyStones 2 35 G [.ref n, .ref t, .int tk] [(n, .inr (1, [.ref n1, .ref n2, .ref n3, .ref n4, .ref n5, .ref n6, .ref n7, .int lo, .int mi, .int sd])), aI G n1 9 ht, aI G n2 8 wm, aI G n3 8 se, aI G n4 8 cd, aI G n5 8 sl, aI G n6 8 od, aI G n7 72 ow, (t, .inr (6, [.int ns, .int np, .int fu, .int fd, .int fi, .ref t1, .ref t2, .ref t3, .ref t4, .ref t5, .ref t6])), aI G t1 9 sz_, aI G t2 9 pt, aI G t3 9 fh, aI G t4 8 kd, aI G t5 8 nd, aI G t6 8 fw] sz (fun (u : (Nat → Int32) × (Int32)) => CN Ns Np (zCools T Np v Ns) u.1 wm se cd sl od ow u.2 mi sd) (fun (u : (Nat → Int32) × (Int32)) => [(n, .inr (1, [.ref n1, .ref n2, .ref n3, .ref n4, .ref n5, .ref n6, .ref n7, .int u.2, .int mi, .int sd])), aI G n1 9 u.1, aI G n2 8 wm, aI G n3 8 se, aI G n4 8 cd, aI G n5 8 sl, aI G n6 8 od, aI G n7 72 ow, (t, .inr (6, [.int ns, .int np, .int fu, .int fd, .int fi, .ref t1, .ref t2, .ref t3, .ref t4, .ref t5, .ref t6])), aI G t1 9 sz_, aI G t2 9 pt, aI G t3 9 fh, aI G t4 8 kd, aI G t5 8 nd, aI G t6 8 fw]) :=
  c_X1_coolEmptyStones l G n n1 n2 n3 n4 n5 n6 n7 t t1 t2 t3 t4 t5 t6 sz ht wm se cd sl od ow lo mi sd ns np fu fd fi sz_ pt fh kd nd fw tk T Ns Np v kk M (v_X1_coolEmptyStones l G n n1 n2 n3 n4 n5 n6 n7 t t1 t2 t3 t4 t5 t6 sz ht wm se cd sl od ow lo mi sd ns np fu fd fi sz_ pt fh kd nd fw tk T Ns Np v kk M hp)

set_option maxHeartbeats 4000000 in
set_option maxRecDepth 100000 in
theorem c_X1_sitterOn (l : Launch) (G : Gt) (n n1 n2 n3 n4 n5 n6 n7 : Nat) (sz : Nat) (ht : Nat → Int32) (wm : Nat → Int32) (se : Nat → Int32) (cd : Nat → Int32) (sl : Nat → Int32) (od : Nat → Int32) (ow : Nat → Int32) (lo : Int32) (mi : Int32) (sd : Int32) (bq : Int32) (Ns : Nat) (Np : Nat) (v : Nat → Int) (ib : Nat) (hv : ∃ (I2_2 : Int32 → Prop) (μ2_3 : Int32 → Nat), I2_2 0 ∧ (∀ (x2_1 : Int32), I2_2 x2_1 → (8 ≤ x2_1 → ((-1) : Int32) = zSitter v ib Np ∧ (((-1) : Int32) = -1 ↔ zEmpty v ib Np)) ∧ (¬ (8 ≤ x2_1) → (vp_in x2_1 8) ∧ ((¬ (se x2_1.toNatClampNeg) = bq → I2_2 (x2_1 + 1) ∧ μ2_3 (x2_1 + 1) < μ2_3 x2_1) ∧ ((se x2_1.toNatClampNeg) = bq → x2_1 = zSitter v ib Np ∧ (x2_1 = -1 ↔ zEmpty v ib Np)))))) : MetI l yX1_sitterOn wsX1_sitterOn 0 0 G [.ref n, .int bq] [(n, .inr (1, [.ref n1, .ref n2, .ref n3, .ref n4, .ref n5, .ref n6, .ref n7, .int lo, .int mi, .int sd])), aI G n1 9 ht, aI G n2 8 wm, aI G n3 8 se, aI G n4 8 cd, aI G n5 8 sl, aI G n6 8 od, aI G n7 72 ow] sz (fun (r : Int32) (_ : Unit) => r = zSitter v ib Np ∧ (r = -1 ↔ zEmpty v ib Np)) (fun (_ : Unit) => [(n, .inr (1, [.ref n1, .ref n2, .ref n3, .ref n4, .ref n5, .ref n6, .ref n7, .int lo, .int mi, .int sd])), aI G n1 9 ht, aI G n2 8 wm, aI G n3 8 se, aI G n4 8 cd, aI G n5 8 sl, aI G n6 8 od, aI G n7 72 ow]) := by
  refine x_startI (cc := cX1_sitterOn) (maxL := 3) (ret := (some .int)) (by decide) rfl (Nat.le_of_ble_eq_true rfl) ?_
  intro p e s m args below meth c A R Q ls hRf hRl hQ C hP hD hS hA hSS hl
  obtain ⟨hx, hb, hr, hml, hown, hts, hlocks, hKK⟩ := C
  have hown : s.vm.findClass RX1 = some m.cls := hown
  have hl : lv_has ls 3 [(0, .ref n), (1, .int bq)] := hl
  have hinX1 : ∀ w ∈ u_ws RX1 TX1 10, w ∈ wsX1_sitterOn := by decide +kernel
  have kl18 := hts (.fieldLink RX1 18 "WarmStones$Night" "seat" "[I") (by decide +kernel)
  refine lv_iconst (v := 0) hx hb dX1_sitterOn_0 (by decide) ?_
  refine lv_istore_n (lv' := [(2, .int 0), (0, .ref n), (1, .int bq)]) hx hb dX1_sitterOn_1 rfl hl (by decide) rfl (fun ls hl => ?_)
  obtain ⟨I2_2, μ2_3, hi0, hs_8⟩ := hv
  have Lm_10 : ∀ (n_9 : Nat) (x2_1 : Int32) (H : Heap) (locs : List Loc) (ls : Array Slot), μ2_3 x2_1 < n_9 → I2_2 x2_1 → va_P G.1 vwCl [(n, .inr (1, [.ref n1, .ref n2, .ref n3, .ref n4, .ref n5, .ref n6, .ref n7, .int lo, .int mi, .int sd])), aI G n1 9 ht, aI G n2 8 wm, aI G n3 8 se, aI G n4 8 cd, aI G n5 8 sl, aI G n6 8 od, aI G n7 72 ow] H → va_D A [(n, .inr (1, [.ref n1, .ref n2, .ref n3, .ref n4, .ref n5, .ref n6, .ref n7, .int lo, .int mi, .int sd])), aI G n1 9 ht, aI G n2 8 wm, aI G n3 8 se, aI G n4 8 cd, aI G n5 8 sl, aI G n6 8 od, aI G n7 72 ow] → va_S A s.heap H locs → lv_has ls 3 [(2, .int x2_1), (0, .ref n), (1, .int bq)] → W p l e R s m args below meth c H locs 0 0 Q (F0 m 2 ls []) := by
    intro n_9
    induction n_9 with
    | zero => intro x2_1 H locs ls hm; exact absurd hm (Nat.not_lt_zero _)
    | succ n_9 ih_4 =>
      intro x2_1 H locs ls hI_5 hi hP hD hS hl
      have hv := hs_8 x2_1 hi
      refine lv_iload_n hx hb dX1_sitterOn_2 rfl (lv_at hl 0 rfl) ?_
      refine lv_bipush (v := 8) hx hb dX1_sitterOn_3 (by decide) ?_
      refine lv_icmp_ge (tgt := 26) hx hb dX1_sitterOn_5 (by decide) (fun hc_6 => ?_) (fun hc_6 => ?_)
      · have hv := hv.1 hc_6
        refine lv_iconst (v := (-1)) hx hb dX1_sitterOn_26 (by decide) ?_
        exact x_iret (v := (-1)) () hQ hx hb hr hlocks hS dX1_sitterOn_27 hv hP hD
      · have hv := hv.2 hc_6
        refine lv_aload_n hx hb dX1_sitterOn_8 rfl (lv_at hl 1 rfl) ?_
        refine va_get (D := G.1) (ci := 1) (v := .ref n3) (C := RX1) (T := TX1) (N := 10) hx hb hts hinX1 hown hKK.1 hP 0 rfl rfl 2 (by decide) kl18 (fun _ h9 => h9) rfl dX1_sitterOn_9 ?_
        refine lv_iload_n hx hb dX1_sitterOn_12 rfl (lv_at hl 0 rfl) ?_
        obtain ⟨hin, hv⟩ := hv
        refine va_iald hx hb hKK.1 hP 3 0 rfl rfl hin dX1_sitterOn_13 ?_
        refine lv_iload_n hx hb dX1_sitterOn_14 rfl (lv_at hl 2 rfl) ?_
        refine lv_icmp_ne (tgt := 20) hx hb dX1_sitterOn_15 (by decide) (fun hc_7 => ?_) (fun hc_7 => ?_)
        · have hv := hv.1 hc_7
          refine lv_iinc (v := (x2_1 + 1)) (lv' := [(2, .int (x2_1 + 1)), (0, .ref n), (1, .int bq)]) hx hb dX1_sitterOn_20 hl (k := 0) rfl rfl (by decide) rfl (fun ls hl => ?_)
          refine lv_goto (tgt := 2) hx hb dX1_sitterOn_23 (by decide) ?_
          exact ih_4 _ _ _ _ (Nat.lt_of_lt_of_le hv.2 (Nat.le_of_lt_succ hI_5)) hv.1 hP hD hS hl
        · have hv := hv.2 hc_7
          refine lv_iload_n hx hb dX1_sitterOn_18 rfl (lv_at hl 0 rfl) ?_
          exact x_iret (v := x2_1) () hQ hx hb hr hlocks hS dX1_sitterOn_19 hv hP hD
  exact Lm_10 _ _ _ _ _ (Nat.lt_succ_self _) hi0 hP hD hS hl
theorem v_X1_sitterOn (l : Launch) (G : Gt) (n n1 n2 n3 n4 n5 n6 n7 : Nat) (sz : Nat) (ht : Nat → Int32) (wm : Nat → Int32) (se : Nat → Int32) (cd : Nat → Int32) (sl : Nat → Int32) (od : Nat → Int32) (ow : Nat → Int32) (lo : Int32) (mi : Int32) (sd : Int32) (bq : Int32) (Ns : Nat) (Np : Nat) (v : Nat → Int) (ib : Nat) (hp : Np ≤ 8 ∧ CN Ns Np v ht wm se cd sl od ow lo mi sd ∧ bq = nI ib ∧ (ib < Ns ∧ Ns ≤ 9)) : ∃ (I2_2 : Int32 → Prop) (μ2_3 : Int32 → Nat), I2_2 0 ∧ (∀ (x2_1 : Int32), I2_2 x2_1 → (8 ≤ x2_1 → ((-1) : Int32) = zSitter v ib Np ∧ (((-1) : Int32) = -1 ↔ zEmpty v ib Np)) ∧ (¬ (8 ≤ x2_1) → (vp_in x2_1 8) ∧ ((¬ (se x2_1.toNatClampNeg) = bq → I2_2 (x2_1 + 1) ∧ μ2_3 (x2_1 + 1) < μ2_3 x2_1) ∧ ((se x2_1.toNatClampNeg) = bq → x2_1 = zSitter v ib Np ∧ (x2_1 = -1 ↔ zEmpty v ib Np))))) := by
  obtain ⟨h8, hN, rfl, hb⟩ := hp
  refine ⟨fun z => ∃ i, i ≤ 8 ∧ z = nI i ∧ ∀ p, p < i → p < Np → v (20 + p) ≠ (ib : Int), fun z => 8 - z.toNatClampNeg, ⟨0, by omega, rfl, fun p hp => absurd hp (Nat.not_lt_zero _)⟩, ?_⟩
  rintro z ⟨i, hi, rfl, hE⟩
  have ei : (nI i).toNatClampNeg = i := nI_clamp (by omega)
  have ei1 : nI i + 1 = nI (i + 1) := nI_1 i
  have ej : (nI (i + 1)).toNatClampNeg = i + 1 := nI_clamp (by omega)
  simp only [ei, ei1, ej]
  have h88 : (8 : Int32) ≤ nI i ↔ 8 ≤ i := nI_leI (a := 8) (by omega) (by omega)
  rw [h88]
  have eb : (nI ib).toInt = (ib : Int) := nI_toInt (by omega)
  refine ⟨fun h => ?_, fun h => ⟨vp_in_nI (by omega) (by omega), fun q => ⟨⟨i + 1, by omega, rfl, fun p hp hp2 => ?_⟩, by omega⟩, fun q => ?_⟩⟩
  · have hz : zEmpty v ib Np := zEmpty_iff.mpr fun p hp => hE p (by omega) hp
    exact ⟨(zSitter_no hz).symm, fun _ => hz, fun _ => by simp⟩
  · rcases Nat.lt_or_ge p i with l | l
    · exact hE p l hp2
    · have e : p = i := by omega
      subst e
      intro z
      exact q (by rw [← Int32.toInt_inj, hN.s h8 hp2, z, eb])
  · rcases Nat.lt_or_ge i Np with l | l
    · have z : v (20 + i) = (ib : Int) := by rw [← hN.s h8 l, q, eb]
      exact ⟨(zSitter_yes (zEmpty_iff.mpr fun p hp => hE p hp (by omega)) z l).symm, fun y => absurd y (nI_ne_neg (by omega)), fun y => absurd y (zEmpty_not z l)⟩
    · have z := (hN.2.2 i l (by omega)).2.1 (by omega)
      rw [q] at z
      exact absurd z (nI_ne_neg (by omega))
theorem k_X1_sitterOn (l : Launch) (G : Gt) (n n1 n2 n3 n4 n5 n6 n7 : Nat) (sz : Nat) (ht : Nat → Int32) (wm : Nat → Int32) (se : Nat → Int32) (cd : Nat → Int32) (sl : Nat → Int32) (od : Nat → Int32) (ow : Nat → Int32) (lo : Int32) (mi : Int32) (sd : Int32) (bq : Int32) (Ns : Nat) (Np : Nat) (v : Nat → Int) (ib : Nat) (hp : Np ≤ 8 ∧ CN Ns Np v ht wm se cd sl od ow lo mi sd ∧ bq = nI ib ∧ (ib < Ns ∧ Ns ≤ 9)) : MetI l yX1_sitterOn wsX1_sitterOn 0 0 G [.ref n, .int bq] [(n, .inr (1, [.ref n1, .ref n2, .ref n3, .ref n4, .ref n5, .ref n6, .ref n7, .int lo, .int mi, .int sd])), aI G n1 9 ht, aI G n2 8 wm, aI G n3 8 se, aI G n4 8 cd, aI G n5 8 sl, aI G n6 8 od, aI G n7 72 ow] sz (fun (r : Int32) (_ : Unit) => r = zSitter v ib Np ∧ (r = -1 ↔ zEmpty v ib Np)) (fun (_ : Unit) => [(n, .inr (1, [.ref n1, .ref n2, .ref n3, .ref n4, .ref n5, .ref n6, .ref n7, .int lo, .int mi, .int sd])), aI G n1 9 ht, aI G n2 8 wm, aI G n3 8 se, aI G n4 8 cd, aI G n5 8 sl, aI G n6 8 od, aI G n7 72 ow]) :=
  c_X1_sitterOn l G n n1 n2 n3 n4 n5 n6 n7 sz ht wm se cd sl od ow lo mi sd bq Ns Np v ib (v_X1_sitterOn l G n n1 n2 n3 n4 n5 n6 n7 sz ht wm se cd sl od ow lo mi sd bq Ns Np v ib hp)

set_option maxHeartbeats 4000000 in
set_option maxRecDepth 100000 in
theorem c_X1_passMinute (l : Launch) (G : Gt) (n n1 n2 n3 n4 n5 n6 n7 t t1 t2 t3 t4 t5 t6 : Nat) (sz : Nat) (ht : Nat → Int32) (wm : Nat → Int32) (se : Nat → Int32) (cd : Nat → Int32) (sl : Nat → Int32) (od : Nat → Int32) (ow : Nat → Int32) (lo : Int32) (mi : Int32) (sd : Int32) (ns : Int32) (np : Int32) (fu : Int32) (fd : Int32) (fi : Int32) (sz_ : Nat → Int32) (pt : Nat → Int32) (fh : Nat → Int32) (kd : Nat → Int32) (nd : Nat → Int32) (fw : Nat → Int32) (T : Nat → Nat → Int) (Ns : Nat) (Np : Nat) (v : Nat → Int) (M : Int) (hv : ∃ (I7_11 : (Nat → Int32) → (Nat → Int32) → (Nat → Int32) → (Nat → Int32) → (Nat → Int32) → (Nat → Int32) → Int32 → Int32 → Int32 → Int32 → Prop) (μ7_12 : (Nat → Int32) → (Nat → Int32) → (Nat → Int32) → (Nat → Int32) → (Nat → Int32) → (Nat → Int32) → Int32 → Int32 → Int32 → Int32 → Nat), I7_11 ht wm cd sl od ow lo 0 0 0 ∧ (∀ (fn1_1 : (Nat → Int32)) (fn2_2 : (Nat → Int32)) (fn4_3 : (Nat → Int32)) (fn5_4 : (Nat → Int32)) (fn6_5 : (Nat → Int32)) (fn7_6 : (Nat → Int32)) (gn7_7 : Int32) (x2_8 : Int32) (x3_9 : Int32) (x4_10 : Int32), I7_11 fn1_1 fn2_2 fn4_3 fn5_4 fn6_5 fn7_6 gn7_7 x2_8 x3_9 x4_10 → (np ≤ x4_10 → ∃ (gT_16 : Nat → Nat → Int) (gNs_17 : Nat) (gNp_18 : Nat) (gv_19 : Nat → Int) (gkk_20 : Nat → Int) (gM_21 : Int), ((TOK gT_16 gNs_17 gNp_18 ∧ CT gT_16 gNs_17 gNp_18 ns np fu fd fi sz_ pt kd nd ∧ CN gNs_17 gNp_18 gv_19 fn1_1 fn2_2 se fn4_3 fn5_4 fn6_5 fn7_6 gn7_7 mi sd ∧ NOK gT_16 gNs_17 gNp_18 gkk_20 gM_21 gv_19 ∧ (∀ b, b < 9 → (((x3_9 >>> (nI b &&& 31)) &&& 1) = 0 ↔ zEmpty gv_19 b gNp_18))) ∧ (∀ (ht2_23 : Nat → Int32) (lo2_24 : Int32), (CN gNs_17 gNp_18 (zCools gT_16 gNp_18 gv_19 gNs_17) ht2_23 fn2_2 se fn4_3 fn5_4 fn6_5 fn7_6 lo2_24 mi sd) → (x2_8 = nI (zCs T (zPass T Ns Np v) Np) ∧ CN Ns Np (zPass T Ns Np v) ht2_23 fn2_2 se fn4_3 fn5_4 fn6_5 fn7_6 lo2_24 (mi + 1) sd)))) ∧ (¬ (np ≤ x4_10) → (vp_in x4_10 8) ∧ ((¬ (¬ (se x4_10.toNatClampNeg) < 0 ∧ ¬ ns ≤ (se x4_10.toNatClampNeg)) → (vp_in x4_10 8) ∧ ((vp_in x4_10 8) ∧ ((vp_in x4_10 8) ∧ (∃ (gT_28 : Nat → Nat → Int) (gNs_29 : Nat) (gNp_30 : Nat) (gv_31 : Nat → Int) (gkk_32 : Nat → Int) (gM_33 : Int) (gip_34 : Nat) (gF_35 : Int), ((TOK gT_28 gNs_29 gNp_30 ∧ CN gNs_29 gNp_30 gv_31 fn1_1 fn2_2 se fn4_3 fn5_4 (upd fn6_5 x4_10.toNatClampNeg ((fn6_5 x4_10.toNatClampNeg) + fi)) fn7_6 gn7_7 mi sd ∧ NOK gT_28 gNs_29 gNp_30 gkk_32 gM_33 gv_31 ∧ x4_10 = nI gip_34 ∧ gip_34 < gNp_30 ∧ ((frostI (kd x4_10.toNatClampNeg) fu fd (if ¬ (se x4_10.toNatClampNeg) < 0 ∧ ¬ ns ≤ (se x4_10.toNatClampNeg) then 1 else 0)) : Int32).toInt = gF_35 ∧ 0 ≤ gF_35) ∧ (∀ (wm2_37 : Nat → Int32) (lo2_38 : Int32), (CN gNs_29 gNp_30 (zFr gip_34 gF_35 gv_31) fn1_1 wm2_37 se fn4_3 fn5_4 (upd fn6_5 x4_10.toNatClampNeg ((fn6_5 x4_10.toNatClampNeg) + fi)) fn7_6 lo2_38 mi sd) → ((vp_in x4_10 8) ∧ ((vp_in x4_10 8) ∧ (((nd x4_10.toNatClampNeg) ≤ (wm2_37 x4_10.toNatClampNeg) → I7_11 fn1_1 wm2_37 fn4_3 fn5_4 (upd fn6_5 x4_10.toNatClampNeg ((fn6_5 x4_10.toNatClampNeg) + fi)) fn7_6 lo2_38 x2_8 x3_9 (x4_10 + 1) ∧ μ7_12 fn1_1 wm2_37 fn4_3 fn5_4 (upd fn6_5 x4_10.toNatClampNeg ((fn6_5 x4_10.toNatClampNeg) + fi)) fn7_6 lo2_38 x2_8 x3_9 (x4_10 + 1) < μ7_12 fn1_1 fn2_2 fn4_3 fn5_4 fn6_5 fn7_6 gn7_7 x2_8 x3_9 x4_10) ∧ (¬ ((nd x4_10.toNatClampNeg) ≤ (wm2_37 x4_10.toNatClampNeg)) → (vp_in x4_10 8) ∧ ((vp_in x4_10 8) ∧ (I7_11 fn1_1 wm2_37 (upd fn4_3 x4_10.toNatClampNeg ((fn4_3 x4_10.toNatClampNeg) + 1)) fn5_4 (upd fn6_5 x4_10.toNatClampNeg ((fn6_5 x4_10.toNatClampNeg) + fi)) fn7_6 lo2_38 (x2_8 ||| ((1 : Int32) <<< (x4_10 &&& 31))) x3_9 (x4_10 + 1) ∧ μ7_12 fn1_1 wm2_37 (upd fn4_3 x4_10.toNatClampNeg ((fn4_3 x4_10.toNatClampNeg) + 1)) fn5_4 (upd fn6_5 x4_10.toNatClampNeg ((fn6_5 x4_10.toNatClampNeg) + fi)) fn7_6 lo2_38 (x2_8 ||| ((1 : Int32) <<< (x4_10 &&& 31))) x3_9 (x4_10 + 1) < μ7_12 fn1_1 fn2_2 fn4_3 fn5_4 fn6_5 fn7_6 gn7_7 x2_8 x3_9 x4_10)))))))))))) ∧ (¬ (se x4_10.toNatClampNeg) < 0 ∧ ¬ ns ≤ (se x4_10.toNatClampNeg) → ∃ (gT_40 : Nat → Nat → Int) (gNs_41 : Nat) (gNp_42 : Nat) (gv_43 : Nat → Int) (gkk_44 : Nat → Int) (gM_45 : Int) (gip_46 : Nat) (gib_47 : Nat), ((TOK gT_40 gNs_41 gNp_42 ∧ CT gT_40 gNs_41 gNp_42 ns np fu fd fi sz_ pt kd nd ∧ CN gNs_41 gNp_42 gv_43 fn1_1 fn2_2 se fn4_3 fn5_4 fn6_5 fn7_6 gn7_7 mi sd ∧ NOK gT_40 gNs_41 gNp_42 gkk_44 gM_45 gv_43 ∧ x4_10 = nI gip_46 ∧ gip_46 < gNp_42 ∧ (se x4_10.toNatClampNeg) = nI gib_47 ∧ gib_47 < gNs_41) ∧ (∀ (ht2_49 : Nat → Int32) (wm2_50 : Nat → Int32), (CN gNs_41 gNp_42 (zSit gT_40 gip_46 gib_47 gv_43) ht2_49 wm2_50 se fn4_3 fn5_4 fn6_5 fn7_6 gn7_7 mi sd) → (∃ (gT_51 : Nat → Nat → Int) (gNs_52 : Nat) (gNp_53 : Nat) (gv_54 : Nat → Int) (gkk_55 : Nat → Int) (gM_56 : Int) (gip_57 : Nat) (gib_58 : Nat), ((TOK gT_51 gNs_52 gNp_53 ∧ CN gNs_52 gNp_53 gv_54 ht2_49 wm2_50 se fn4_3 fn5_4 fn6_5 fn7_6 gn7_7 mi sd ∧ NOK gT_51 gNs_52 gNp_53 gkk_55 gM_56 gv_54 ∧ NB gkk_55 gM_56 ∧ x4_10 = nI gip_57 ∧ gip_57 < gNp_53 ∧ (se x4_10.toNatClampNeg) = nI gib_58 ∧ gib_58 < gNs_52) ∧ (∀ (sl2_60 : Nat → Int32) (ow2_61 : Nat → Int32), (CN gNs_52 gNp_53 (zOwn gip_57 gib_58 gv_54) ht2_49 wm2_50 se fn4_3 sl2_60 fn6_5 ow2_61 gn7_7 mi sd) → ((vp_in x4_10 8) ∧ (∃ (gT_63 : Nat → Nat → Int) (gNs_64 : Nat) (gNp_65 : Nat) (gv_66 : Nat → Int) (gkk_67 : Nat → Int) (gM_68 : Int) (gip_69 : Nat) (gF_70 : Int), ((TOK gT_63 gNs_64 gNp_65 ∧ CN gNs_64 gNp_65 gv_66 ht2_49 wm2_50 se fn4_3 sl2_60 fn6_5 ow2_61 gn7_7 mi sd ∧ NOK gT_63 gNs_64 gNp_65 gkk_67 gM_68 gv_66 ∧ x4_10 = nI gip_69 ∧ gip_69 < gNp_65 ∧ ((frostI (kd x4_10.toNatClampNeg) fu fd (if ¬ (se x4_10.toNatClampNeg) < 0 ∧ ¬ ns ≤ (se x4_10.toNatClampNeg) then 1 else 0)) : Int32).toInt = gF_70 ∧ 0 ≤ gF_70) ∧ (∀ (wm2_72 : Nat → Int32) (lo2_73 : Int32), (CN gNs_64 gNp_65 (zFr gip_69 gF_70 gv_66) ht2_49 wm2_72 se fn4_3 sl2_60 fn6_5 ow2_61 lo2_73 mi sd) → ((vp_in x4_10 8) ∧ ((vp_in x4_10 8) ∧ (((nd x4_10.toNatClampNeg) ≤ (wm2_72 x4_10.toNatClampNeg) → I7_11 ht2_49 wm2_72 fn4_3 sl2_60 fn6_5 ow2_61 lo2_73 x2_8 (x3_9 ||| ((1 : Int32) <<< ((se x4_10.toNatClampNeg) &&& 31))) (x4_10 + 1) ∧ μ7_12 ht2_49 wm2_72 fn4_3 sl2_60 fn6_5 ow2_61 lo2_73 x2_8 (x3_9 ||| ((1 : Int32) <<< ((se x4_10.toNatClampNeg) &&& 31))) (x4_10 + 1) < μ7_12 fn1_1 fn2_2 fn4_3 fn5_4 fn6_5 fn7_6 gn7_7 x2_8 x3_9 x4_10) ∧ (¬ ((nd x4_10.toNatClampNeg) ≤ (wm2_72 x4_10.toNatClampNeg)) → (vp_in x4_10 8) ∧ ((vp_in x4_10 8) ∧ (I7_11 ht2_49 wm2_72 (upd fn4_3 x4_10.toNatClampNeg ((fn4_3 x4_10.toNatClampNeg) + 1)) sl2_60 fn6_5 ow2_61 lo2_73 (x2_8 ||| ((1 : Int32) <<< (x4_10 &&& 31))) (x3_9 ||| ((1 : Int32) <<< ((se x4_10.toNatClampNeg) &&& 31))) (x4_10 + 1) ∧ μ7_12 ht2_49 wm2_72 (upd fn4_3 x4_10.toNatClampNeg ((fn4_3 x4_10.toNatClampNeg) + 1)) sl2_60 fn6_5 ow2_61 lo2_73 (x2_8 ||| ((1 : Int32) <<< (x4_10 &&& 31))) (x3_9 ||| ((1 : Int32) <<< ((se x4_10.toNatClampNeg) &&& 31))) (x4_10 + 1) < μ7_12 fn1_1 fn2_2 fn4_3 fn5_4 fn6_5 fn7_6 gn7_7 x2_8 x3_9 x4_10)))))))))))))))))))) : MetI l yX1_passMinute wsX1_passMinute 3 69 G [.ref n, .ref t] [(n, .inr (1, [.ref n1, .ref n2, .ref n3, .ref n4, .ref n5, .ref n6, .ref n7, .int lo, .int mi, .int sd])), aI G n1 9 ht, aI G n2 8 wm, aI G n3 8 se, aI G n4 8 cd, aI G n5 8 sl, aI G n6 8 od, aI G n7 72 ow, (t, .inr (6, [.int ns, .int np, .int fu, .int fd, .int fi, .ref t1, .ref t2, .ref t3, .ref t4, .ref t5, .ref t6])), aI G t1 9 sz_, aI G t2 9 pt, aI G t3 9 fh, aI G t4 8 kd, aI G t5 8 nd, aI G t6 8 fw] sz (fun (r : Int32) (u : (Nat → Int32) × (Nat → Int32) × (Nat → Int32) × (Nat → Int32) × (Nat → Int32) × (Nat → Int32) × (Int32) × (Int32)) => r = nI (zCs T (zPass T Ns Np v) Np) ∧ CN Ns Np (zPass T Ns Np v) u.1 u.2.1 se u.2.2.1 u.2.2.2.1 u.2.2.2.2.1 u.2.2.2.2.2.1 u.2.2.2.2.2.2.1 u.2.2.2.2.2.2.2 sd) (fun (u : (Nat → Int32) × (Nat → Int32) × (Nat → Int32) × (Nat → Int32) × (Nat → Int32) × (Nat → Int32) × (Int32) × (Int32)) => [(n, .inr (1, [.ref n1, .ref n2, .ref n3, .ref n4, .ref n5, .ref n6, .ref n7, .int u.2.2.2.2.2.2.1, .int u.2.2.2.2.2.2.2, .int sd])), aI G n1 9 u.1, aI G n2 8 u.2.1, aI G n3 8 se, aI G n4 8 u.2.2.1, aI G n5 8 u.2.2.2.1, aI G n6 8 u.2.2.2.2.1, aI G n7 72 u.2.2.2.2.2.1, (t, .inr (6, [.int ns, .int np, .int fu, .int fd, .int fi, .ref t1, .ref t2, .ref t3, .ref t4, .ref t5, .ref t6])), aI G t1 9 sz_, aI G t2 9 pt, aI G t3 9 fh, aI G t4 8 kd, aI G t5 8 nd, aI G t6 8 fw]) := by
  refine x_startI (cc := cX1_passMinute) (maxL := 7) (ret := (some .int)) (by decide) rfl (Nat.le_of_ble_eq_true rfl) ?_
  intro p e s m args below meth c A R Q ls hRf hRl hQ C hP hD hS hA hSS hl
  obtain ⟨hx, hb, hr, hml, hown, hts, hlocks, hKK⟩ := C
  have hown : s.vm.findClass RX1 = some m.cls := hown
  have hl : lv_has ls 7 [(0, .ref n), (1, .ref t)] := hl
  have hinX1 : ∀ w ∈ u_ws RX1 TX1 10, w ∈ wsX1_passMinute := by decide +kernel
  have hinX6 : ∀ w ∈ u_ws RX6 TX6 11, w ∈ wsX1_passMinute := by decide +kernel
  have kl15 := hts (.fieldLink RX1 15 "WarmStones$Night" "warmth" "[I") (by decide +kernel)
  have kl18 := hts (.fieldLink RX1 18 "WarmStones$Night" "seat" "[I") (by decide +kernel)
  have kl21 := hts (.fieldLink RX1 21 "WarmStones$Night" "cold" "[I") (by decide +kernel)
  have kl27 := hts (.fieldLink RX1 27 "WarmStones$Night" "owed" "[I") (by decide +kernel)
  have kl42 := hts (.fieldLink RX1 42 "WarmStones$Town" "persons" "I") (by decide +kernel)
  have kl51 := hts (.fieldLink RX1 51 "WarmStones$Night" "minute" "I") (by decide +kernel)
  have kl75 := hts (.fieldLink RX1 75 "WarmStones$Town" "fine" "I") (by decide +kernel)
  have kl85 := hts (.fieldLink RX1 85 "WarmStones$Town" "need" "[I") (by decide +kernel)
  refine lv_iconst (v := 0) hx hb dX1_passMinute_0 (by decide) ?_
  refine lv_istore_n (lv' := [(2, .int 0), (0, .ref n), (1, .ref t)]) hx hb dX1_passMinute_1 rfl hl (by decide) rfl (fun ls hl => ?_)
  refine lv_iconst (v := 0) hx hb dX1_passMinute_2 (by decide) ?_
  refine lv_istore_n (lv' := [(3, .int 0), (2, .int 0), (0, .ref n), (1, .ref t)]) hx hb dX1_passMinute_3 rfl hl (by decide) rfl (fun ls hl => ?_)
  refine lv_iconst (v := 0) hx hb dX1_passMinute_4 (by decide) ?_
  refine lv_istore (lv' := [(4, .int 0), (3, .int 0), (2, .int 0), (0, .ref n), (1, .ref t)]) hx hb dX1_passMinute_5 hl (by decide) rfl (fun ls hl => ?_)
  obtain ⟨I7_11, μ7_12, hi0, hs_75⟩ := hv
  have Lm_77 : ∀ (n_76 : Nat) (fn1_1 : (Nat → Int32)) (fn2_2 : (Nat → Int32)) (fn4_3 : (Nat → Int32)) (fn5_4 : (Nat → Int32)) (fn6_5 : (Nat → Int32)) (fn7_6 : (Nat → Int32)) (gn7_7 : Int32) (x2_8 : Int32) (x3_9 : Int32) (x4_10 : Int32) (H : Heap) (locs : List Loc) (ls : Array Slot), μ7_12 fn1_1 fn2_2 fn4_3 fn5_4 fn6_5 fn7_6 gn7_7 x2_8 x3_9 x4_10 < n_76 → I7_11 fn1_1 fn2_2 fn4_3 fn5_4 fn6_5 fn7_6 gn7_7 x2_8 x3_9 x4_10 → va_P G.1 vwCl [(n, .inr (1, [.ref n1, .ref n2, .ref n3, .ref n4, .ref n5, .ref n6, .ref n7, .int gn7_7, .int mi, .int sd])), aI G n1 9 fn1_1, aI G n2 8 fn2_2, aI G n3 8 se, aI G n4 8 fn4_3, aI G n5 8 fn5_4, aI G n6 8 fn6_5, aI G n7 72 fn7_6, (t, .inr (6, [.int ns, .int np, .int fu, .int fd, .int fi, .ref t1, .ref t2, .ref t3, .ref t4, .ref t5, .ref t6])), aI G t1 9 sz_, aI G t2 9 pt, aI G t3 9 fh, aI G t4 8 kd, aI G t5 8 nd, aI G t6 8 fw] H → va_D A [(n, .inr (1, [.ref n1, .ref n2, .ref n3, .ref n4, .ref n5, .ref n6, .ref n7, .int gn7_7, .int mi, .int sd])), aI G n1 9 fn1_1, aI G n2 8 fn2_2, aI G n3 8 se, aI G n4 8 fn4_3, aI G n5 8 fn5_4, aI G n6 8 fn6_5, aI G n7 72 fn7_6, (t, .inr (6, [.int ns, .int np, .int fu, .int fd, .int fi, .ref t1, .ref t2, .ref t3, .ref t4, .ref t5, .ref t6])), aI G t1 9 sz_, aI G t2 9 pt, aI G t3 9 fh, aI G t4 8 kd, aI G t5 8 nd, aI G t6 8 fw] → va_S A s.heap H locs → lv_has ls 7 [(4, .int x4_10), (3, .int x3_9), (2, .int x2_8), (0, .ref n), (1, .ref t)] → W p l e R s m args below meth c H locs 0 0 Q (F0 m 7 ls []) := by
    intro n_76
    induction n_76 with
    | zero => intro fn1_1 fn2_2 fn4_3 fn5_4 fn6_5 fn7_6 gn7_7 x2_8 x3_9 x4_10 H locs ls hm; exact absurd hm (Nat.not_lt_zero _)
    | succ n_76 ih_13 =>
      intro fn1_1 fn2_2 fn4_3 fn5_4 fn6_5 fn7_6 gn7_7 x2_8 x3_9 x4_10 H locs ls hI_14 hi hP hD hS hl
      have hv := hs_75 fn1_1 fn2_2 fn4_3 fn5_4 fn6_5 fn7_6 gn7_7 x2_8 x3_9 x4_10 hi
      refine lv_iload hx hb dX1_passMinute_7 (lv_at hl 0 rfl) ?_
      refine lv_aload_n hx hb dX1_passMinute_9 rfl (lv_at hl 4 rfl) ?_
      refine va_get (D := G.1) (ci := 6) (v := .int np) (C := RX6) (T := TX6) (N := 11) hx hb hts hinX6 hown hKK.1 hP 8 rfl rfl 1 (by decide) kl42 (fun _ h9 => h9) rfl dX1_passMinute_10 ?_
      refine lv_icmp_ge (tgt := 134) hx hb dX1_passMinute_13 (by decide) (fun hc_15 => ?_) (fun hc_15 => ?_)
      · have hv := hv.1 hc_15
        refine lv_aload_n hx hb dX1_passMinute_134 rfl (lv_at hl 3 rfl) ?_
        refine lv_aload_n hx hb dX1_passMinute_135 rfl (lv_at hl 4 rfl) ?_
        refine lv_iload_n hx hb dX1_passMinute_136 rfl (lv_at hl 1 rfl) ?_
        obtain ⟨gT_16, gNs_17, gNp_18, gv_19, gkk_20, gM_21, hv⟩ := hv
        obtain ⟨hp, hv⟩ := hv
        refine x_callv (wr := []) (w' := fun (u : (Nat → Int32) × (Int32)) => [(n, .inr (1, [.ref n1, .ref n2, .ref n3, .ref n4, .ref n5, .ref n6, .ref n7, .int u.2, .int mi, .int sd])), aI G n1 9 u.1, aI G n2 8 fn2_2, aI G n3 8 se, aI G n4 8 fn4_3, aI G n5 8 fn5_4, aI G n6 8 fn6_5, aI G n7 72 fn7_6, (t, .inr (6, [.int ns, .int np, .int fu, .int fd, .int fi, .ref t1, .ref t2, .ref t3, .ref t4, .ref t5, .ref t6])), aI G t1 9 sz_, aI G t2 9 pt, aI G t3 9 fh, aI G t4 8 kd, aI G t5 8 nd, aI G t6 8 fw]) (x_runV (As := [.ref t, .int x3_9]) (rest := []) (n := 2) (C := RX1) (ci := 1) ⟨hx, hb, hml, hown, hts⟩ (k_X1_coolEmptyStones l G n n1 n2 n3 n4 n5 n6 n7 t t1 t2 t3 t4 t5 t6 _ fn1_1 fn2_2 se fn4_3 fn5_4 fn6_5 fn7_6 gn7_7 mi sd ns np fu fd fi sz_ pt fh kd nd fw x3_9 gT_16 gNs_17 gNp_18 gv_19 gkk_20 gM_21 hp) gX1_passMinute_X1_coolEmptyStones rfl (by decide +kernel) ⟨Nat.le_trans (Nat.le_of_ble_eq_true rfl) hRf, Nat.le_trans (Nat.le_of_ble_eq_true rfl) hRl⟩ hKK hSS hS hA hP hD [0, 1, 2, 3, 4, 5, 6, 7, 8, 9, 10, 11, 12, 13, 14] (by decide) rfl rfl rfl 0 rfl rfl hl.1 rfl (Nat.le_of_ble_eq_true rfl) dX1_passMinute_137) hP hD hS hA [0, 1, 2, 3, 4, 5, 6, 7, 8, 9, 10, 11, 12, 13, 14] [] [0, 1, 2, 3, 4, 5, 6, 7, 8, 9, 10, 11, 12, 13, 14] rfl rfl (by decide) (by decide) (by decide) (fun _ => rfl) (fun  u H locs hw hP hD hS => ?_)
        obtain ⟨ht2_23, lo2_24⟩ := u
        have hP : va_P G.1 vwCl [(n, .inr (1, [.ref n1, .ref n2, .ref n3, .ref n4, .ref n5, .ref n6, .ref n7, .int lo2_24, .int mi, .int sd])), aI G n1 9 ht2_23, aI G n2 8 fn2_2, aI G n3 8 se, aI G n4 8 fn4_3, aI G n5 8 fn5_4, aI G n6 8 fn6_5, aI G n7 72 fn7_6, (t, .inr (6, [.int ns, .int np, .int fu, .int fd, .int fi, .ref t1, .ref t2, .ref t3, .ref t4, .ref t5, .ref t6])), aI G t1 9 sz_, aI G t2 9 pt, aI G t3 9 fh, aI G t4 8 kd, aI G t5 8 nd, aI G t6 8 fw] H := hP
        have hD : va_D A [(n, .inr (1, [.ref n1, .ref n2, .ref n3, .ref n4, .ref n5, .ref n6, .ref n7, .int lo2_24, .int mi, .int sd])), aI G n1 9 ht2_23, aI G n2 8 fn2_2, aI G n3 8 se, aI G n4 8 fn4_3, aI G n5 8 fn5_4, aI G n6 8 fn6_5, aI G n7 72 fn7_6, (t, .inr (6, [.int ns, .int np, .int fu, .int fd, .int fi, .ref t1, .ref t2, .ref t3, .ref t4, .ref t5, .ref t6])), aI G t1 9 sz_, aI G t2 9 pt, aI G t3 9 fh, aI G t4 8 kd, aI G t5 8 nd, aI G t6 8 fw] := hD
        have hv := hv ht2_23 lo2_24 hw
        refine lv_aload_n hx hb dX1_passMinute_140 rfl (lv_at hl 3 rfl) ?_
        refine lv_dup hx hb dX1_passMinute_141 rfl ?_
        refine va_get (D := G.1) (ci := 1) (v := .int mi) (C := RX1) (T := TX1) (N := 10) hx hb hts hinX1 hown hKK.1 hP 0 rfl rfl 8 (by decide) kl51 (fun _ h9 => h9) rfl dX1_passMinute_142 ?_
        refine lv_iconst (v := 1) hx hb dX1_passMinute_145 (by decide) ?_
        refine lv_iadd hx hb dX1_passMinute_146 ?_
        refine va_put (D := G.1) (ci := 1) (v := .int (mi + 1)) (ty := .int) (C := RX1) (T := TX1) (N := 10) hx hb hts hinX1 tyX1 tyX1_ok nmX1 hown hKK.1 hP hD hS 0 rfl rfl 8 (by decide) kl51 (fun _ h9 => h9) rfl (by decide +kernel) rfl rfl (Nat.le_of_ble_eq_true rfl) dX1_passMinute_147 (fun H locs hP hD hS => ?_)
        have hP : va_P G.1 vwCl [(n, .inr (1, [.ref n1, .ref n2, .ref n3, .ref n4, .ref n5, .ref n6, .ref n7, .int lo2_24, .int (mi + 1), .int sd])), aI G n1 9 ht2_23, aI G n2 8 fn2_2, aI G n3 8 se, aI G n4 8 fn4_3, aI G n5 8 fn5_4, aI G n6 8 fn6_5, aI G n7 72 fn7_6, (t, .inr (6, [.int ns, .int np, .int fu, .int fd, .int fi, .ref t1, .ref t2, .ref t3, .ref t4, .ref t5, .ref t6])), aI G t1 9 sz_, aI G t2 9 pt, aI G t3 9 fh, aI G t4 8 kd, aI G t5 8 nd, aI G t6 8 fw] H := hP
        have hD : va_D A [(n, .inr (1, [.ref n1, .ref n2, .ref n3, .ref n4, .ref n5, .ref n6, .ref n7, .int lo2_24, .int (mi + 1), .int sd])), aI G n1 9 ht2_23, aI G n2 8 fn2_2, aI G n3 8 se, aI G n4 8 fn4_3, aI G n5 8 fn5_4, aI G n6 8 fn6_5, aI G n7 72 fn7_6, (t, .inr (6, [.int ns, .int np, .int fu, .int fd, .int fi, .ref t1, .ref t2, .ref t3, .ref t4, .ref t5, .ref t6])), aI G t1 9 sz_, aI G t2 9 pt, aI G t3 9 fh, aI G t4 8 kd, aI G t5 8 nd, aI G t6 8 fw] := hD
        refine lv_iload_n hx hb dX1_passMinute_150 rfl (lv_at hl 2 rfl) ?_
        exact x_iret (v := x2_8) (ht2_23, fn2_2, fn4_3, fn5_4, fn6_5, fn7_6, lo2_24, (mi + 1)) hQ hx hb hr hlocks hS dX1_passMinute_151 hv hP hD
      · have hv := hv.2 hc_15
        refine lv_aload_n hx hb dX1_passMinute_16 rfl (lv_at hl 3 rfl) ?_
        refine va_get (D := G.1) (ci := 1) (v := .ref n3) (C := RX1) (T := TX1) (N := 10) hx hb hts hinX1 hown hKK.1 hP 0 rfl rfl 2 (by decide) kl18 (fun _ h9 => h9) rfl dX1_passMinute_17 ?_
        refine lv_iload hx hb dX1_passMinute_20 (lv_at hl 0 rfl) ?_
        obtain ⟨hin, hv⟩ := hv
        refine va_iald hx hb hKK.1 hP 3 0 rfl rfl hin dX1_passMinute_22 ?_
        refine lv_istore (lv' := [(5, .int (se x4_10.toNatClampNeg)), (4, .int x4_10), (3, .int x3_9), (2, .int x2_8), (0, .ref n), (1, .ref t)]) hx hb dX1_passMinute_23 hl (by decide) rfl (fun ls hl => ?_)
        refine lv_aload_n hx hb dX1_passMinute_25 rfl (lv_at hl 5 rfl) ?_
        refine lv_iload hx hb dX1_passMinute_26 (lv_at hl 0 rfl) ?_
        refine x_calliR (x_runV (As := [.int (se x4_10.toNatClampNeg)]) (rest := []) (n := 1) (C := RX6) (ci := 6) ⟨hx, hb, hml, hown, hts⟩ (k_X6_hasStone l G t t1 t2 t3 t4 t5 t6 _ ns np fu fd fi sz_ pt fh kd nd fw (se x4_10.toNatClampNeg)) gX1_passMinute_X6_hasStone rfl (by decide +kernel) ⟨Nat.le_trans (Nat.le_of_ble_eq_true rfl) hRf, Nat.le_trans (Nat.le_of_ble_eq_true rfl) hRl⟩ hKK hSS hS hA hP hD [8, 9, 10, 11, 12, 13, 14] (by decide) rfl rfl rfl 8 rfl rfl hl.1 rfl (Nat.le_of_ble_eq_true rfl) dX1_passMinute_28) hP hD hS hA [8, 9, 10, 11, 12, 13, 14] rfl (fun r_25 _ H locs hw hP hS => ?_)
        replace hw := hw.symm; subst hw
        refine lv_istore (lv' := [(6, .int (if ¬ (se x4_10.toNatClampNeg) < 0 ∧ ¬ ns ≤ (se x4_10.toNatClampNeg) then 1 else 0)), (5, .int (se x4_10.toNatClampNeg)), (4, .int x4_10), (3, .int x3_9), (2, .int x2_8), (0, .ref n), (1, .ref t)]) hx hb dX1_passMinute_31 hl (by decide) rfl (fun ls hl => ?_)
        refine lv_iload hx hb dX1_passMinute_33 (lv_at hl 0 rfl) ?_
        refine lv_if_eq (tgt := 65) hx hb dX1_passMinute_35 (by decide) (fun hc_26 => ?_) (fun hc_26 => ?_)
        · have hv := hv.1 (tv_eq.mp hc_26)
          refine lv_aload_n hx hb dX1_passMinute_65 rfl (lv_at hl 5 rfl) ?_
          refine va_get (D := G.1) (ci := 1) (v := .ref n6) (C := RX1) (T := TX1) (N := 10) hx hb hts hinX1 hown hKK.1 hP 0 rfl rfl 5 (by decide) kl27 (fun _ h9 => h9) rfl dX1_passMinute_66 ?_
          refine lv_iload hx hb dX1_passMinute_69 (lv_at hl 2 rfl) ?_
          refine lv_dup2_11 hx hb dX1_passMinute_71 rfl rfl ?_
          obtain ⟨hin, hv⟩ := hv
          refine va_iald hx hb hKK.1 hP 6 0 rfl rfl hin dX1_passMinute_72 ?_
          refine lv_aload_n hx hb dX1_passMinute_73 rfl (lv_at hl 6 rfl) ?_
          refine va_get (D := G.1) (ci := 6) (v := .int fi) (C := RX6) (T := TX6) (N := 11) hx hb hts hinX6 hown hKK.1 hP 8 rfl rfl 4 (by decide) kl75 (fun _ h9 => h9) rfl dX1_passMinute_74 ?_
          refine lv_iadd hx hb dX1_passMinute_77 ?_
          obtain ⟨hin, hv⟩ := hv
          refine va_iast hx hb hKK.1 hP hD hS 6 0 rfl rfl hin dX1_passMinute_78 (fun H locs hP hD hS => ?_)
          have hP : va_P G.1 vwCl [(n, .inr (1, [.ref n1, .ref n2, .ref n3, .ref n4, .ref n5, .ref n6, .ref n7, .int gn7_7, .int mi, .int sd])), aI G n1 9 fn1_1, aI G n2 8 fn2_2, aI G n3 8 se, aI G n4 8 fn4_3, aI G n5 8 fn5_4, aI G n6 8 (upd fn6_5 x4_10.toNatClampNeg ((fn6_5 x4_10.toNatClampNeg) + fi)), aI G n7 72 fn7_6, (t, .inr (6, [.int ns, .int np, .int fu, .int fd, .int fi, .ref t1, .ref t2, .ref t3, .ref t4, .ref t5, .ref t6])), aI G t1 9 sz_, aI G t2 9 pt, aI G t3 9 fh, aI G t4 8 kd, aI G t5 8 nd, aI G t6 8 fw] H := hP
          have hD : va_D A [(n, .inr (1, [.ref n1, .ref n2, .ref n3, .ref n4, .ref n5, .ref n6, .ref n7, .int gn7_7, .int mi, .int sd])), aI G n1 9 fn1_1, aI G n2 8 fn2_2, aI G n3 8 se, aI G n4 8 fn4_3, aI G n5 8 fn5_4, aI G n6 8 (upd fn6_5 x4_10.toNatClampNeg ((fn6_5 x4_10.toNatClampNeg) + fi)), aI G n7 72 fn7_6, (t, .inr (6, [.int ns, .int np, .int fu, .int fd, .int fi, .ref t1, .ref t2, .ref t3, .ref t4, .ref t5, .ref t6])), aI G t1 9 sz_, aI G t2 9 pt, aI G t3 9 fh, aI G t4 8 kd, aI G t5 8 nd, aI G t6 8 fw] := hD
          refine lv_aload_n hx hb dX1_passMinute_79 rfl (lv_at hl 5 rfl) ?_
          refine lv_iload hx hb dX1_passMinute_80 (lv_at hl 2 rfl) ?_
          refine lv_aload_n hx hb dX1_passMinute_82 rfl (lv_at hl 6 rfl) ?_
          refine lv_iload hx hb dX1_passMinute_83 (lv_at hl 2 rfl) ?_
          refine lv_iload hx hb dX1_passMinute_85 (lv_at hl 0 rfl) ?_
          obtain ⟨hp, hv⟩ := hv
          refine x_calliR (x_runV (As := [.int x4_10, .int (if ¬ (se x4_10.toNatClampNeg) < 0 ∧ ¬ ns ≤ (se x4_10.toNatClampNeg) then 1 else 0)]) (rest := [.int x4_10, .ref n]) (n := 2) (C := RX6) (ci := 6) ⟨hx, hb, hml, hown, hts⟩ (k_X6_frostOn l G t t1 t2 t3 t4 t5 t6 _ ns np fu fd fi sz_ pt fh kd nd fw x4_10 (if ¬ (se x4_10.toNatClampNeg) < 0 ∧ ¬ ns ≤ (se x4_10.toNatClampNeg) then 1 else 0) hp) gX1_passMinute_X6_frostOn rfl (by decide +kernel) ⟨Nat.le_trans (Nat.le_of_ble_eq_true rfl) hRf, Nat.le_trans (Nat.le_of_ble_eq_true rfl) hRl⟩ hKK hSS hS hA hP hD [8, 9, 10, 11, 12, 13, 14] (by decide) rfl rfl rfl 8 rfl rfl hl.1 rfl (Nat.le_of_ble_eq_true rfl) dX1_passMinute_87) hP hD hS hA [8, 9, 10, 11, 12, 13, 14] rfl (fun r_27 _ H locs hw hP hS => ?_)
          replace hw := hw.symm; subst hw
          obtain ⟨gT_28, gNs_29, gNp_30, gv_31, gkk_32, gM_33, gip_34, gF_35, hv⟩ := hv
          obtain ⟨hp, hv⟩ := hv
          refine x_callv (wr := [(t, .inr (6, [.int ns, .int np, .int fu, .int fd, .int fi, .ref t1, .ref t2, .ref t3, .ref t4, .ref t5, .ref t6])), aI G t1 9 sz_, aI G t2 9 pt, aI G t3 9 fh, aI G t4 8 kd, aI G t5 8 nd, aI G t6 8 fw]) (w' := fun (u : (Nat → Int32) × (Int32)) => [(n, .inr (1, [.ref n1, .ref n2, .ref n3, .ref n4, .ref n5, .ref n6, .ref n7, .int u.2, .int mi, .int sd])), aI G n1 9 fn1_1, aI G n2 8 u.1, aI G n3 8 se, aI G n4 8 fn4_3, aI G n5 8 fn5_4, aI G n6 8 (upd fn6_5 x4_10.toNatClampNeg ((fn6_5 x4_10.toNatClampNeg) + fi)), aI G n7 72 fn7_6, (t, .inr (6, [.int ns, .int np, .int fu, .int fd, .int fi, .ref t1, .ref t2, .ref t3, .ref t4, .ref t5, .ref t6])), aI G t1 9 sz_, aI G t2 9 pt, aI G t3 9 fh, aI G t4 8 kd, aI G t5 8 nd, aI G t6 8 fw]) (x_runV (As := [.int x4_10, .int (frostI (kd x4_10.toNatClampNeg) fu fd (if ¬ (se x4_10.toNatClampNeg) < 0 ∧ ¬ ns ≤ (se x4_10.toNatClampNeg) then 1 else 0))]) (rest := []) (n := 2) (C := RX1) (ci := 1) ⟨hx, hb, hml, hown, hts⟩ (k_X1_freeze l G n n1 n2 n3 n4 n5 n6 n7 _ fn1_1 fn2_2 se fn4_3 fn5_4 (upd fn6_5 x4_10.toNatClampNeg ((fn6_5 x4_10.toNatClampNeg) + fi)) fn7_6 gn7_7 mi sd x4_10 (frostI (kd x4_10.toNatClampNeg) fu fd (if ¬ (se x4_10.toNatClampNeg) < 0 ∧ ¬ ns ≤ (se x4_10.toNatClampNeg) then 1 else 0)) gT_28 gNs_29 gNp_30 gv_31 gkk_32 gM_33 gip_34 gF_35 hp) gX1_passMinute_X1_freeze rfl (by decide +kernel) ⟨Nat.le_trans (Nat.le_of_ble_eq_true rfl) hRf, Nat.le_trans (Nat.le_of_ble_eq_true rfl) hRl⟩ hKK hSS hS hA hP hD [0, 1, 2, 3, 4, 5, 6, 7] (by decide) rfl rfl rfl 0 rfl rfl hl.1 rfl (Nat.le_of_ble_eq_true rfl) dX1_passMinute_90) hP hD hS hA [0, 1, 2, 3, 4, 5, 6, 7] [8, 9, 10, 11, 12, 13, 14] [7, 8, 9, 10, 11, 12, 13, 14, 0, 1, 2, 3, 4, 5, 6] rfl rfl (by decide) (by decide) (by decide) (fun _ => rfl) (fun  u H locs hw hP hD hS => ?_)
          obtain ⟨wm2_37, lo2_38⟩ := u
          have hP : va_P G.1 vwCl [(n, .inr (1, [.ref n1, .ref n2, .ref n3, .ref n4, .ref n5, .ref n6, .ref n7, .int lo2_38, .int mi, .int sd])), aI G n1 9 fn1_1, aI G n2 8 wm2_37, aI G n3 8 se, aI G n4 8 fn4_3, aI G n5 8 fn5_4, aI G n6 8 (upd fn6_5 x4_10.toNatClampNeg ((fn6_5 x4_10.toNatClampNeg) + fi)), aI G n7 72 fn7_6, (t, .inr (6, [.int ns, .int np, .int fu, .int fd, .int fi, .ref t1, .ref t2, .ref t3, .ref t4, .ref t5, .ref t6])), aI G t1 9 sz_, aI G t2 9 pt, aI G t3 9 fh, aI G t4 8 kd, aI G t5 8 nd, aI G t6 8 fw] H := hP
          have hD : va_D A [(n, .inr (1, [.ref n1, .ref n2, .ref n3, .ref n4, .ref n5, .ref n6, .ref n7, .int lo2_38, .int mi, .int sd])), aI G n1 9 fn1_1, aI G n2 8 wm2_37, aI G n3 8 se, aI G n4 8 fn4_3, aI G n5 8 fn5_4, aI G n6 8 (upd fn6_5 x4_10.toNatClampNeg ((fn6_5 x4_10.toNatClampNeg) + fi)), aI G n7 72 fn7_6, (t, .inr (6, [.int ns, .int np, .int fu, .int fd, .int fi, .ref t1, .ref t2, .ref t3, .ref t4, .ref t5, .ref t6])), aI G t1 9 sz_, aI G t2 9 pt, aI G t3 9 fh, aI G t4 8 kd, aI G t5 8 nd, aI G t6 8 fw] := hD
          have hv := hv wm2_37 lo2_38 hw
          refine lv_aload_n hx hb dX1_passMinute_93 rfl (lv_at hl 5 rfl) ?_
          refine va_get (D := G.1) (ci := 1) (v := .ref n2) (C := RX1) (T := TX1) (N := 10) hx hb hts hinX1 hown hKK.1 hP 0 rfl rfl 1 (by decide) kl15 (fun _ h9 => h9) rfl dX1_passMinute_94 ?_
          refine lv_iload hx hb dX1_passMinute_97 (lv_at hl 2 rfl) ?_
          obtain ⟨hin, hv⟩ := hv
          refine va_iald hx hb hKK.1 hP 2 0 rfl rfl hin dX1_passMinute_99 ?_
          refine lv_aload_n hx hb dX1_passMinute_100 rfl (lv_at hl 6 rfl) ?_
          refine va_get (D := G.1) (ci := 6) (v := .ref t5) (C := RX6) (T := TX6) (N := 11) hx hb hts hinX6 hown hKK.1 hP 8 rfl rfl 9 (by decide) kl85 (fun _ h9 => h9) rfl dX1_passMinute_101 ?_
          refine lv_iload hx hb dX1_passMinute_104 (lv_at hl 2 rfl) ?_
          obtain ⟨hin, hv⟩ := hv
          refine va_iald hx hb hKK.1 hP 13 0 rfl rfl hin dX1_passMinute_106 ?_
          refine lv_icmp_ge (tgt := 128) hx hb dX1_passMinute_107 (by decide) (fun hc_39 => ?_) (fun hc_39 => ?_)
          · have hv := hv.1 hc_39
            refine lv_iinc (v := (x4_10 + 1)) (lv' := [(4, .int (x4_10 + 1)), (6, .int (if ¬ (se x4_10.toNatClampNeg) < 0 ∧ ¬ ns ≤ (se x4_10.toNatClampNeg) then 1 else 0)), (5, .int (se x4_10.toNatClampNeg)), (3, .int x3_9), (2, .int x2_8), (0, .ref n), (1, .ref t)]) hx hb dX1_passMinute_128 hl (k := 2) rfl rfl (by decide) rfl (fun ls hl => ?_)
            refine lv_goto (tgt := 7) hx hb dX1_passMinute_131 (by decide) ?_
            exact ih_13 _ _ _ _ _ _ _ _ _ _ _ _ _ (Nat.lt_of_lt_of_le hv.2 (Nat.le_of_lt_succ hI_14)) hv.1 hP hD hS (lv_sub hl [0, 3, 4, 5, 6] rfl)
          · have hv := hv.2 hc_39
            refine lv_aload_n hx hb dX1_passMinute_110 rfl (lv_at hl 5 rfl) ?_
            refine va_get (D := G.1) (ci := 1) (v := .ref n4) (C := RX1) (T := TX1) (N := 10) hx hb hts hinX1 hown hKK.1 hP 0 rfl rfl 3 (by decide) kl21 (fun _ h9 => h9) rfl dX1_passMinute_111 ?_
            refine lv_iload hx hb dX1_passMinute_114 (lv_at hl 2 rfl) ?_
            refine lv_dup2_11 hx hb dX1_passMinute_116 rfl rfl ?_
            obtain ⟨hin, hv⟩ := hv
            refine va_iald hx hb hKK.1 hP 4 0 rfl rfl hin dX1_passMinute_117 ?_
            refine lv_iconst (v := 1) hx hb dX1_passMinute_118 (by decide) ?_
            refine lv_iadd hx hb dX1_passMinute_119 ?_
            obtain ⟨hin, hv⟩ := hv
            refine va_iast hx hb hKK.1 hP hD hS 4 0 rfl rfl hin dX1_passMinute_120 (fun H locs hP hD hS => ?_)
            have hP : va_P G.1 vwCl [(n, .inr (1, [.ref n1, .ref n2, .ref n3, .ref n4, .ref n5, .ref n6, .ref n7, .int lo2_38, .int mi, .int sd])), aI G n1 9 fn1_1, aI G n2 8 wm2_37, aI G n3 8 se, aI G n4 8 (upd fn4_3 x4_10.toNatClampNeg ((fn4_3 x4_10.toNatClampNeg) + 1)), aI G n5 8 fn5_4, aI G n6 8 (upd fn6_5 x4_10.toNatClampNeg ((fn6_5 x4_10.toNatClampNeg) + fi)), aI G n7 72 fn7_6, (t, .inr (6, [.int ns, .int np, .int fu, .int fd, .int fi, .ref t1, .ref t2, .ref t3, .ref t4, .ref t5, .ref t6])), aI G t1 9 sz_, aI G t2 9 pt, aI G t3 9 fh, aI G t4 8 kd, aI G t5 8 nd, aI G t6 8 fw] H := hP
            have hD : va_D A [(n, .inr (1, [.ref n1, .ref n2, .ref n3, .ref n4, .ref n5, .ref n6, .ref n7, .int lo2_38, .int mi, .int sd])), aI G n1 9 fn1_1, aI G n2 8 wm2_37, aI G n3 8 se, aI G n4 8 (upd fn4_3 x4_10.toNatClampNeg ((fn4_3 x4_10.toNatClampNeg) + 1)), aI G n5 8 fn5_4, aI G n6 8 (upd fn6_5 x4_10.toNatClampNeg ((fn6_5 x4_10.toNatClampNeg) + fi)), aI G n7 72 fn7_6, (t, .inr (6, [.int ns, .int np, .int fu, .int fd, .int fi, .ref t1, .ref t2, .ref t3, .ref t4, .ref t5, .ref t6])), aI G t1 9 sz_, aI G t2 9 pt, aI G t3 9 fh, aI G t4 8 kd, aI G t5 8 nd, aI G t6 8 fw] := hD
            refine lv_iload_n hx hb dX1_passMinute_121 rfl (lv_at hl 4 rfl) ?_
            refine lv_iconst (v := 1) hx hb dX1_passMinute_122 (by decide) ?_
            refine lv_iload hx hb dX1_passMinute_123 (lv_at hl 2 rfl) ?_
            refine lv_ishl hx hb dX1_passMinute_125 ?_
            refine lv_ior hx hb dX1_passMinute_126 ?_
            refine lv_istore_n (lv' := [(2, .int (x2_8 ||| ((1 : Int32) <<< (x4_10 &&& 31)))), (6, .int (if ¬ (se x4_10.toNatClampNeg) < 0 ∧ ¬ ns ≤ (se x4_10.toNatClampNeg) then 1 else 0)), (5, .int (se x4_10.toNatClampNeg)), (4, .int x4_10), (3, .int x3_9), (0, .ref n), (1, .ref t)]) hx hb dX1_passMinute_127 rfl hl (by decide) rfl (fun ls hl => ?_)
            refine lv_iinc (v := (x4_10 + 1)) (lv' := [(4, .int (x4_10 + 1)), (2, .int (x2_8 ||| ((1 : Int32) <<< (x4_10 &&& 31)))), (6, .int (if ¬ (se x4_10.toNatClampNeg) < 0 ∧ ¬ ns ≤ (se x4_10.toNatClampNeg) then 1 else 0)), (5, .int (se x4_10.toNatClampNeg)), (3, .int x3_9), (0, .ref n), (1, .ref t)]) hx hb dX1_passMinute_128 hl (k := 3) rfl rfl (by decide) rfl (fun ls hl => ?_)
            refine lv_goto (tgt := 7) hx hb dX1_passMinute_131 (by decide) ?_
            exact ih_13 _ _ _ _ _ _ _ _ _ _ _ _ _ (Nat.lt_of_lt_of_le hv.2 (Nat.le_of_lt_succ hI_14)) hv.1 hP hD hS (lv_sub hl [0, 4, 1, 5, 6] rfl)
        · have hv := hv.2 (tv_eqn.mp hc_26)
          refine lv_aload_n hx hb dX1_passMinute_38 rfl (lv_at hl 5 rfl) ?_
          refine lv_aload_n hx hb dX1_passMinute_39 rfl (lv_at hl 6 rfl) ?_
          refine lv_iload hx hb dX1_passMinute_40 (lv_at hl 2 rfl) ?_
          refine lv_iload hx hb dX1_passMinute_42 (lv_at hl 1 rfl) ?_
          obtain ⟨gT_40, gNs_41, gNp_42, gv_43, gkk_44, gM_45, gip_46, gib_47, hv⟩ := hv
          obtain ⟨hp, hv⟩ := hv
          refine x_callv (wr := []) (w' := fun (u : (Nat → Int32) × (Nat → Int32)) => [(n, .inr (1, [.ref n1, .ref n2, .ref n3, .ref n4, .ref n5, .ref n6, .ref n7, .int gn7_7, .int mi, .int sd])), aI G n1 9 u.1, aI G n2 8 u.2, aI G n3 8 se, aI G n4 8 fn4_3, aI G n5 8 fn5_4, aI G n6 8 fn6_5, aI G n7 72 fn7_6, (t, .inr (6, [.int ns, .int np, .int fu, .int fd, .int fi, .ref t1, .ref t2, .ref t3, .ref t4, .ref t5, .ref t6])), aI G t1 9 sz_, aI G t2 9 pt, aI G t3 9 fh, aI G t4 8 kd, aI G t5 8 nd, aI G t6 8 fw]) (x_runV (As := [.ref t, .int x4_10, .int (se x4_10.toNatClampNeg)]) (rest := []) (n := 3) (C := RX1) (ci := 1) ⟨hx, hb, hml, hown, hts⟩ (k_X1_shareHeat l G n n1 n2 n3 n4 n5 n6 n7 t t1 t2 t3 t4 t5 t6 _ fn1_1 fn2_2 se fn4_3 fn5_4 fn6_5 fn7_6 gn7_7 mi sd ns np fu fd fi sz_ pt fh kd nd fw x4_10 (se x4_10.toNatClampNeg) gT_40 gNs_41 gNp_42 gv_43 gkk_44 gM_45 gip_46 gib_47 hp) gX1_passMinute_X1_shareHeat rfl (by decide +kernel) ⟨Nat.le_trans (Nat.le_of_ble_eq_true rfl) hRf, Nat.le_trans (Nat.le_of_ble_eq_true rfl) hRl⟩ hKK hSS hS hA hP hD [0, 1, 2, 3, 4, 5, 6, 7, 8, 9, 10, 11, 12, 13, 14] (by decide) rfl rfl rfl 0 rfl rfl hl.1 rfl (Nat.le_of_ble_eq_true rfl) dX1_passMinute_44) hP hD hS hA [0, 1, 2, 3, 4, 5, 6, 7, 8, 9, 10, 11, 12, 13, 14] [] [0, 1, 2, 3, 4, 5, 6, 7, 8, 9, 10, 11, 12, 13, 14] rfl rfl (by decide) (by decide) (by decide) (fun _ => rfl) (fun  u H locs hw hP hD hS => ?_)
          obtain ⟨ht2_49, wm2_50⟩ := u
          have hP : va_P G.1 vwCl [(n, .inr (1, [.ref n1, .ref n2, .ref n3, .ref n4, .ref n5, .ref n6, .ref n7, .int gn7_7, .int mi, .int sd])), aI G n1 9 ht2_49, aI G n2 8 wm2_50, aI G n3 8 se, aI G n4 8 fn4_3, aI G n5 8 fn5_4, aI G n6 8 fn6_5, aI G n7 72 fn7_6, (t, .inr (6, [.int ns, .int np, .int fu, .int fd, .int fi, .ref t1, .ref t2, .ref t3, .ref t4, .ref t5, .ref t6])), aI G t1 9 sz_, aI G t2 9 pt, aI G t3 9 fh, aI G t4 8 kd, aI G t5 8 nd, aI G t6 8 fw] H := hP
          have hD : va_D A [(n, .inr (1, [.ref n1, .ref n2, .ref n3, .ref n4, .ref n5, .ref n6, .ref n7, .int gn7_7, .int mi, .int sd])), aI G n1 9 ht2_49, aI G n2 8 wm2_50, aI G n3 8 se, aI G n4 8 fn4_3, aI G n5 8 fn5_4, aI G n6 8 fn6_5, aI G n7 72 fn7_6, (t, .inr (6, [.int ns, .int np, .int fu, .int fd, .int fi, .ref t1, .ref t2, .ref t3, .ref t4, .ref t5, .ref t6])), aI G t1 9 sz_, aI G t2 9 pt, aI G t3 9 fh, aI G t4 8 kd, aI G t5 8 nd, aI G t6 8 fw] := hD
          have hv := hv ht2_49 wm2_50 hw
          refine lv_aload_n hx hb dX1_passMinute_47 rfl (lv_at hl 5 rfl) ?_
          refine lv_iload hx hb dX1_passMinute_48 (lv_at hl 2 rfl) ?_
          refine lv_iload hx hb dX1_passMinute_50 (lv_at hl 1 rfl) ?_
          obtain ⟨gT_51, gNs_52, gNp_53, gv_54, gkk_55, gM_56, gip_57, gib_58, hv⟩ := hv
          obtain ⟨hp, hv⟩ := hv
          refine x_callv (wr := [(t, .inr (6, [.int ns, .int np, .int fu, .int fd, .int fi, .ref t1, .ref t2, .ref t3, .ref t4, .ref t5, .ref t6])), aI G t1 9 sz_, aI G t2 9 pt, aI G t3 9 fh, aI G t4 8 kd, aI G t5 8 nd, aI G t6 8 fw]) (w' := fun (u : (Nat → Int32) × (Nat → Int32)) => [(n, .inr (1, [.ref n1, .ref n2, .ref n3, .ref n4, .ref n5, .ref n6, .ref n7, .int gn7_7, .int mi, .int sd])), aI G n1 9 ht2_49, aI G n2 8 wm2_50, aI G n3 8 se, aI G n4 8 fn4_3, aI G n5 8 u.1, aI G n6 8 fn6_5, aI G n7 72 u.2, (t, .inr (6, [.int ns, .int np, .int fu, .int fd, .int fi, .ref t1, .ref t2, .ref t3, .ref t4, .ref t5, .ref t6])), aI G t1 9 sz_, aI G t2 9 pt, aI G t3 9 fh, aI G t4 8 kd, aI G t5 8 nd, aI G t6 8 fw]) (x_runV (As := [.int x4_10, .int (se x4_10.toNatClampNeg)]) (rest := []) (n := 2) (C := RX1) (ci := 1) ⟨hx, hb, hml, hown, hts⟩ (k_X1_useMinute l G n n1 n2 n3 n4 n5 n6 n7 _ ht2_49 wm2_50 se fn4_3 fn5_4 fn6_5 fn7_6 gn7_7 mi sd x4_10 (se x4_10.toNatClampNeg) gT_51 gNs_52 gNp_53 gv_54 gkk_55 gM_56 gip_57 gib_58 hp) gX1_passMinute_X1_useMinute rfl (by decide +kernel) ⟨Nat.le_trans (Nat.le_of_ble_eq_true rfl) hRf, Nat.le_trans (Nat.le_of_ble_eq_true rfl) hRl⟩ hKK hSS hS hA hP hD [0, 1, 2, 3, 4, 5, 6, 7] (by decide) rfl rfl rfl 0 rfl rfl hl.1 rfl (Nat.le_of_ble_eq_true rfl) dX1_passMinute_52) hP hD hS hA [0, 1, 2, 3, 4, 5, 6, 7] [8, 9, 10, 11, 12, 13, 14] [7, 8, 9, 10, 11, 12, 13, 14, 0, 1, 2, 3, 4, 5, 6] rfl rfl (by decide) (by decide) (by decide) (fun _ => rfl) (fun  u H locs hw hP hD hS => ?_)
          obtain ⟨sl2_60, ow2_61⟩ := u
          have hP : va_P G.1 vwCl [(n, .inr (1, [.ref n1, .ref n2, .ref n3, .ref n4, .ref n5, .ref n6, .ref n7, .int gn7_7, .int mi, .int sd])), aI G n1 9 ht2_49, aI G n2 8 wm2_50, aI G n3 8 se, aI G n4 8 fn4_3, aI G n5 8 sl2_60, aI G n6 8 fn6_5, aI G n7 72 ow2_61, (t, .inr (6, [.int ns, .int np, .int fu, .int fd, .int fi, .ref t1, .ref t2, .ref t3, .ref t4, .ref t5, .ref t6])), aI G t1 9 sz_, aI G t2 9 pt, aI G t3 9 fh, aI G t4 8 kd, aI G t5 8 nd, aI G t6 8 fw] H := hP
          have hD : va_D A [(n, .inr (1, [.ref n1, .ref n2, .ref n3, .ref n4, .ref n5, .ref n6, .ref n7, .int gn7_7, .int mi, .int sd])), aI G n1 9 ht2_49, aI G n2 8 wm2_50, aI G n3 8 se, aI G n4 8 fn4_3, aI G n5 8 sl2_60, aI G n6 8 fn6_5, aI G n7 72 ow2_61, (t, .inr (6, [.int ns, .int np, .int fu, .int fd, .int fi, .ref t1, .ref t2, .ref t3, .ref t4, .ref t5, .ref t6])), aI G t1 9 sz_, aI G t2 9 pt, aI G t3 9 fh, aI G t4 8 kd, aI G t5 8 nd, aI G t6 8 fw] := hD
          have hv := hv sl2_60 ow2_61 hw
          refine lv_iload_n hx hb dX1_passMinute_55 rfl (lv_at hl 3 rfl) ?_
          refine lv_iconst (v := 1) hx hb dX1_passMinute_56 (by decide) ?_
          refine lv_iload hx hb dX1_passMinute_57 (lv_at hl 1 rfl) ?_
          refine lv_ishl hx hb dX1_passMinute_59 ?_
          refine lv_ior hx hb dX1_passMinute_60 ?_
          refine lv_istore_n (lv' := [(3, .int (x3_9 ||| ((1 : Int32) <<< ((se x4_10.toNatClampNeg) &&& 31)))), (6, .int (if ¬ (se x4_10.toNatClampNeg) < 0 ∧ ¬ ns ≤ (se x4_10.toNatClampNeg) then 1 else 0)), (5, .int (se x4_10.toNatClampNeg)), (4, .int x4_10), (2, .int x2_8), (0, .ref n), (1, .ref t)]) hx hb dX1_passMinute_61 rfl hl (by decide) rfl (fun ls hl => ?_)
          refine lv_goto (tgt := 79) hx hb dX1_passMinute_62 (by decide) ?_
          refine lv_aload_n hx hb dX1_passMinute_79 rfl (lv_at hl 5 rfl) ?_
          refine lv_iload hx hb dX1_passMinute_80 (lv_at hl 3 rfl) ?_
          refine lv_aload_n hx hb dX1_passMinute_82 rfl (lv_at hl 6 rfl) ?_
          refine lv_iload hx hb dX1_passMinute_83 (lv_at hl 3 rfl) ?_
          refine lv_iload hx hb dX1_passMinute_85 (lv_at hl 1 rfl) ?_
          obtain ⟨hp, hv⟩ := hv
          refine x_calliR (x_runV (As := [.int x4_10, .int (if ¬ (se x4_10.toNatClampNeg) < 0 ∧ ¬ ns ≤ (se x4_10.toNatClampNeg) then 1 else 0)]) (rest := [.int x4_10, .ref n]) (n := 2) (C := RX6) (ci := 6) ⟨hx, hb, hml, hown, hts⟩ (k_X6_frostOn l G t t1 t2 t3 t4 t5 t6 _ ns np fu fd fi sz_ pt fh kd nd fw x4_10 (if ¬ (se x4_10.toNatClampNeg) < 0 ∧ ¬ ns ≤ (se x4_10.toNatClampNeg) then 1 else 0) hp) gX1_passMinute_X6_frostOn rfl (by decide +kernel) ⟨Nat.le_trans (Nat.le_of_ble_eq_true rfl) hRf, Nat.le_trans (Nat.le_of_ble_eq_true rfl) hRl⟩ hKK hSS hS hA hP hD [8, 9, 10, 11, 12, 13, 14] (by decide) rfl rfl rfl 8 rfl rfl hl.1 rfl (Nat.le_of_ble_eq_true rfl) dX1_passMinute_87) hP hD hS hA [8, 9, 10, 11, 12, 13, 14] rfl (fun r_62 _ H locs hw hP hS => ?_)
          replace hw := hw.symm; subst hw
          obtain ⟨gT_63, gNs_64, gNp_65, gv_66, gkk_67, gM_68, gip_69, gF_70, hv⟩ := hv
          obtain ⟨hp, hv⟩ := hv
          refine x_callv (wr := [(t, .inr (6, [.int ns, .int np, .int fu, .int fd, .int fi, .ref t1, .ref t2, .ref t3, .ref t4, .ref t5, .ref t6])), aI G t1 9 sz_, aI G t2 9 pt, aI G t3 9 fh, aI G t4 8 kd, aI G t5 8 nd, aI G t6 8 fw]) (w' := fun (u : (Nat → Int32) × (Int32)) => [(n, .inr (1, [.ref n1, .ref n2, .ref n3, .ref n4, .ref n5, .ref n6, .ref n7, .int u.2, .int mi, .int sd])), aI G n1 9 ht2_49, aI G n2 8 u.1, aI G n3 8 se, aI G n4 8 fn4_3, aI G n5 8 sl2_60, aI G n6 8 fn6_5, aI G n7 72 ow2_61, (t, .inr (6, [.int ns, .int np, .int fu, .int fd, .int fi, .ref t1, .ref t2, .ref t3, .ref t4, .ref t5, .ref t6])), aI G t1 9 sz_, aI G t2 9 pt, aI G t3 9 fh, aI G t4 8 kd, aI G t5 8 nd, aI G t6 8 fw]) (x_runV (As := [.int x4_10, .int (frostI (kd x4_10.toNatClampNeg) fu fd (if ¬ (se x4_10.toNatClampNeg) < 0 ∧ ¬ ns ≤ (se x4_10.toNatClampNeg) then 1 else 0))]) (rest := []) (n := 2) (C := RX1) (ci := 1) ⟨hx, hb, hml, hown, hts⟩ (k_X1_freeze l G n n1 n2 n3 n4 n5 n6 n7 _ ht2_49 wm2_50 se fn4_3 sl2_60 fn6_5 ow2_61 gn7_7 mi sd x4_10 (frostI (kd x4_10.toNatClampNeg) fu fd (if ¬ (se x4_10.toNatClampNeg) < 0 ∧ ¬ ns ≤ (se x4_10.toNatClampNeg) then 1 else 0)) gT_63 gNs_64 gNp_65 gv_66 gkk_67 gM_68 gip_69 gF_70 hp) gX1_passMinute_X1_freeze rfl (by decide +kernel) ⟨Nat.le_trans (Nat.le_of_ble_eq_true rfl) hRf, Nat.le_trans (Nat.le_of_ble_eq_true rfl) hRl⟩ hKK hSS hS hA hP hD [0, 1, 2, 3, 4, 5, 6, 7] (by decide) rfl rfl rfl 0 rfl rfl hl.1 rfl (Nat.le_of_ble_eq_true rfl) dX1_passMinute_90) hP hD hS hA [0, 1, 2, 3, 4, 5, 6, 7] [8, 9, 10, 11, 12, 13, 14] [7, 8, 9, 10, 11, 12, 13, 14, 0, 1, 2, 3, 4, 5, 6] rfl rfl (by decide) (by decide) (by decide) (fun _ => rfl) (fun  u H locs hw hP hD hS => ?_)
          obtain ⟨wm2_72, lo2_73⟩ := u
          have hP : va_P G.1 vwCl [(n, .inr (1, [.ref n1, .ref n2, .ref n3, .ref n4, .ref n5, .ref n6, .ref n7, .int lo2_73, .int mi, .int sd])), aI G n1 9 ht2_49, aI G n2 8 wm2_72, aI G n3 8 se, aI G n4 8 fn4_3, aI G n5 8 sl2_60, aI G n6 8 fn6_5, aI G n7 72 ow2_61, (t, .inr (6, [.int ns, .int np, .int fu, .int fd, .int fi, .ref t1, .ref t2, .ref t3, .ref t4, .ref t5, .ref t6])), aI G t1 9 sz_, aI G t2 9 pt, aI G t3 9 fh, aI G t4 8 kd, aI G t5 8 nd, aI G t6 8 fw] H := hP
          have hD : va_D A [(n, .inr (1, [.ref n1, .ref n2, .ref n3, .ref n4, .ref n5, .ref n6, .ref n7, .int lo2_73, .int mi, .int sd])), aI G n1 9 ht2_49, aI G n2 8 wm2_72, aI G n3 8 se, aI G n4 8 fn4_3, aI G n5 8 sl2_60, aI G n6 8 fn6_5, aI G n7 72 ow2_61, (t, .inr (6, [.int ns, .int np, .int fu, .int fd, .int fi, .ref t1, .ref t2, .ref t3, .ref t4, .ref t5, .ref t6])), aI G t1 9 sz_, aI G t2 9 pt, aI G t3 9 fh, aI G t4 8 kd, aI G t5 8 nd, aI G t6 8 fw] := hD
          have hv := hv wm2_72 lo2_73 hw
          refine lv_aload_n hx hb dX1_passMinute_93 rfl (lv_at hl 5 rfl) ?_
          refine va_get (D := G.1) (ci := 1) (v := .ref n2) (C := RX1) (T := TX1) (N := 10) hx hb hts hinX1 hown hKK.1 hP 0 rfl rfl 1 (by decide) kl15 (fun _ h9 => h9) rfl dX1_passMinute_94 ?_
          refine lv_iload hx hb dX1_passMinute_97 (lv_at hl 3 rfl) ?_
          obtain ⟨hin, hv⟩ := hv
          refine va_iald hx hb hKK.1 hP 2 0 rfl rfl hin dX1_passMinute_99 ?_
          refine lv_aload_n hx hb dX1_passMinute_100 rfl (lv_at hl 6 rfl) ?_
          refine va_get (D := G.1) (ci := 6) (v := .ref t5) (C := RX6) (T := TX6) (N := 11) hx hb hts hinX6 hown hKK.1 hP 8 rfl rfl 9 (by decide) kl85 (fun _ h9 => h9) rfl dX1_passMinute_101 ?_
          refine lv_iload hx hb dX1_passMinute_104 (lv_at hl 3 rfl) ?_
          obtain ⟨hin, hv⟩ := hv
          refine va_iald hx hb hKK.1 hP 13 0 rfl rfl hin dX1_passMinute_106 ?_
          refine lv_icmp_ge (tgt := 128) hx hb dX1_passMinute_107 (by decide) (fun hc_74 => ?_) (fun hc_74 => ?_)
          · have hv := hv.1 hc_74
            refine lv_iinc (v := (x4_10 + 1)) (lv' := [(4, .int (x4_10 + 1)), (3, .int (x3_9 ||| ((1 : Int32) <<< ((se x4_10.toNatClampNeg) &&& 31)))), (6, .int (if ¬ (se x4_10.toNatClampNeg) < 0 ∧ ¬ ns ≤ (se x4_10.toNatClampNeg) then 1 else 0)), (5, .int (se x4_10.toNatClampNeg)), (2, .int x2_8), (0, .ref n), (1, .ref t)]) hx hb dX1_passMinute_128 hl (k := 3) rfl rfl (by decide) rfl (fun ls hl => ?_)
            refine lv_goto (tgt := 7) hx hb dX1_passMinute_131 (by decide) ?_
            exact ih_13 _ _ _ _ _ _ _ _ _ _ _ _ _ (Nat.lt_of_lt_of_le hv.2 (Nat.le_of_lt_succ hI_14)) hv.1 hP hD hS (lv_sub hl [0, 1, 4, 5, 6] rfl)
          · have hv := hv.2 hc_74
            refine lv_aload_n hx hb dX1_passMinute_110 rfl (lv_at hl 5 rfl) ?_
            refine va_get (D := G.1) (ci := 1) (v := .ref n4) (C := RX1) (T := TX1) (N := 10) hx hb hts hinX1 hown hKK.1 hP 0 rfl rfl 3 (by decide) kl21 (fun _ h9 => h9) rfl dX1_passMinute_111 ?_
            refine lv_iload hx hb dX1_passMinute_114 (lv_at hl 3 rfl) ?_
            refine lv_dup2_11 hx hb dX1_passMinute_116 rfl rfl ?_
            obtain ⟨hin, hv⟩ := hv
            refine va_iald hx hb hKK.1 hP 4 0 rfl rfl hin dX1_passMinute_117 ?_
            refine lv_iconst (v := 1) hx hb dX1_passMinute_118 (by decide) ?_
            refine lv_iadd hx hb dX1_passMinute_119 ?_
            obtain ⟨hin, hv⟩ := hv
            refine va_iast hx hb hKK.1 hP hD hS 4 0 rfl rfl hin dX1_passMinute_120 (fun H locs hP hD hS => ?_)
            have hP : va_P G.1 vwCl [(n, .inr (1, [.ref n1, .ref n2, .ref n3, .ref n4, .ref n5, .ref n6, .ref n7, .int lo2_73, .int mi, .int sd])), aI G n1 9 ht2_49, aI G n2 8 wm2_72, aI G n3 8 se, aI G n4 8 (upd fn4_3 x4_10.toNatClampNeg ((fn4_3 x4_10.toNatClampNeg) + 1)), aI G n5 8 sl2_60, aI G n6 8 fn6_5, aI G n7 72 ow2_61, (t, .inr (6, [.int ns, .int np, .int fu, .int fd, .int fi, .ref t1, .ref t2, .ref t3, .ref t4, .ref t5, .ref t6])), aI G t1 9 sz_, aI G t2 9 pt, aI G t3 9 fh, aI G t4 8 kd, aI G t5 8 nd, aI G t6 8 fw] H := hP
            have hD : va_D A [(n, .inr (1, [.ref n1, .ref n2, .ref n3, .ref n4, .ref n5, .ref n6, .ref n7, .int lo2_73, .int mi, .int sd])), aI G n1 9 ht2_49, aI G n2 8 wm2_72, aI G n3 8 se, aI G n4 8 (upd fn4_3 x4_10.toNatClampNeg ((fn4_3 x4_10.toNatClampNeg) + 1)), aI G n5 8 sl2_60, aI G n6 8 fn6_5, aI G n7 72 ow2_61, (t, .inr (6, [.int ns, .int np, .int fu, .int fd, .int fi, .ref t1, .ref t2, .ref t3, .ref t4, .ref t5, .ref t6])), aI G t1 9 sz_, aI G t2 9 pt, aI G t3 9 fh, aI G t4 8 kd, aI G t5 8 nd, aI G t6 8 fw] := hD
            refine lv_iload_n hx hb dX1_passMinute_121 rfl (lv_at hl 4 rfl) ?_
            refine lv_iconst (v := 1) hx hb dX1_passMinute_122 (by decide) ?_
            refine lv_iload hx hb dX1_passMinute_123 (lv_at hl 3 rfl) ?_
            refine lv_ishl hx hb dX1_passMinute_125 ?_
            refine lv_ior hx hb dX1_passMinute_126 ?_
            refine lv_istore_n (lv' := [(2, .int (x2_8 ||| ((1 : Int32) <<< (x4_10 &&& 31)))), (3, .int (x3_9 ||| ((1 : Int32) <<< ((se x4_10.toNatClampNeg) &&& 31)))), (6, .int (if ¬ (se x4_10.toNatClampNeg) < 0 ∧ ¬ ns ≤ (se x4_10.toNatClampNeg) then 1 else 0)), (5, .int (se x4_10.toNatClampNeg)), (4, .int x4_10), (0, .ref n), (1, .ref t)]) hx hb dX1_passMinute_127 rfl hl (by decide) rfl (fun ls hl => ?_)
            refine lv_iinc (v := (x4_10 + 1)) (lv' := [(4, .int (x4_10 + 1)), (2, .int (x2_8 ||| ((1 : Int32) <<< (x4_10 &&& 31)))), (3, .int (x3_9 ||| ((1 : Int32) <<< ((se x4_10.toNatClampNeg) &&& 31)))), (6, .int (if ¬ (se x4_10.toNatClampNeg) < 0 ∧ ¬ ns ≤ (se x4_10.toNatClampNeg) then 1 else 0)), (5, .int (se x4_10.toNatClampNeg)), (0, .ref n), (1, .ref t)]) hx hb dX1_passMinute_128 hl (k := 4) rfl rfl (by decide) rfl (fun ls hl => ?_)
            refine lv_goto (tgt := 7) hx hb dX1_passMinute_131 (by decide) ?_
            exact ih_13 _ _ _ _ _ _ _ _ _ _ _ _ _ (Nat.lt_of_lt_of_le hv.2 (Nat.le_of_lt_succ hI_14)) hv.1 hP hD hS (lv_sub hl [0, 2, 1, 5, 6] rfl)
  exact Lm_77 _ _ _ _ _ _ _ _ _ _ _ _ _ _ (Nat.lt_succ_self _) hi0 hP hD hS hl
theorem v_X1_passMinute (l : Launch) (G : Gt) (n n1 n2 n3 n4 n5 n6 n7 t t1 t2 t3 t4 t5 t6 : Nat) (sz : Nat) (ht : Nat → Int32) (wm : Nat → Int32) (se : Nat → Int32) (cd : Nat → Int32) (sl : Nat → Int32) (od : Nat → Int32) (ow : Nat → Int32) (lo : Int32) (mi : Int32) (sd : Int32) (ns : Int32) (np : Int32) (fu : Int32) (fd : Int32) (fi : Int32) (sz_ : Nat → Int32) (pt : Nat → Int32) (fh : Nat → Int32) (kd : Nat → Int32) (nd : Nat → Int32) (fw : Nat → Int32) (T : Nat → Nat → Int) (Ns : Nat) (Np : Nat) (v : Nat → Int) (M : Int) (hp : TOK T Ns Np ∧ CT T Ns Np ns np fu fd fi sz_ pt kd nd ∧ CN Ns Np v ht wm se cd sl od ow lo mi sd ∧ NOK T Ns Np (fun _ => 2 * M) M v ∧ M ≤ 1000000) : ∃ (I7_11 : (Nat → Int32) → (Nat → Int32) → (Nat → Int32) → (Nat → Int32) → (Nat → Int32) → (Nat → Int32) → Int32 → Int32 → Int32 → Int32 → Prop) (μ7_12 : (Nat → Int32) → (Nat → Int32) → (Nat → Int32) → (Nat → Int32) → (Nat → Int32) → (Nat → Int32) → Int32 → Int32 → Int32 → Int32 → Nat), I7_11 ht wm cd sl od ow lo 0 0 0 ∧ (∀ (fn1_1 : (Nat → Int32)) (fn2_2 : (Nat → Int32)) (fn4_3 : (Nat → Int32)) (fn5_4 : (Nat → Int32)) (fn6_5 : (Nat → Int32)) (fn7_6 : (Nat → Int32)) (gn7_7 : Int32) (x2_8 : Int32) (x3_9 : Int32) (x4_10 : Int32), I7_11 fn1_1 fn2_2 fn4_3 fn5_4 fn6_5 fn7_6 gn7_7 x2_8 x3_9 x4_10 → (np ≤ x4_10 → ∃ (gT_16 : Nat → Nat → Int) (gNs_17 : Nat) (gNp_18 : Nat) (gv_19 : Nat → Int) (gkk_20 : Nat → Int) (gM_21 : Int), ((TOK gT_16 gNs_17 gNp_18 ∧ CT gT_16 gNs_17 gNp_18 ns np fu fd fi sz_ pt kd nd ∧ CN gNs_17 gNp_18 gv_19 fn1_1 fn2_2 se fn4_3 fn5_4 fn6_5 fn7_6 gn7_7 mi sd ∧ NOK gT_16 gNs_17 gNp_18 gkk_20 gM_21 gv_19 ∧ (∀ b, b < 9 → (((x3_9 >>> (nI b &&& 31)) &&& 1) = 0 ↔ zEmpty gv_19 b gNp_18))) ∧ (∀ (ht2_23 : Nat → Int32) (lo2_24 : Int32), (CN gNs_17 gNp_18 (zCools gT_16 gNp_18 gv_19 gNs_17) ht2_23 fn2_2 se fn4_3 fn5_4 fn6_5 fn7_6 lo2_24 mi sd) → (x2_8 = nI (zCs T (zPass T Ns Np v) Np) ∧ CN Ns Np (zPass T Ns Np v) ht2_23 fn2_2 se fn4_3 fn5_4 fn6_5 fn7_6 lo2_24 (mi + 1) sd)))) ∧ (¬ (np ≤ x4_10) → (vp_in x4_10 8) ∧ ((¬ (¬ (se x4_10.toNatClampNeg) < 0 ∧ ¬ ns ≤ (se x4_10.toNatClampNeg)) → (vp_in x4_10 8) ∧ ((vp_in x4_10 8) ∧ ((vp_in x4_10 8) ∧ (∃ (gT_28 : Nat → Nat → Int) (gNs_29 : Nat) (gNp_30 : Nat) (gv_31 : Nat → Int) (gkk_32 : Nat → Int) (gM_33 : Int) (gip_34 : Nat) (gF_35 : Int), ((TOK gT_28 gNs_29 gNp_30 ∧ CN gNs_29 gNp_30 gv_31 fn1_1 fn2_2 se fn4_3 fn5_4 (upd fn6_5 x4_10.toNatClampNeg ((fn6_5 x4_10.toNatClampNeg) + fi)) fn7_6 gn7_7 mi sd ∧ NOK gT_28 gNs_29 gNp_30 gkk_32 gM_33 gv_31 ∧ x4_10 = nI gip_34 ∧ gip_34 < gNp_30 ∧ ((frostI (kd x4_10.toNatClampNeg) fu fd (if ¬ (se x4_10.toNatClampNeg) < 0 ∧ ¬ ns ≤ (se x4_10.toNatClampNeg) then 1 else 0)) : Int32).toInt = gF_35 ∧ 0 ≤ gF_35) ∧ (∀ (wm2_37 : Nat → Int32) (lo2_38 : Int32), (CN gNs_29 gNp_30 (zFr gip_34 gF_35 gv_31) fn1_1 wm2_37 se fn4_3 fn5_4 (upd fn6_5 x4_10.toNatClampNeg ((fn6_5 x4_10.toNatClampNeg) + fi)) fn7_6 lo2_38 mi sd) → ((vp_in x4_10 8) ∧ ((vp_in x4_10 8) ∧ (((nd x4_10.toNatClampNeg) ≤ (wm2_37 x4_10.toNatClampNeg) → I7_11 fn1_1 wm2_37 fn4_3 fn5_4 (upd fn6_5 x4_10.toNatClampNeg ((fn6_5 x4_10.toNatClampNeg) + fi)) fn7_6 lo2_38 x2_8 x3_9 (x4_10 + 1) ∧ μ7_12 fn1_1 wm2_37 fn4_3 fn5_4 (upd fn6_5 x4_10.toNatClampNeg ((fn6_5 x4_10.toNatClampNeg) + fi)) fn7_6 lo2_38 x2_8 x3_9 (x4_10 + 1) < μ7_12 fn1_1 fn2_2 fn4_3 fn5_4 fn6_5 fn7_6 gn7_7 x2_8 x3_9 x4_10) ∧ (¬ ((nd x4_10.toNatClampNeg) ≤ (wm2_37 x4_10.toNatClampNeg)) → (vp_in x4_10 8) ∧ ((vp_in x4_10 8) ∧ (I7_11 fn1_1 wm2_37 (upd fn4_3 x4_10.toNatClampNeg ((fn4_3 x4_10.toNatClampNeg) + 1)) fn5_4 (upd fn6_5 x4_10.toNatClampNeg ((fn6_5 x4_10.toNatClampNeg) + fi)) fn7_6 lo2_38 (x2_8 ||| ((1 : Int32) <<< (x4_10 &&& 31))) x3_9 (x4_10 + 1) ∧ μ7_12 fn1_1 wm2_37 (upd fn4_3 x4_10.toNatClampNeg ((fn4_3 x4_10.toNatClampNeg) + 1)) fn5_4 (upd fn6_5 x4_10.toNatClampNeg ((fn6_5 x4_10.toNatClampNeg) + fi)) fn7_6 lo2_38 (x2_8 ||| ((1 : Int32) <<< (x4_10 &&& 31))) x3_9 (x4_10 + 1) < μ7_12 fn1_1 fn2_2 fn4_3 fn5_4 fn6_5 fn7_6 gn7_7 x2_8 x3_9 x4_10)))))))))))) ∧ (¬ (se x4_10.toNatClampNeg) < 0 ∧ ¬ ns ≤ (se x4_10.toNatClampNeg) → ∃ (gT_40 : Nat → Nat → Int) (gNs_41 : Nat) (gNp_42 : Nat) (gv_43 : Nat → Int) (gkk_44 : Nat → Int) (gM_45 : Int) (gip_46 : Nat) (gib_47 : Nat), ((TOK gT_40 gNs_41 gNp_42 ∧ CT gT_40 gNs_41 gNp_42 ns np fu fd fi sz_ pt kd nd ∧ CN gNs_41 gNp_42 gv_43 fn1_1 fn2_2 se fn4_3 fn5_4 fn6_5 fn7_6 gn7_7 mi sd ∧ NOK gT_40 gNs_41 gNp_42 gkk_44 gM_45 gv_43 ∧ x4_10 = nI gip_46 ∧ gip_46 < gNp_42 ∧ (se x4_10.toNatClampNeg) = nI gib_47 ∧ gib_47 < gNs_41) ∧ (∀ (ht2_49 : Nat → Int32) (wm2_50 : Nat → Int32), (CN gNs_41 gNp_42 (zSit gT_40 gip_46 gib_47 gv_43) ht2_49 wm2_50 se fn4_3 fn5_4 fn6_5 fn7_6 gn7_7 mi sd) → (∃ (gT_51 : Nat → Nat → Int) (gNs_52 : Nat) (gNp_53 : Nat) (gv_54 : Nat → Int) (gkk_55 : Nat → Int) (gM_56 : Int) (gip_57 : Nat) (gib_58 : Nat), ((TOK gT_51 gNs_52 gNp_53 ∧ CN gNs_52 gNp_53 gv_54 ht2_49 wm2_50 se fn4_3 fn5_4 fn6_5 fn7_6 gn7_7 mi sd ∧ NOK gT_51 gNs_52 gNp_53 gkk_55 gM_56 gv_54 ∧ NB gkk_55 gM_56 ∧ x4_10 = nI gip_57 ∧ gip_57 < gNp_53 ∧ (se x4_10.toNatClampNeg) = nI gib_58 ∧ gib_58 < gNs_52) ∧ (∀ (sl2_60 : Nat → Int32) (ow2_61 : Nat → Int32), (CN gNs_52 gNp_53 (zOwn gip_57 gib_58 gv_54) ht2_49 wm2_50 se fn4_3 sl2_60 fn6_5 ow2_61 gn7_7 mi sd) → ((vp_in x4_10 8) ∧ (∃ (gT_63 : Nat → Nat → Int) (gNs_64 : Nat) (gNp_65 : Nat) (gv_66 : Nat → Int) (gkk_67 : Nat → Int) (gM_68 : Int) (gip_69 : Nat) (gF_70 : Int), ((TOK gT_63 gNs_64 gNp_65 ∧ CN gNs_64 gNp_65 gv_66 ht2_49 wm2_50 se fn4_3 sl2_60 fn6_5 ow2_61 gn7_7 mi sd ∧ NOK gT_63 gNs_64 gNp_65 gkk_67 gM_68 gv_66 ∧ x4_10 = nI gip_69 ∧ gip_69 < gNp_65 ∧ ((frostI (kd x4_10.toNatClampNeg) fu fd (if ¬ (se x4_10.toNatClampNeg) < 0 ∧ ¬ ns ≤ (se x4_10.toNatClampNeg) then 1 else 0)) : Int32).toInt = gF_70 ∧ 0 ≤ gF_70) ∧ (∀ (wm2_72 : Nat → Int32) (lo2_73 : Int32), (CN gNs_64 gNp_65 (zFr gip_69 gF_70 gv_66) ht2_49 wm2_72 se fn4_3 sl2_60 fn6_5 ow2_61 lo2_73 mi sd) → ((vp_in x4_10 8) ∧ ((vp_in x4_10 8) ∧ (((nd x4_10.toNatClampNeg) ≤ (wm2_72 x4_10.toNatClampNeg) → I7_11 ht2_49 wm2_72 fn4_3 sl2_60 fn6_5 ow2_61 lo2_73 x2_8 (x3_9 ||| ((1 : Int32) <<< ((se x4_10.toNatClampNeg) &&& 31))) (x4_10 + 1) ∧ μ7_12 ht2_49 wm2_72 fn4_3 sl2_60 fn6_5 ow2_61 lo2_73 x2_8 (x3_9 ||| ((1 : Int32) <<< ((se x4_10.toNatClampNeg) &&& 31))) (x4_10 + 1) < μ7_12 fn1_1 fn2_2 fn4_3 fn5_4 fn6_5 fn7_6 gn7_7 x2_8 x3_9 x4_10) ∧ (¬ ((nd x4_10.toNatClampNeg) ≤ (wm2_72 x4_10.toNatClampNeg)) → (vp_in x4_10 8) ∧ ((vp_in x4_10 8) ∧ (I7_11 ht2_49 wm2_72 (upd fn4_3 x4_10.toNatClampNeg ((fn4_3 x4_10.toNatClampNeg) + 1)) sl2_60 fn6_5 ow2_61 lo2_73 (x2_8 ||| ((1 : Int32) <<< (x4_10 &&& 31))) (x3_9 ||| ((1 : Int32) <<< ((se x4_10.toNatClampNeg) &&& 31))) (x4_10 + 1) ∧ μ7_12 ht2_49 wm2_72 (upd fn4_3 x4_10.toNatClampNeg ((fn4_3 x4_10.toNatClampNeg) + 1)) sl2_60 fn6_5 ow2_61 lo2_73 (x2_8 ||| ((1 : Int32) <<< (x4_10 &&& 31))) (x3_9 ||| ((1 : Int32) <<< ((se x4_10.toNatClampNeg) &&& 31))) (x4_10 + 1) < μ7_12 fn1_1 fn2_2 fn4_3 fn5_4 fn6_5 fn7_6 gn7_7 x2_8 x3_9 x4_10))))))))))))))))))) := by
  obtain ⟨hT, hC, hN, hO, hM⟩ := hp
  have t1 := hT.1
  have t2 := hT.2.1
  have hns : ns = nI Ns := hC.1
  have hnp : np = nI Np := hC.2.1
  have hB : ∀ i, NB (kUp (fun q => if q < i then 2 * M + 2 else 2 * M) i) M := fun i => ⟨fun q => by unfold kUp; dsimp only; split <;> (try split) <;> omega, by omega⟩
  have hB0 : ∀ i, NB (fun q => if q < i then 2 * M + 2 else 2 * M) M := fun i => ⟨fun q => by dsimp only; split <;> omega, by omega⟩
  refine ⟨fun f1 f2 f4 f5 f6 f7 g7 x2 x3 x4 => ∃ i, i ≤ Np ∧ x4 = nI i ∧ x2 = nI (zCs T (zPersons T v i) i) ∧ (∀ b, b < 9 → (((x3 >>> (nI b &&& 31)) &&& 1) = 0 ↔ zEmpty v b i)) ∧ CN Ns Np (zPersons T v i) f1 f2 se f4 f5 f6 f7 g7 mi sd, fun _ _ _ _ _ _ _ _ _ x => 9 - x.toNatClampNeg, ⟨0, by omega, rfl, rfl, tk_0, hN⟩, ?_⟩
  rintro f1 f2 f4 f5 f6 f7 g7 x2 x3 x4 ⟨i, hi, rfl, rfl, hK, hNi⟩
  have ei : (nI i).toNatClampNeg = i := nI_clamp (by omega)
  have ei1 : nI i + 1 = nI (i + 1) := nI_1 i
  have ej : (nI (i + 1)).toNatClampNeg = i + 1 := nI_clamp (by omega)
  have hOi := zPersons_ok hT hO i hi
  simp only [ei1, ei, ej, hns, hnp]
  refine ⟨fun h => ?_, fun h => ?_⟩
  · have e : Np = i := by have := (nI_leI (a := Np) (b := i) (by omega) (by omega)).mp h; omega
    subst e
    have hE : ∀ b, zEmpty (zPersons T v Np) b Np ↔ zEmpty v b Np := fun b => by
      rw [zEmpty_iff, zEmpty_iff]
      refine forall_congr' fun q => forall_congr' fun hq => ?_
      rw [zPersons_far hT hO (by omega) Np (Nat.le_refl _)]
    refine ⟨T, Ns, Np, zPersons T v Np, _, M, ⟨hT, by rw [← hns, ← hnp]; exact hC, hNi, hOi, fun b hb => (hK b hb).trans (hE b).symm⟩, fun ht2 lo2 hN2 => ⟨?_, ?_⟩⟩
    · rw [zCs_passC hT hO]
    · rw [zPass_min hT hO]
      refine ⟨?_, hN2.2⟩
      rw [nuC_umi (mi := mi)]
      refine hN2.1.uz (i_add ?_ i32_1 ?_ ?_)
      · rw [← hN.1.m, nuC_mi]
      · have := hO.2.2.2.2.1; omega
      · have := hO.2.2.2.2.1; omega
  · have hlt : i < Np := by
      rcases Nat.lt_or_ge i Np with q | q
      · exact q
      · exact absurd ((nI_leI (by omega) (by omega)).mpr q) h
    have a := vp_in_nI (n := i) (N := 8) (by omega) (by omega)
    have es : (se i).toInt = v (20 + i) := by rw [← hN.1.s hlt, nuC_se (by omega)]
    have eV : zPersons T v i (20 + i) = v (20 + i) := zPersons_far hT hO (by omega) i hi
    have sb := (hO.2.1 i hlt).2.1
    have hkd := (hC.2.2.2.1 i hlt).1
    have hnd := (hC.2.2.2.1 i hlt).2
    have hfu := hC.2.2.2.2.1
    have hfd := hC.2.2.2.2.2.1
    have hfi := hC.2.2.2.2.2.2
    have ens : (nI Ns).toInt = (Ns : Int) := nI_toInt (by omega)
    have t5 := hT.2.2.2.2
    refine ⟨a, fun hs => ?_, fun hs => ?_⟩
    · have hneg : v (20 + i) < 0 := by
        by_cases q : v (20 + i) < 0
        · exact q
        · exact absurd ⟨fun z => q ((i_lt es i32_0).mp z), fun z => by have := (i_le ens es).mp z; omega⟩ hs
      have hN1 := CN_fine hT hNi hOi (hB0 i) hlt hfi
      have hO1 := zFine_ok hT hOi hlt
      have hF : (frostI (kd i) fu fd (if ¬ se i < 0 ∧ ¬ nI Ns ≤ se i then 1 else 0)).toInt = frostZ (T 2 i) (T 4 0) (T 4 1) false := frostI_Z hkd hfu hfd (by rw [if_neg hs]; rfl) t5.1
      have fz := frostZ_bd (k := T 2 i) (s := false) t5.1 t5.2.1 t5.2.2.1 t5.2.2.2.1
      have e1 : zPersons T v (i + 1) = zCold T i (zFrost T i false (zFine T i (zPersons T v i))) := by
        rw [zPersons]; unfold zPerson; rw [if_neg (by rw [eV]; omega)]
      have hO2 := zFrost_ok hT hO1 false hlt
      refine ⟨a, a, a, T, Ns, Np, _, _, M, i, _, ⟨hT, hN1, hO1, rfl, hlt, hF, fz.1⟩, fun wm2 lo2 hN2 => ⟨a, a, fun hc => ?_, fun hc => ⟨a, a, ?_⟩⟩⟩
      · have fn := fin_no hT hO hN2 hlt e1 hnd hc
        exact ⟨⟨i + 1, by omega, rfl, fn.1, tk_no hK hneg, fn.2⟩, by omega⟩
      · have fy := fin_yes hT hO hN2 hO2 (hB i) hlt e1 hnd hc
        exact ⟨⟨i + 1, by omega, rfl, fy.1, tk_no hK hneg, fy.2⟩, by omega⟩
    · have hpos : 0 ≤ v (20 + i) := by
        by_cases q : v (20 + i) < 0
        · exact absurd ((i_lt es i32_0).mpr q) hs.1
        · omega
      obtain ⟨b, hb⟩ : ∃ b : Nat, v (20 + i) = (b : Int) := ⟨(v (20 + i)).toNat, by omega⟩
      have hbn : b < Ns := by omega
      have esb : se i = nI b := by rw [← Int32.toInt_inj, es, hb, nI_toInt (by omega)]
      have hO1 := zSit_ok hT hOi hlt hbn
      have hO2 := zOwn_ok hT hO1 hlt hbn
      have hF : (frostI (kd i) fu fd (if ¬ se i < 0 ∧ ¬ nI Ns ≤ se i then 1 else 0)).toInt = frostZ (T 2 i) (T 4 0) (T 4 1) true := frostI_Z hkd hfu hfd (by rw [if_pos hs]; rfl) t5.1
      have fz := frostZ_bd (k := T 2 i) (s := true) t5.1 t5.2.1 t5.2.2.1 t5.2.2.2.1
      have hO3 := zFrost_ok hT hO2 true hlt
      have e1 : zPersons T v (i + 1) = zCold T i (zFrost T i true (zOwn i b (zSit T i b (zPersons T v i)))) := by
        rw [zPersons]; unfold zPerson; rw [if_pos (by rw [eV]; omega), eV, hb, Int.toNat_natCast]
      refine ⟨T, Ns, Np, _, _, M, i, b, ⟨hT, by rw [← hns, ← hnp]; exact hC, hNi, hOi, rfl, hlt, esb, hbn⟩, fun ht2 wm2 hN1 => ⟨T, Ns, Np, _, _, M, i, b, ⟨hT, hN1, hO1, hB0 i, rfl, hlt, esb, hbn⟩, fun sl2 ow2 hN2 => ⟨a, T, Ns, Np, _, _, M, i, _, ⟨hT, hN2, hO2, rfl, hlt, hF, fz.1⟩, fun wm3 lo2 hN3 => ⟨a, a, fun hc => ?_, fun hc => ⟨a, a, ?_⟩⟩⟩⟩⟩
      · have fn := fin_no hT hO hN3 hlt e1 hnd hc
        exact ⟨⟨i + 1, by omega, rfl, fn.1, by rw [esb]; exact tk_yes hK (by omega) hb, fn.2⟩, by omega⟩
      · have fy := fin_yes hT hO hN3 hO3 (hB i) hlt e1 hnd hc
        exact ⟨⟨i + 1, by omega, rfl, fy.1, by rw [esb]; exact tk_yes hK (by omega) hb, fy.2⟩, by omega⟩
theorem k_X1_passMinute (l : Launch) (G : Gt) (n n1 n2 n3 n4 n5 n6 n7 t t1 t2 t3 t4 t5 t6 : Nat) (sz : Nat) (ht : Nat → Int32) (wm : Nat → Int32) (se : Nat → Int32) (cd : Nat → Int32) (sl : Nat → Int32) (od : Nat → Int32) (ow : Nat → Int32) (lo : Int32) (mi : Int32) (sd : Int32) (ns : Int32) (np : Int32) (fu : Int32) (fd : Int32) (fi : Int32) (sz_ : Nat → Int32) (pt : Nat → Int32) (fh : Nat → Int32) (kd : Nat → Int32) (nd : Nat → Int32) (fw : Nat → Int32) (T : Nat → Nat → Int) (Ns : Nat) (Np : Nat) (v : Nat → Int) (M : Int) (hp : TOK T Ns Np ∧ CT T Ns Np ns np fu fd fi sz_ pt kd nd ∧ CN Ns Np v ht wm se cd sl od ow lo mi sd ∧ NOK T Ns Np (fun _ => 2 * M) M v ∧ M ≤ 1000000) : MetI l yX1_passMinute wsX1_passMinute 3 69 G [.ref n, .ref t] [(n, .inr (1, [.ref n1, .ref n2, .ref n3, .ref n4, .ref n5, .ref n6, .ref n7, .int lo, .int mi, .int sd])), aI G n1 9 ht, aI G n2 8 wm, aI G n3 8 se, aI G n4 8 cd, aI G n5 8 sl, aI G n6 8 od, aI G n7 72 ow, (t, .inr (6, [.int ns, .int np, .int fu, .int fd, .int fi, .ref t1, .ref t2, .ref t3, .ref t4, .ref t5, .ref t6])), aI G t1 9 sz_, aI G t2 9 pt, aI G t3 9 fh, aI G t4 8 kd, aI G t5 8 nd, aI G t6 8 fw] sz (fun (r : Int32) (u : (Nat → Int32) × (Nat → Int32) × (Nat → Int32) × (Nat → Int32) × (Nat → Int32) × (Nat → Int32) × (Int32) × (Int32)) => r = nI (zCs T (zPass T Ns Np v) Np) ∧ CN Ns Np (zPass T Ns Np v) u.1 u.2.1 se u.2.2.1 u.2.2.2.1 u.2.2.2.2.1 u.2.2.2.2.2.1 u.2.2.2.2.2.2.1 u.2.2.2.2.2.2.2 sd) (fun (u : (Nat → Int32) × (Nat → Int32) × (Nat → Int32) × (Nat → Int32) × (Nat → Int32) × (Nat → Int32) × (Int32) × (Int32)) => [(n, .inr (1, [.ref n1, .ref n2, .ref n3, .ref n4, .ref n5, .ref n6, .ref n7, .int u.2.2.2.2.2.2.1, .int u.2.2.2.2.2.2.2, .int sd])), aI G n1 9 u.1, aI G n2 8 u.2.1, aI G n3 8 se, aI G n4 8 u.2.2.1, aI G n5 8 u.2.2.2.1, aI G n6 8 u.2.2.2.2.1, aI G n7 72 u.2.2.2.2.2.1, (t, .inr (6, [.int ns, .int np, .int fu, .int fd, .int fi, .ref t1, .ref t2, .ref t3, .ref t4, .ref t5, .ref t6])), aI G t1 9 sz_, aI G t2 9 pt, aI G t3 9 fh, aI G t4 8 kd, aI G t5 8 nd, aI G t6 8 fw]) :=
  c_X1_passMinute l G n n1 n2 n3 n4 n5 n6 n7 t t1 t2 t3 t4 t5 t6 sz ht wm se cd sl od ow lo mi sd ns np fu fd fi sz_ pt fh kd nd fw T Ns Np v M (v_X1_passMinute l G n n1 n2 n3 n4 n5 n6 n7 t t1 t2 t3 t4 t5 t6 sz ht wm se cd sl od ow lo mi sd ns np fu fd fi sz_ pt fh kd nd fw T Ns Np v M hp)

set_option maxHeartbeats 4000000 in
set_option maxRecDepth 100000 in
theorem c_X1_draw (l : Launch) (G : Gt) (n n1 n2 n3 n4 n5 n6 n7 : Nat) (sz : Nat) (ht : Nat → Int32) (wm : Nat → Int32) (se : Nat → Int32) (cd : Nat → Int32) (sl : Nat → Int32) (od : Nat → Int32) (ow : Nat → Int32) (lo : Int32) (mi : Int32) (sd : Int32) (k : Int32) (kn : Nat) (hv : (k ≤ 0 → (0 : Int32).toInt = zDv (zDr sd.toInt) kn ∧ ((((sd.toInt64 * 1103515245) + 12345) &&& 2147483647).toInt32).toInt = zDr sd.toInt) ∧ (¬ (k ≤ 0) → (¬ k = 0) ∧ ((((((sd.toInt64 * 1103515245) + 12345) &&& 2147483647).toInt32 / 65536) - ((((sd.toInt64 * 1103515245) + 12345) &&& 2147483647).toInt32 / 65536) / k * k).toInt = zDv (zDr sd.toInt) kn ∧ ((((sd.toInt64 * 1103515245) + 12345) &&& 2147483647).toInt32).toInt = zDr sd.toInt))) : MetI l yX1_draw wsX1_draw 0 0 G [.ref n, .int k] [(n, .inr (1, [.ref n1, .ref n2, .ref n3, .ref n4, .ref n5, .ref n6, .ref n7, .int lo, .int mi, .int sd])), aI G n1 9 ht, aI G n2 8 wm, aI G n3 8 se, aI G n4 8 cd, aI G n5 8 sl, aI G n6 8 od, aI G n7 72 ow] sz (fun (r : Int32) (u : (Int32)) => r.toInt = zDv (zDr sd.toInt) kn ∧ u.toInt = zDr sd.toInt) (fun (u : (Int32)) => [(n, .inr (1, [.ref n1, .ref n2, .ref n3, .ref n4, .ref n5, .ref n6, .ref n7, .int lo, .int mi, .int u])), aI G n1 9 ht, aI G n2 8 wm, aI G n3 8 se, aI G n4 8 cd, aI G n5 8 sl, aI G n6 8 od, aI G n7 72 ow]) := by
  refine x_startI (cc := cX1_draw) (maxL := 2) (ret := (some .int)) (by decide) rfl (Nat.le_of_ble_eq_true rfl) ?_
  intro p e s m args below meth c A R Q ls hRf hRl hQ C hP hD hS hA hSS hl
  obtain ⟨hx, hb, hr, hml, hown, hts, hlocks, hKK⟩ := C
  have hown : s.vm.findClass RX1 = some m.cls := hown
  have hl : lv_has ls 2 [(0, .ref n), (1, .int k)] := hl
  have hinX1 : ∀ w ∈ u_ws RX1 TX1 10, w ∈ wsX1_draw := by decide +kernel
  have kl115 := hts (.constantLong RX1 115 (1103515245)) (by decide +kernel)
  have kl117 := hts (.constantLong RX1 117 (12345)) (by decide +kernel)
  have kl119 := hts (.constantLong RX1 119 (2147483647)) (by decide +kernel)
  have kl121 := hts (.constant RX1 121 (65536)) (by decide +kernel)
  have kl60 := hts (.fieldLink RX1 60 "WarmStones$Night" "seed" "I") (by decide +kernel)
  refine lv_aload_n hx hb dX1_draw_0 rfl (lv_at hl 0 rfl) ?_
  refine lv_aload_n hx hb dX1_draw_1 rfl (lv_at hl 0 rfl) ?_
  refine va_get (D := G.1) (ci := 1) (v := .int sd) (C := RX1) (T := TX1) (N := 10) hx hb hts hinX1 hown hKK.1 hP 0 rfl rfl 9 (by decide) kl60 (fun _ h9 => h9) rfl dX1_draw_2 ?_
  refine lv_i2l hx hb dX1_draw_5 rfl ?_
  refine lv_ldc2 (v := 1103515245) hx hb hown kl115 dX1_draw_6 ?_
  refine lv_lmul hx hb dX1_draw_9 ?_
  refine lv_ldc2 (v := 12345) hx hb hown kl117 dX1_draw_10 ?_
  refine lv_ladd hx hb dX1_draw_13 ?_
  refine lv_ldc2 (v := 2147483647) hx hb hown kl119 dX1_draw_14 ?_
  refine lv_land hx hb dX1_draw_17 ?_
  refine lv_l2i hx hb dX1_draw_18 rfl ?_
  refine va_put (D := G.1) (ci := 1) (v := .int ((((sd.toInt64 * 1103515245) + 12345) &&& 2147483647).toInt32)) (ty := .int) (C := RX1) (T := TX1) (N := 10) hx hb hts hinX1 tyX1 tyX1_ok nmX1 hown hKK.1 hP hD hS 0 rfl rfl 9 (by decide) kl60 (fun _ h9 => h9) rfl (by decide +kernel) rfl rfl (Nat.le_of_ble_eq_true rfl) dX1_draw_19 (fun H locs hP hD hS => ?_)
  have hP : va_P G.1 vwCl [(n, .inr (1, [.ref n1, .ref n2, .ref n3, .ref n4, .ref n5, .ref n6, .ref n7, .int lo, .int mi, .int ((((sd.toInt64 * 1103515245) + 12345) &&& 2147483647).toInt32)])), aI G n1 9 ht, aI G n2 8 wm, aI G n3 8 se, aI G n4 8 cd, aI G n5 8 sl, aI G n6 8 od, aI G n7 72 ow] H := hP
  have hD : va_D A [(n, .inr (1, [.ref n1, .ref n2, .ref n3, .ref n4, .ref n5, .ref n6, .ref n7, .int lo, .int mi, .int ((((sd.toInt64 * 1103515245) + 12345) &&& 2147483647).toInt32)])), aI G n1 9 ht, aI G n2 8 wm, aI G n3 8 se, aI G n4 8 cd, aI G n5 8 sl, aI G n6 8 od, aI G n7 72 ow] := hD
  refine lv_iload_n hx hb dX1_draw_22 rfl (lv_at hl 1 rfl) ?_
  refine lv_if_le (tgt := 38) hx hb dX1_draw_23 (by decide) (fun hc_1 => ?_) (fun hc_1 => ?_)
  · have hv := hv.1 hc_1
    refine lv_iconst (v := 0) hx hb dX1_draw_38 (by decide) ?_
    exact x_iret (v := 0) ((((sd.toInt64 * 1103515245) + 12345) &&& 2147483647).toInt32) hQ hx hb hr hlocks hS dX1_draw_39 hv hP hD
  · have hv := hv.2 hc_1
    refine lv_aload_n hx hb dX1_draw_26 rfl (lv_at hl 0 rfl) ?_
    refine va_get (D := G.1) (ci := 1) (v := .int ((((sd.toInt64 * 1103515245) + 12345) &&& 2147483647).toInt32)) (C := RX1) (T := TX1) (N := 10) hx hb hts hinX1 hown hKK.1 hP 0 rfl rfl 9 (by decide) kl60 (fun _ h9 => h9) rfl dX1_draw_27 ?_
    refine lv_ldc (v := 65536) hx hb hown kl121 dX1_draw_30 ?_
    refine lv_idiv hx hb dX1_draw_32 (by decide) ?_
    refine lv_iload_n hx hb dX1_draw_33 rfl (lv_at hl 1 rfl) ?_
    obtain ⟨hne, hv⟩ := hv
    refine lv_irem hx hb dX1_draw_34 hne ?_
    refine lv_goto (tgt := 39) hx hb dX1_draw_35 (by decide) ?_
    exact x_iret (v := (((((sd.toInt64 * 1103515245) + 12345) &&& 2147483647).toInt32 / 65536) - ((((sd.toInt64 * 1103515245) + 12345) &&& 2147483647).toInt32 / 65536) / k * k)) ((((sd.toInt64 * 1103515245) + 12345) &&& 2147483647).toInt32) hQ hx hb hr hlocks hS dX1_draw_39 hv hP hD
theorem v_X1_draw (l : Launch) (G : Gt) (n n1 n2 n3 n4 n5 n6 n7 : Nat) (sz : Nat) (ht : Nat → Int32) (wm : Nat → Int32) (se : Nat → Int32) (cd : Nat → Int32) (sl : Nat → Int32) (od : Nat → Int32) (ow : Nat → Int32) (lo : Int32) (mi : Int32) (sd : Int32) (k : Int32) (kn : Nat) (hp : 0 ≤ sd.toInt ∧ k = nI kn ∧ 1 ≤ kn ∧ kn ≤ 10) : (k ≤ 0 → (0 : Int32).toInt = zDv (zDr sd.toInt) kn ∧ ((((sd.toInt64 * 1103515245) + 12345) &&& 2147483647).toInt32).toInt = zDr sd.toInt) ∧ (¬ (k ≤ 0) → (¬ k = 0) ∧ ((((((sd.toInt64 * 1103515245) + 12345) &&& 2147483647).toInt32 / 65536) - ((((sd.toInt64 * 1103515245) + 12345) &&& 2147483647).toInt32 / 65536) / k * k).toInt = zDv (zDr sd.toInt) kn ∧ ((((sd.toInt64 * 1103515245) + 12345) &&& 2147483647).toInt32).toInt = zDr sd.toInt)) := by
  obtain ⟨h0, rfl, k1, k2⟩ := hp
  have hr := fb_rng sd
  have e0 : sd.toInt64.toInt = sd.toInt := i_l rfl
  have e1 : (sd.toInt64 * 1103515245 + 12345).toInt = sd.toInt * 1103515245 + 12345 := l_add (l_mul e0 (show (1103515245 : Int64).toInt = 1103515245 from rfl) (by omega) (by omega)) (show (12345 : Int64).toInt = 12345 from rfl) (by omega) (by omega)
  have e2 := l_and31 e1 (by omega)
  have hd := zDr_in sd.toInt
  have e3 : ((sd.toInt64 * 1103515245 + 12345) &&& 2147483647).toInt32.toInt = zDr sd.toInt := l_iZ e2 (Int.le_trans (by omega) hd.1) (by exact hd.2)
  have ek : (nI kn).toInt = (kn : Int) := nI_toInt (by omega)
  have hk : nI kn ≤ 0 ↔ (kn : Int) ≤ 0 := i_le ek rfl
  refine ⟨fun h => by have := hk.mp h; omega, fun h => ⟨fun z => h (by rw [z]; decide), ?_, e3⟩⟩
  have e4 : (((sd.toInt64 * 1103515245 + 12345) &&& 2147483647).toInt32 / 65536).toInt = zDr sd.toInt / 65536 := by
    rw [i_div e3 (show (65536 : Int32).toInt = 65536 from rfl) (by omega)]
    exact if_pos hd.1
  exact i_rem e4 ek (by omega) (by omega)
theorem k_X1_draw (l : Launch) (G : Gt) (n n1 n2 n3 n4 n5 n6 n7 : Nat) (sz : Nat) (ht : Nat → Int32) (wm : Nat → Int32) (se : Nat → Int32) (cd : Nat → Int32) (sl : Nat → Int32) (od : Nat → Int32) (ow : Nat → Int32) (lo : Int32) (mi : Int32) (sd : Int32) (k : Int32) (kn : Nat) (hp : 0 ≤ sd.toInt ∧ k = nI kn ∧ 1 ≤ kn ∧ kn ≤ 10) : MetI l yX1_draw wsX1_draw 0 0 G [.ref n, .int k] [(n, .inr (1, [.ref n1, .ref n2, .ref n3, .ref n4, .ref n5, .ref n6, .ref n7, .int lo, .int mi, .int sd])), aI G n1 9 ht, aI G n2 8 wm, aI G n3 8 se, aI G n4 8 cd, aI G n5 8 sl, aI G n6 8 od, aI G n7 72 ow] sz (fun (r : Int32) (u : (Int32)) => r.toInt = zDv (zDr sd.toInt) kn ∧ u.toInt = zDr sd.toInt) (fun (u : (Int32)) => [(n, .inr (1, [.ref n1, .ref n2, .ref n3, .ref n4, .ref n5, .ref n6, .ref n7, .int lo, .int mi, .int u])), aI G n1 9 ht, aI G n2 8 wm, aI G n3 8 se, aI G n4 8 cd, aI G n5 8 sl, aI G n6 8 od, aI G n7 72 ow]) :=
  c_X1_draw l G n n1 n2 n3 n4 n5 n6 n7 sz ht wm se cd sl od ow lo mi sd k kn (v_X1_draw l G n n1 n2 n3 n4 n5 n6 n7 sz ht wm se cd sl od ow lo mi sd k kn hp)

set_option maxHeartbeats 4000000 in
set_option maxRecDepth 100000 in
theorem c_X1_moveByDraws (l : Launch) (G : Gt) (n n1 n2 n3 n4 n5 n6 n7 t t1 t2 t3 t4 t5 t6 : Nat) (sz : Nat) (ht : Nat → Int32) (wm : Nat → Int32) (se : Nat → Int32) (cd : Nat → Int32) (sl : Nat → Int32) (od : Nat → Int32) (ow : Nat → Int32) (lo : Int32) (mi : Int32) (sd : Int32) (ns : Int32) (np : Int32) (fu : Int32) (fd : Int32) (fi : Int32) (sz_ : Nat → Int32) (pt : Nat → Int32) (fh : Nat → Int32) (kd : Nat → Int32) (nd : Nat → Int32) (fw : Nat → Int32) (T : Nat → Nat → Int) (Ns : Nat) (Np : Nat) (v : Nat → Int) (hv : ∃ (I2_4 : (Nat → Int32) → Int32 → Int32 → Prop) (μ2_5 : (Nat → Int32) → Int32 → Int32 → Nat), I2_4 se sd 0 ∧ (∀ (fn3_1 : (Nat → Int32)) (gn9_2 : Int32) (x2_3 : Int32), I2_4 fn3_1 gn9_2 x2_3 → (np ≤ x2_3 → CN Ns Np (zWans Ns Np v Np) ht wm fn3_1 cd sl od ow lo mi gn9_2) ∧ (¬ (np ≤ x2_3) → ∃ (gkn_9 : Nat), ((0 ≤ gn9_2.toInt ∧ (4 : Int32) = nI gkn_9 ∧ 1 ≤ gkn_9 ∧ gkn_9 ≤ 10) ∧ (∀ (r_10 : Int32) (sd2_11 : Int32), (r_10.toInt = zDv (zDr gn9_2.toInt) gkn_9 ∧ sd2_11.toInt = zDr gn9_2.toInt) → ((¬ r_10 = 0 → I2_4 fn3_1 sd2_11 (x2_3 + 1) ∧ μ2_5 fn3_1 sd2_11 (x2_3 + 1) < μ2_5 fn3_1 gn9_2 x2_3) ∧ (r_10 = 0 → (vp_in x2_3 8) ∧ (∃ (gkn_13 : Nat), ((0 ≤ sd2_11.toInt ∧ (ns + 1) = nI gkn_13 ∧ 1 ≤ gkn_13 ∧ gkn_13 ≤ 10) ∧ (∀ (r_14 : Int32) (sd2_15 : Int32), (r_14.toInt = zDv (zDr sd2_11.toInt) gkn_13 ∧ sd2_15.toInt = zDr sd2_11.toInt) → ((¬ (¬ r_14 < 0 ∧ ¬ ns ≤ r_14) → I2_4 (upd fn3_1 x2_3.toNatClampNeg (-1)) sd2_15 (x2_3 + 1) ∧ μ2_5 (upd fn3_1 x2_3.toNatClampNeg (-1)) sd2_15 (x2_3 + 1) < μ2_5 fn3_1 gn9_2 x2_3) ∧ (¬ r_14 < 0 ∧ ¬ ns ≤ r_14 → ∃ (gNs_18 : Nat) (gNp_19 : Nat) (gv_20 : Nat → Int) (gib_21 : Nat), ((gNp_19 ≤ 8 ∧ CN gNs_18 gNp_19 gv_20 ht wm (upd fn3_1 x2_3.toNatClampNeg (-1)) cd sl od ow lo mi sd2_15 ∧ r_14 = nI gib_21 ∧ (gib_21 < gNs_18 ∧ gNs_18 ≤ 9)) ∧ (∀ (r_22 : Int32), (r_22 = zSitter gv_20 gib_21 gNp_19 ∧ (r_22 = -1 ↔ zEmpty gv_20 gib_21 gNp_19)) → ((¬ r_22 = (-1) → I2_4 (upd fn3_1 x2_3.toNatClampNeg (-1)) sd2_15 (x2_3 + 1) ∧ μ2_5 (upd fn3_1 x2_3.toNatClampNeg (-1)) sd2_15 (x2_3 + 1) < μ2_5 fn3_1 gn9_2 x2_3) ∧ (r_22 = (-1) → (vp_in x2_3 8) ∧ (I2_4 (upd (upd fn3_1 x2_3.toNatClampNeg (-1)) x2_3.toNatClampNeg r_14) sd2_15 (x2_3 + 1) ∧ μ2_5 (upd (upd fn3_1 x2_3.toNatClampNeg (-1)) x2_3.toNatClampNeg r_14) sd2_15 (x2_3 + 1) < μ2_5 fn3_1 gn9_2 x2_3))))))))))))))))) : MetV l yX1_moveByDraws wsX1_moveByDraws 1 22 G [.ref n, .ref t] [(n, .inr (1, [.ref n1, .ref n2, .ref n3, .ref n4, .ref n5, .ref n6, .ref n7, .int lo, .int mi, .int sd])), aI G n1 9 ht, aI G n2 8 wm, aI G n3 8 se, aI G n4 8 cd, aI G n5 8 sl, aI G n6 8 od, aI G n7 72 ow, (t, .inr (6, [.int ns, .int np, .int fu, .int fd, .int fi, .ref t1, .ref t2, .ref t3, .ref t4, .ref t5, .ref t6])), aI G t1 9 sz_, aI G t2 9 pt, aI G t3 9 fh, aI G t4 8 kd, aI G t5 8 nd, aI G t6 8 fw] sz (fun (u : (Nat → Int32) × (Int32)) => CN Ns Np (zWans Ns Np v Np) ht wm u.1 cd sl od ow lo mi u.2) (fun (u : (Nat → Int32) × (Int32)) => [(n, .inr (1, [.ref n1, .ref n2, .ref n3, .ref n4, .ref n5, .ref n6, .ref n7, .int lo, .int mi, .int u.2])), aI G n1 9 ht, aI G n2 8 wm, aI G n3 8 u.1, aI G n4 8 cd, aI G n5 8 sl, aI G n6 8 od, aI G n7 72 ow, (t, .inr (6, [.int ns, .int np, .int fu, .int fd, .int fi, .ref t1, .ref t2, .ref t3, .ref t4, .ref t5, .ref t6])), aI G t1 9 sz_, aI G t2 9 pt, aI G t3 9 fh, aI G t4 8 kd, aI G t5 8 nd, aI G t6 8 fw]) := by
  refine x_startV (cc := cX1_moveByDraws) (maxL := 4) (ret := none) (by decide) rfl (Nat.le_of_ble_eq_true rfl) ?_
  intro p e s m args below meth c A R Q ls hRf hRl hQ C hP hD hS hA hSS hl
  obtain ⟨hx, hb, hr, hml, hown, hts, hlocks, hKK⟩ := C
  have hown : s.vm.findClass RX1 = some m.cls := hown
  have hl : lv_has ls 4 [(0, .ref n), (1, .ref t)] := hl
  have hinX1 : ∀ w ∈ u_ws RX1 TX1 10, w ∈ wsX1_moveByDraws := by decide +kernel
  have hinX6 : ∀ w ∈ u_ws RX6 TX6 11, w ∈ wsX1_moveByDraws := by decide +kernel
  have kl18 := hts (.fieldLink RX1 18 "WarmStones$Night" "seat" "[I") (by decide +kernel)
  have kl33 := hts (.fieldLink RX1 33 "WarmStones$Town" "stones" "I") (by decide +kernel)
  have kl42 := hts (.fieldLink RX1 42 "WarmStones$Town" "persons" "I") (by decide +kernel)
  refine lv_iconst (v := 0) hx hb dX1_moveByDraws_0 (by decide) ?_
  refine lv_istore_n (lv' := [(2, .int 0), (0, .ref n), (1, .ref t)]) hx hb dX1_moveByDraws_1 rfl hl (by decide) rfl (fun ls hl => ?_)
  obtain ⟨I2_4, μ2_5, hi0, hs_24⟩ := hv
  have Lm_26 : ∀ (n_25 : Nat) (fn3_1 : (Nat → Int32)) (gn9_2 : Int32) (x2_3 : Int32) (H : Heap) (locs : List Loc) (ls : Array Slot), μ2_5 fn3_1 gn9_2 x2_3 < n_25 → I2_4 fn3_1 gn9_2 x2_3 → va_P G.1 vwCl [(n, .inr (1, [.ref n1, .ref n2, .ref n3, .ref n4, .ref n5, .ref n6, .ref n7, .int lo, .int mi, .int gn9_2])), aI G n1 9 ht, aI G n2 8 wm, aI G n3 8 fn3_1, aI G n4 8 cd, aI G n5 8 sl, aI G n6 8 od, aI G n7 72 ow, (t, .inr (6, [.int ns, .int np, .int fu, .int fd, .int fi, .ref t1, .ref t2, .ref t3, .ref t4, .ref t5, .ref t6])), aI G t1 9 sz_, aI G t2 9 pt, aI G t3 9 fh, aI G t4 8 kd, aI G t5 8 nd, aI G t6 8 fw] H → va_D A [(n, .inr (1, [.ref n1, .ref n2, .ref n3, .ref n4, .ref n5, .ref n6, .ref n7, .int lo, .int mi, .int gn9_2])), aI G n1 9 ht, aI G n2 8 wm, aI G n3 8 fn3_1, aI G n4 8 cd, aI G n5 8 sl, aI G n6 8 od, aI G n7 72 ow, (t, .inr (6, [.int ns, .int np, .int fu, .int fd, .int fi, .ref t1, .ref t2, .ref t3, .ref t4, .ref t5, .ref t6])), aI G t1 9 sz_, aI G t2 9 pt, aI G t3 9 fh, aI G t4 8 kd, aI G t5 8 nd, aI G t6 8 fw] → va_S A s.heap H locs → lv_has ls 4 [(2, .int x2_3), (0, .ref n), (1, .ref t)] → W p l e R s m args below meth c H locs 0 0 Q (F0 m 2 ls []) := by
    intro n_25
    induction n_25 with
    | zero => intro fn3_1 gn9_2 x2_3 H locs ls hm; exact absurd hm (Nat.not_lt_zero _)
    | succ n_25 ih_6 =>
      intro fn3_1 gn9_2 x2_3 H locs ls hI_7 hi hP hD hS hl
      have hv := hs_24 fn3_1 gn9_2 x2_3 hi
      refine lv_iload_n hx hb dX1_moveByDraws_2 rfl (lv_at hl 0 rfl) ?_
      refine lv_aload_n hx hb dX1_moveByDraws_3 rfl (lv_at hl 2 rfl) ?_
      refine va_get (D := G.1) (ci := 6) (v := .int np) (C := RX6) (T := TX6) (N := 11) hx hb hts hinX6 hown hKK.1 hP 8 rfl rfl 1 (by decide) kl42 (fun _ h9 => h9) rfl dX1_moveByDraws_4 ?_
      refine lv_icmp_ge (tgt := 66) hx hb dX1_moveByDraws_7 (by decide) (fun hc_8 => ?_) (fun hc_8 => ?_)
      · have hv := hv.1 hc_8
        exact x_vret (fn3_1, gn9_2) hQ hx hb hr hlocks hS dX1_moveByDraws_66 hv hP hD
      · have hv := hv.2 hc_8
        refine lv_aload_n hx hb dX1_moveByDraws_10 rfl (lv_at hl 1 rfl) ?_
        refine lv_iconst (v := 4) hx hb dX1_moveByDraws_11 (by decide) ?_
        obtain ⟨gkn_9, hv⟩ := hv
        obtain ⟨hp, hv⟩ := hv
        refine x_calli (wr := [(t, .inr (6, [.int ns, .int np, .int fu, .int fd, .int fi, .ref t1, .ref t2, .ref t3, .ref t4, .ref t5, .ref t6])), aI G t1 9 sz_, aI G t2 9 pt, aI G t3 9 fh, aI G t4 8 kd, aI G t5 8 nd, aI G t6 8 fw]) (w' := fun (u : (Int32)) => [(n, .inr (1, [.ref n1, .ref n2, .ref n3, .ref n4, .ref n5, .ref n6, .ref n7, .int lo, .int mi, .int u])), aI G n1 9 ht, aI G n2 8 wm, aI G n3 8 fn3_1, aI G n4 8 cd, aI G n5 8 sl, aI G n6 8 od, aI G n7 72 ow, (t, .inr (6, [.int ns, .int np, .int fu, .int fd, .int fi, .ref t1, .ref t2, .ref t3, .ref t4, .ref t5, .ref t6])), aI G t1 9 sz_, aI G t2 9 pt, aI G t3 9 fh, aI G t4 8 kd, aI G t5 8 nd, aI G t6 8 fw]) (x_runV (As := [.int 4]) (rest := []) (n := 1) (C := RX1) (ci := 1) ⟨hx, hb, hml, hown, hts⟩ (k_X1_draw l G n n1 n2 n3 n4 n5 n6 n7 _ ht wm fn3_1 cd sl od ow lo mi gn9_2 4 gkn_9 hp) gX1_moveByDraws_X1_draw rfl (by decide +kernel) ⟨Nat.le_trans (Nat.le_of_ble_eq_true rfl) hRf, Nat.le_trans (Nat.le_of_ble_eq_true rfl) hRl⟩ hKK hSS hS hA hP hD [0, 1, 2, 3, 4, 5, 6, 7] (by decide) rfl rfl rfl 0 rfl rfl hl.1 rfl (Nat.le_of_ble_eq_true rfl) dX1_moveByDraws_12) hP hD hS hA [0, 1, 2, 3, 4, 5, 6, 7] [8, 9, 10, 11, 12, 13, 14] [7, 8, 9, 10, 11, 12, 13, 14, 0, 1, 2, 3, 4, 5, 6] rfl rfl (by decide) (by decide) (by decide) (fun _ => rfl) (fun r_10 u H locs hw hP hD hS => ?_)
        obtain ⟨sd2_11, rfl⟩ : ∃ z9_, z9_ = u := ⟨_, rfl⟩
        have hP : va_P G.1 vwCl [(n, .inr (1, [.ref n1, .ref n2, .ref n3, .ref n4, .ref n5, .ref n6, .ref n7, .int lo, .int mi, .int sd2_11])), aI G n1 9 ht, aI G n2 8 wm, aI G n3 8 fn3_1, aI G n4 8 cd, aI G n5 8 sl, aI G n6 8 od, aI G n7 72 ow, (t, .inr (6, [.int ns, .int np, .int fu, .int fd, .int fi, .ref t1, .ref t2, .ref t3, .ref t4, .ref t5, .ref t6])), aI G t1 9 sz_, aI G t2 9 pt, aI G t3 9 fh, aI G t4 8 kd, aI G t5 8 nd, aI G t6 8 fw] H := hP
        have hD : va_D A [(n, .inr (1, [.ref n1, .ref n2, .ref n3, .ref n4, .ref n5, .ref n6, .ref n7, .int lo, .int mi, .int sd2_11])), aI G n1 9 ht, aI G n2 8 wm, aI G n3 8 fn3_1, aI G n4 8 cd, aI G n5 8 sl, aI G n6 8 od, aI G n7 72 ow, (t, .inr (6, [.int ns, .int np, .int fu, .int fd, .int fi, .ref t1, .ref t2, .ref t3, .ref t4, .ref t5, .ref t6])), aI G t1 9 sz_, aI G t2 9 pt, aI G t3 9 fh, aI G t4 8 kd, aI G t5 8 nd, aI G t6 8 fw] := hD
        have hv := hv r_10 sd2_11 hw
        refine lv_if_ne (tgt := 60) hx hb dX1_moveByDraws_15 (by decide) (fun hc_12 => ?_) (fun hc_12 => ?_)
        · have hv := hv.1 hc_12
          refine lv_iinc (v := (x2_3 + 1)) (lv' := [(2, .int (x2_3 + 1)), (0, .ref n), (1, .ref t)]) hx hb dX1_moveByDraws_60 hl (k := 0) rfl rfl (by decide) rfl (fun ls hl => ?_)
          refine lv_goto (tgt := 2) hx hb dX1_moveByDraws_63 (by decide) ?_
          exact ih_6 _ _ _ _ _ _ (Nat.lt_of_lt_of_le hv.2 (Nat.le_of_lt_succ hI_7)) hv.1 hP hD hS hl
        · have hv := hv.2 hc_12
          refine lv_aload_n hx hb dX1_moveByDraws_18 rfl (lv_at hl 1 rfl) ?_
          refine va_get (D := G.1) (ci := 1) (v := .ref n3) (C := RX1) (T := TX1) (N := 10) hx hb hts hinX1 hown hKK.1 hP 0 rfl rfl 2 (by decide) kl18 (fun _ h9 => h9) rfl dX1_moveByDraws_19 ?_
          refine lv_iload_n hx hb dX1_moveByDraws_22 rfl (lv_at hl 0 rfl) ?_
          refine lv_iconst (v := (-1)) hx hb dX1_moveByDraws_23 (by decide) ?_
          obtain ⟨hin, hv⟩ := hv
          refine va_iast hx hb hKK.1 hP hD hS 3 0 rfl rfl hin dX1_moveByDraws_24 (fun H locs hP hD hS => ?_)
          have hP : va_P G.1 vwCl [(n, .inr (1, [.ref n1, .ref n2, .ref n3, .ref n4, .ref n5, .ref n6, .ref n7, .int lo, .int mi, .int sd2_11])), aI G n1 9 ht, aI G n2 8 wm, aI G n3 8 (upd fn3_1 x2_3.toNatClampNeg (-1)), aI G n4 8 cd, aI G n5 8 sl, aI G n6 8 od, aI G n7 72 ow, (t, .inr (6, [.int ns, .int np, .int fu, .int fd, .int fi, .ref t1, .ref t2, .ref t3, .ref t4, .ref t5, .ref t6])), aI G t1 9 sz_, aI G t2 9 pt, aI G t3 9 fh, aI G t4 8 kd, aI G t5 8 nd, aI G t6 8 fw] H := hP
          have hD : va_D A [(n, .inr (1, [.ref n1, .ref n2, .ref n3, .ref n4, .ref n5, .ref n6, .ref n7, .int lo, .int mi, .int sd2_11])), aI G n1 9 ht, aI G n2 8 wm, aI G n3 8 (upd fn3_1 x2_3.toNatClampNeg (-1)), aI G n4 8 cd, aI G n5 8 sl, aI G n6 8 od, aI G n7 72 ow, (t, .inr (6, [.int ns, .int np, .int fu, .int fd, .int fi, .ref t1, .ref t2, .ref t3, .ref t4, .ref t5, .ref t6])), aI G t1 9 sz_, aI G t2 9 pt, aI G t3 9 fh, aI G t4 8 kd, aI G t5 8 nd, aI G t6 8 fw] := hD
          refine lv_aload_n hx hb dX1_moveByDraws_25 rfl (lv_at hl 1 rfl) ?_
          refine lv_aload_n hx hb dX1_moveByDraws_26 rfl (lv_at hl 2 rfl) ?_
          refine va_get (D := G.1) (ci := 6) (v := .int ns) (C := RX6) (T := TX6) (N := 11) hx hb hts hinX6 hown hKK.1 hP 8 rfl rfl 0 (by decide) kl33 (fun _ h9 => h9) rfl dX1_moveByDraws_27 ?_
          refine lv_iconst (v := 1) hx hb dX1_moveByDraws_30 (by decide) ?_
          refine lv_iadd hx hb dX1_moveByDraws_31 ?_
          obtain ⟨gkn_13, hv⟩ := hv
          obtain ⟨hp, hv⟩ := hv
          refine x_calli (wr := [(t, .inr (6, [.int ns, .int np, .int fu, .int fd, .int fi, .ref t1, .ref t2, .ref t3, .ref t4, .ref t5, .ref t6])), aI G t1 9 sz_, aI G t2 9 pt, aI G t3 9 fh, aI G t4 8 kd, aI G t5 8 nd, aI G t6 8 fw]) (w' := fun (u : (Int32)) => [(n, .inr (1, [.ref n1, .ref n2, .ref n3, .ref n4, .ref n5, .ref n6, .ref n7, .int lo, .int mi, .int u])), aI G n1 9 ht, aI G n2 8 wm, aI G n3 8 (upd fn3_1 x2_3.toNatClampNeg (-1)), aI G n4 8 cd, aI G n5 8 sl, aI G n6 8 od, aI G n7 72 ow, (t, .inr (6, [.int ns, .int np, .int fu, .int fd, .int fi, .ref t1, .ref t2, .ref t3, .ref t4, .ref t5, .ref t6])), aI G t1 9 sz_, aI G t2 9 pt, aI G t3 9 fh, aI G t4 8 kd, aI G t5 8 nd, aI G t6 8 fw]) (x_runV (As := [.int (ns + 1)]) (rest := []) (n := 1) (C := RX1) (ci := 1) ⟨hx, hb, hml, hown, hts⟩ (k_X1_draw l G n n1 n2 n3 n4 n5 n6 n7 _ ht wm (upd fn3_1 x2_3.toNatClampNeg (-1)) cd sl od ow lo mi sd2_11 (ns + 1) gkn_13 hp) gX1_moveByDraws_X1_draw rfl (by decide +kernel) ⟨Nat.le_trans (Nat.le_of_ble_eq_true rfl) hRf, Nat.le_trans (Nat.le_of_ble_eq_true rfl) hRl⟩ hKK hSS hS hA hP hD [0, 1, 2, 3, 4, 5, 6, 7] (by decide) rfl rfl rfl 0 rfl rfl hl.1 rfl (Nat.le_of_ble_eq_true rfl) dX1_moveByDraws_32) hP hD hS hA [0, 1, 2, 3, 4, 5, 6, 7] [8, 9, 10, 11, 12, 13, 14] [7, 8, 9, 10, 11, 12, 13, 14, 0, 1, 2, 3, 4, 5, 6] rfl rfl (by decide) (by decide) (by decide) (fun _ => rfl) (fun r_14 u H locs hw hP hD hS => ?_)
          obtain ⟨sd2_15, rfl⟩ : ∃ z9_, z9_ = u := ⟨_, rfl⟩
          have hP : va_P G.1 vwCl [(n, .inr (1, [.ref n1, .ref n2, .ref n3, .ref n4, .ref n5, .ref n6, .ref n7, .int lo, .int mi, .int sd2_15])), aI G n1 9 ht, aI G n2 8 wm, aI G n3 8 (upd fn3_1 x2_3.toNatClampNeg (-1)), aI G n4 8 cd, aI G n5 8 sl, aI G n6 8 od, aI G n7 72 ow, (t, .inr (6, [.int ns, .int np, .int fu, .int fd, .int fi, .ref t1, .ref t2, .ref t3, .ref t4, .ref t5, .ref t6])), aI G t1 9 sz_, aI G t2 9 pt, aI G t3 9 fh, aI G t4 8 kd, aI G t5 8 nd, aI G t6 8 fw] H := hP
          have hD : va_D A [(n, .inr (1, [.ref n1, .ref n2, .ref n3, .ref n4, .ref n5, .ref n6, .ref n7, .int lo, .int mi, .int sd2_15])), aI G n1 9 ht, aI G n2 8 wm, aI G n3 8 (upd fn3_1 x2_3.toNatClampNeg (-1)), aI G n4 8 cd, aI G n5 8 sl, aI G n6 8 od, aI G n7 72 ow, (t, .inr (6, [.int ns, .int np, .int fu, .int fd, .int fi, .ref t1, .ref t2, .ref t3, .ref t4, .ref t5, .ref t6])), aI G t1 9 sz_, aI G t2 9 pt, aI G t3 9 fh, aI G t4 8 kd, aI G t5 8 nd, aI G t6 8 fw] := hD
          have hv := hv r_14 sd2_15 hw
          refine lv_istore_n (lv' := [(3, .int r_14), (2, .int x2_3), (0, .ref n), (1, .ref t)]) hx hb dX1_moveByDraws_35 rfl hl (by decide) rfl (fun ls hl => ?_)
          refine lv_aload_n hx hb dX1_moveByDraws_36 rfl (lv_at hl 3 rfl) ?_
          refine lv_iload_n hx hb dX1_moveByDraws_37 rfl (lv_at hl 0 rfl) ?_
          refine x_calliR (x_runV (As := [.int r_14]) (rest := []) (n := 1) (C := RX6) (ci := 6) ⟨hx, hb, hml, hown, hts⟩ (k_X6_hasStone l G t t1 t2 t3 t4 t5 t6 _ ns np fu fd fi sz_ pt fh kd nd fw r_14) gX1_moveByDraws_X6_hasStone rfl (by decide +kernel) ⟨Nat.le_trans (Nat.le_of_ble_eq_true rfl) hRf, Nat.le_trans (Nat.le_of_ble_eq_true rfl) hRl⟩ hKK hSS hS hA hP hD [8, 9, 10, 11, 12, 13, 14] (by decide) rfl rfl rfl 8 rfl rfl hl.1 rfl (Nat.le_of_ble_eq_true rfl) dX1_moveByDraws_38) hP hD hS hA [8, 9, 10, 11, 12, 13, 14] rfl (fun r_16 _ H locs hw hP hS => ?_)
          replace hw := hw.symm; subst hw
          refine lv_if_eq (tgt := 60) hx hb dX1_moveByDraws_41 (by decide) (fun hc_17 => ?_) (fun hc_17 => ?_)
          · have hv := hv.1 (tv_eq.mp hc_17)
            refine lv_iinc (v := (x2_3 + 1)) (lv' := [(2, .int (x2_3 + 1)), (3, .int r_14), (0, .ref n), (1, .ref t)]) hx hb dX1_moveByDraws_60 hl (k := 1) rfl rfl (by decide) rfl (fun ls hl => ?_)
            refine lv_goto (tgt := 2) hx hb dX1_moveByDraws_63 (by decide) ?_
            exact ih_6 _ _ _ _ _ _ (Nat.lt_of_lt_of_le hv.2 (Nat.le_of_lt_succ hI_7)) hv.1 hP hD hS (lv_sub hl [0, 2, 3] rfl)
          · have hv := hv.2 (tv_eqn.mp hc_17)
            refine lv_aload_n hx hb dX1_moveByDraws_44 rfl (lv_at hl 2 rfl) ?_
            refine lv_iload_n hx hb dX1_moveByDraws_45 rfl (lv_at hl 0 rfl) ?_
            obtain ⟨gNs_18, gNp_19, gv_20, gib_21, hv⟩ := hv
            obtain ⟨hp, hv⟩ := hv
            refine x_calliR (x_runV (As := [.int r_14]) (rest := []) (n := 1) (C := RX1) (ci := 1) ⟨hx, hb, hml, hown, hts⟩ (k_X1_sitterOn l G n n1 n2 n3 n4 n5 n6 n7 _ ht wm (upd fn3_1 x2_3.toNatClampNeg (-1)) cd sl od ow lo mi sd2_15 r_14 gNs_18 gNp_19 gv_20 gib_21 hp) gX1_moveByDraws_X1_sitterOn rfl (by decide +kernel) ⟨Nat.le_trans (Nat.le_of_ble_eq_true rfl) hRf, Nat.le_trans (Nat.le_of_ble_eq_true rfl) hRl⟩ hKK hSS hS hA hP hD [0, 1, 2, 3, 4, 5, 6, 7] (by decide) rfl rfl rfl 0 rfl rfl hl.1 rfl (Nat.le_of_ble_eq_true rfl) dX1_moveByDraws_46) hP hD hS hA [0, 1, 2, 3, 4, 5, 6, 7] rfl (fun r_22 _ H locs hw hP hS => ?_)
            have hv := hv r_22 hw
            refine lv_iconst (v := (-1)) hx hb dX1_moveByDraws_49 (by decide) ?_
            refine lv_icmp_ne (tgt := 60) hx hb dX1_moveByDraws_50 (by decide) (fun hc_23 => ?_) (fun hc_23 => ?_)
            · have hv := hv.1 hc_23
              refine lv_iinc (v := (x2_3 + 1)) (lv' := [(2, .int (x2_3 + 1)), (3, .int r_14), (0, .ref n), (1, .ref t)]) hx hb dX1_moveByDraws_60 hl (k := 1) rfl rfl (by decide) rfl (fun ls hl => ?_)
              refine lv_goto (tgt := 2) hx hb dX1_moveByDraws_63 (by decide) ?_
              exact ih_6 _ _ _ _ _ _ (Nat.lt_of_lt_of_le hv.2 (Nat.le_of_lt_succ hI_7)) hv.1 hP hD hS (lv_sub hl [0, 2, 3] rfl)
            · have hv := hv.2 hc_23
              refine lv_aload_n hx hb dX1_moveByDraws_53 rfl (lv_at hl 2 rfl) ?_
              refine va_get (D := G.1) (ci := 1) (v := .ref n3) (C := RX1) (T := TX1) (N := 10) hx hb hts hinX1 hown hKK.1 hP 0 rfl rfl 2 (by decide) kl18 (fun _ h9 => h9) rfl dX1_moveByDraws_54 ?_
              refine lv_iload_n hx hb dX1_moveByDraws_57 rfl (lv_at hl 1 rfl) ?_
              refine lv_iload_n hx hb dX1_moveByDraws_58 rfl (lv_at hl 0 rfl) ?_
              obtain ⟨hin, hv⟩ := hv
              refine va_iast hx hb hKK.1 hP hD hS 3 0 rfl rfl hin dX1_moveByDraws_59 (fun H locs hP hD hS => ?_)
              have hP : va_P G.1 vwCl [(n, .inr (1, [.ref n1, .ref n2, .ref n3, .ref n4, .ref n5, .ref n6, .ref n7, .int lo, .int mi, .int sd2_15])), aI G n1 9 ht, aI G n2 8 wm, aI G n3 8 (upd (upd fn3_1 x2_3.toNatClampNeg (-1)) x2_3.toNatClampNeg r_14), aI G n4 8 cd, aI G n5 8 sl, aI G n6 8 od, aI G n7 72 ow, (t, .inr (6, [.int ns, .int np, .int fu, .int fd, .int fi, .ref t1, .ref t2, .ref t3, .ref t4, .ref t5, .ref t6])), aI G t1 9 sz_, aI G t2 9 pt, aI G t3 9 fh, aI G t4 8 kd, aI G t5 8 nd, aI G t6 8 fw] H := hP
              have hD : va_D A [(n, .inr (1, [.ref n1, .ref n2, .ref n3, .ref n4, .ref n5, .ref n6, .ref n7, .int lo, .int mi, .int sd2_15])), aI G n1 9 ht, aI G n2 8 wm, aI G n3 8 (upd (upd fn3_1 x2_3.toNatClampNeg (-1)) x2_3.toNatClampNeg r_14), aI G n4 8 cd, aI G n5 8 sl, aI G n6 8 od, aI G n7 72 ow, (t, .inr (6, [.int ns, .int np, .int fu, .int fd, .int fi, .ref t1, .ref t2, .ref t3, .ref t4, .ref t5, .ref t6])), aI G t1 9 sz_, aI G t2 9 pt, aI G t3 9 fh, aI G t4 8 kd, aI G t5 8 nd, aI G t6 8 fw] := hD
              refine lv_iinc (v := (x2_3 + 1)) (lv' := [(2, .int (x2_3 + 1)), (3, .int r_14), (0, .ref n), (1, .ref t)]) hx hb dX1_moveByDraws_60 hl (k := 1) rfl rfl (by decide) rfl (fun ls hl => ?_)
              refine lv_goto (tgt := 2) hx hb dX1_moveByDraws_63 (by decide) ?_
              exact ih_6 _ _ _ _ _ _ (Nat.lt_of_lt_of_le hv.2 (Nat.le_of_lt_succ hI_7)) hv.1 hP hD hS (lv_sub hl [0, 2, 3] rfl)
  exact Lm_26 _ _ _ _ _ _ _ (Nat.lt_succ_self _) hi0 hP hD hS hl
theorem v_X1_moveByDraws (l : Launch) (G : Gt) (n n1 n2 n3 n4 n5 n6 n7 t t1 t2 t3 t4 t5 t6 : Nat) (sz : Nat) (ht : Nat → Int32) (wm : Nat → Int32) (se : Nat → Int32) (cd : Nat → Int32) (sl : Nat → Int32) (od : Nat → Int32) (ow : Nat → Int32) (lo : Int32) (mi : Int32) (sd : Int32) (ns : Int32) (np : Int32) (fu : Int32) (fd : Int32) (fi : Int32) (sz_ : Nat → Int32) (pt : Nat → Int32) (fh : Nat → Int32) (kd : Nat → Int32) (nd : Nat → Int32) (fw : Nat → Int32) (T : Nat → Nat → Int) (Ns : Nat) (Np : Nat) (v : Nat → Int) (hp : TOK T Ns Np ∧ CT T Ns Np ns np fu fd fi sz_ pt kd nd ∧ CN Ns Np v ht wm se cd sl od ow lo mi sd ∧ 0 ≤ v 133 ∧ v 133 < 2147483648) : ∃ (I2_4 : (Nat → Int32) → Int32 → Int32 → Prop) (μ2_5 : (Nat → Int32) → Int32 → Int32 → Nat), I2_4 se sd 0 ∧ (∀ (fn3_1 : (Nat → Int32)) (gn9_2 : Int32) (x2_3 : Int32), I2_4 fn3_1 gn9_2 x2_3 → (np ≤ x2_3 → CN Ns Np (zWans Ns Np v Np) ht wm fn3_1 cd sl od ow lo mi gn9_2) ∧ (¬ (np ≤ x2_3) → ∃ (gkn_9 : Nat), ((0 ≤ gn9_2.toInt ∧ (4 : Int32) = nI gkn_9 ∧ 1 ≤ gkn_9 ∧ gkn_9 ≤ 10) ∧ (∀ (r_10 : Int32) (sd2_11 : Int32), (r_10.toInt = zDv (zDr gn9_2.toInt) gkn_9 ∧ sd2_11.toInt = zDr gn9_2.toInt) → ((¬ r_10 = 0 → I2_4 fn3_1 sd2_11 (x2_3 + 1) ∧ μ2_5 fn3_1 sd2_11 (x2_3 + 1) < μ2_5 fn3_1 gn9_2 x2_3) ∧ (r_10 = 0 → (vp_in x2_3 8) ∧ (∃ (gkn_13 : Nat), ((0 ≤ sd2_11.toInt ∧ (ns + 1) = nI gkn_13 ∧ 1 ≤ gkn_13 ∧ gkn_13 ≤ 10) ∧ (∀ (r_14 : Int32) (sd2_15 : Int32), (r_14.toInt = zDv (zDr sd2_11.toInt) gkn_13 ∧ sd2_15.toInt = zDr sd2_11.toInt) → ((¬ (¬ r_14 < 0 ∧ ¬ ns ≤ r_14) → I2_4 (upd fn3_1 x2_3.toNatClampNeg (-1)) sd2_15 (x2_3 + 1) ∧ μ2_5 (upd fn3_1 x2_3.toNatClampNeg (-1)) sd2_15 (x2_3 + 1) < μ2_5 fn3_1 gn9_2 x2_3) ∧ (¬ r_14 < 0 ∧ ¬ ns ≤ r_14 → ∃ (gNs_18 : Nat) (gNp_19 : Nat) (gv_20 : Nat → Int) (gib_21 : Nat), ((gNp_19 ≤ 8 ∧ CN gNs_18 gNp_19 gv_20 ht wm (upd fn3_1 x2_3.toNatClampNeg (-1)) cd sl od ow lo mi sd2_15 ∧ r_14 = nI gib_21 ∧ (gib_21 < gNs_18 ∧ gNs_18 ≤ 9)) ∧ (∀ (r_22 : Int32), (r_22 = zSitter gv_20 gib_21 gNp_19 ∧ (r_22 = -1 ↔ zEmpty gv_20 gib_21 gNp_19)) → ((¬ r_22 = (-1) → I2_4 (upd fn3_1 x2_3.toNatClampNeg (-1)) sd2_15 (x2_3 + 1) ∧ μ2_5 (upd fn3_1 x2_3.toNatClampNeg (-1)) sd2_15 (x2_3 + 1) < μ2_5 fn3_1 gn9_2 x2_3) ∧ (r_22 = (-1) → (vp_in x2_3 8) ∧ (I2_4 (upd (upd fn3_1 x2_3.toNatClampNeg (-1)) x2_3.toNatClampNeg r_14) sd2_15 (x2_3 + 1) ∧ μ2_5 (upd (upd fn3_1 x2_3.toNatClampNeg (-1)) x2_3.toNatClampNeg r_14) sd2_15 (x2_3 + 1) < μ2_5 fn3_1 gn9_2 x2_3)))))))))))))))) := by
  obtain ⟨hT, hC, hN, h0, h1⟩ := hp
  have t1 := hT.1
  have t2 := hT.2.1
  have hns : ns = nI Ns := hC.1
  have hnp : np = nI Np := hC.2.1
  refine ⟨fun f g z => ∃ i, i ≤ Np ∧ z = nI i ∧ CN Ns Np (zWans Ns Np v i) ht wm f cd sl od ow lo mi g ∧ 0 ≤ zWans Ns Np v i 133, fun _ _ z => 9 - z.toNatClampNeg, ⟨0, by omega, rfl, hN, h0⟩, ?_⟩
  rintro f g z ⟨i, hi, rfl, hNi, hS⟩
  have ei : (nI i).toNatClampNeg = i := nI_clamp (by omega)
  have ei1 : nI i + 1 = nI (i + 1) := nI_1 i
  have ej : (nI (i + 1)).toNatClampNeg = i + 1 := nI_clamp (by omega)
  simp only [ei, ei1, ej, hns, hnp]
  refine ⟨fun h => ?_, fun h => ?_⟩
  · have e : Np = i := by have := (nI_leI (a := Np) (b := i) (by omega) (by omega)).mp h; omega
    subst e; exact hNi
  · have hlt : i < Np := by
      rcases Nat.lt_or_ge i Np with q | q
      · exact q
      · exact absurd ((nI_leI (by omega) (by omega)).mpr q) h
    have a := vp_in_nI (n := i) (N := 8) (by omega) (by omega)
    have eg := hNi.e
    generalize hV : zWans Ns Np v i = V at hNi hS eg
    have d1 := zDr_in (V 133)
    have d2 := zDr_in (zDr (V 133))
    have eW0 : zWans Ns Np v (i + 1) = zWan Ns Np i V := by rw [zWans, hV]
    refine ⟨4, ⟨by omega, rfl, by omega, by omega⟩, fun r g2 hr => ?_⟩
    rw [eg] at hr
    have hN1 := CN_seed hNi hr.2
    refine ⟨fun q => ?_, fun q => ⟨a, Ns + 1, ⟨by rw [hr.2]; exact d1.1, nI_1 Ns, by omega, by omega⟩, fun r2 g3 hr2 => ?_⟩⟩
    · have q' : ¬ zDv (zDr (V 133)) 4 = 0 := fun z => q (by rw [← Int32.toInt_inj, hr.1]; exact z)
      refine ⟨⟨i + 1, by omega, rfl, ?_, ?_⟩, by omega⟩
      · rw [eW0]; unfold zWan; rw [if_neg q']; exact hN1
      · rw [eW0]; unfold zWan; rw [if_neg q', uz_eq]; exact d1.1
    · have q' : zDv (zDr (V 133)) 4 = 0 := by have z := hr.1; rw [q] at z; exact z.symm
      rw [hr.2] at hr2
      have ec : ((Ns + 1 : Nat) : Int) = (Ns : Int) + 1 := by omega
      rw [ec] at hr2
      have hN2 : CN Ns Np (uz (uz V 133 (zDr (V 133))) (20 + i) (-1)) ht wm (upd f i (-1)) cd sl od ow lo mi g2 := CN_seat hN1 t2 hlt rfl
      have hN3 := CN_seed hN2 hr2.2
      have dv := zDv_in (s := zDr (zDr (V 133))) (n := (Ns : Int) + 1) d2.1 (by omega)
      have eW : zWan Ns Np i V = uz (uz (uz (uz V 133 (zDr (V 133))) (20 + i) (-1)) 133 (zDr (zDr (V 133)))) (20 + i) (if zDv (zDr (zDr (V 133))) (Ns + 1) < Ns ∧ zFirst (uz (uz (uz V 133 (zDr (V 133))) (20 + i) (-1)) 133 (zDr (zDr (V 133)))) (zDv (zDr (zDr (V 133))) (Ns + 1)).toNat Np = none then zDv (zDr (zDr (V 133))) (Ns + 1) else -1) := by unfold zWan; rw [if_pos q']
      have e20 : uz (uz (uz V 133 (zDr (V 133))) (20 + i) (-1)) 133 (zDr (zDr (V 133))) (20 + i) = -1 := by rw [uz_ne (by omega), uz_eq]
      have e133 : uz (uz (uz V 133 (zDr (V 133))) (20 + i) (-1)) 133 (zDr (zDr (V 133))) 133 = zDr (zDr (V 133)) := by rw [uz_eq]
      generalize uz (uz (uz V 133 (zDr (V 133))) (20 + i) (-1)) 133 (zDr (zDr (V 133))) = U at hN3 eW e20 e133
      generalize zDv (zDr (zDr (V 133))) (Ns + 1) = D at hr2 dv eW
      have hh : (¬ r2 < 0 ∧ ¬ nI Ns ≤ r2) ↔ (0 ≤ r2.toInt ∧ r2.toInt < Ns) := hs_iff rfl (by omega)
      rw [hr2.1] at hh
      have e9 : 0 ≤ zWans Ns Np v (i + 1) 133 := by rw [eW0, eW, uz_ne (by omega), e133]; exact d2.1
      refine ⟨fun n1 => ⟨⟨i + 1, by omega, rfl, ?_, e9⟩, by omega⟩, fun n1 => ?_⟩
      · rw [eW0, eW, if_neg (fun z => n1 (hh.mpr ⟨dv.1, z.1⟩)), uz_same e20.symm]; exact hN3
      · have n2 := hh.mp n1
        obtain ⟨b, hb⟩ : ∃ b : Nat, D = (b : Int) := ⟨D.toNat, by omega⟩
        have er2 : r2 = nI b := by rw [← Int32.toInt_inj, hr2.1, hb, nI_toInt (by omega)]
        have eD : D.toNat = b := by omega
        refine ⟨Ns, Np, U, b, ⟨t2, hN3, er2, by omega⟩, fun r3 hr3 => ⟨fun n3 => ⟨⟨i + 1, by omega, rfl, ?_, e9⟩, by omega⟩, fun n3 => ⟨a, ⟨i + 1, by omega, rfl, ?_, e9⟩, by omega⟩⟩⟩
        · rw [eW0, eW, if_neg (fun z => n3 (hr3.2.mpr (zFirst_none_iff.mp (by rw [← eD]; exact z.2)))), uz_same e20.symm]; exact hN3
        · rw [eW0, eW, if_pos ⟨n2.2, by rw [eD]; exact zFirst_none (hr3.2.mp n3)⟩]
          exact CN_seat hN3 t2 hlt hr2.1
theorem k_X1_moveByDraws (l : Launch) (G : Gt) (n n1 n2 n3 n4 n5 n6 n7 t t1 t2 t3 t4 t5 t6 : Nat) (sz : Nat) (ht : Nat → Int32) (wm : Nat → Int32) (se : Nat → Int32) (cd : Nat → Int32) (sl : Nat → Int32) (od : Nat → Int32) (ow : Nat → Int32) (lo : Int32) (mi : Int32) (sd : Int32) (ns : Int32) (np : Int32) (fu : Int32) (fd : Int32) (fi : Int32) (sz_ : Nat → Int32) (pt : Nat → Int32) (fh : Nat → Int32) (kd : Nat → Int32) (nd : Nat → Int32) (fw : Nat → Int32) (T : Nat → Nat → Int) (Ns : Nat) (Np : Nat) (v : Nat → Int) (hp : TOK T Ns Np ∧ CT T Ns Np ns np fu fd fi sz_ pt kd nd ∧ CN Ns Np v ht wm se cd sl od ow lo mi sd ∧ 0 ≤ v 133 ∧ v 133 < 2147483648) : MetV l yX1_moveByDraws wsX1_moveByDraws 1 22 G [.ref n, .ref t] [(n, .inr (1, [.ref n1, .ref n2, .ref n3, .ref n4, .ref n5, .ref n6, .ref n7, .int lo, .int mi, .int sd])), aI G n1 9 ht, aI G n2 8 wm, aI G n3 8 se, aI G n4 8 cd, aI G n5 8 sl, aI G n6 8 od, aI G n7 72 ow, (t, .inr (6, [.int ns, .int np, .int fu, .int fd, .int fi, .ref t1, .ref t2, .ref t3, .ref t4, .ref t5, .ref t6])), aI G t1 9 sz_, aI G t2 9 pt, aI G t3 9 fh, aI G t4 8 kd, aI G t5 8 nd, aI G t6 8 fw] sz (fun (u : (Nat → Int32) × (Int32)) => CN Ns Np (zWans Ns Np v Np) ht wm u.1 cd sl od ow lo mi u.2) (fun (u : (Nat → Int32) × (Int32)) => [(n, .inr (1, [.ref n1, .ref n2, .ref n3, .ref n4, .ref n5, .ref n6, .ref n7, .int lo, .int mi, .int u.2])), aI G n1 9 ht, aI G n2 8 wm, aI G n3 8 u.1, aI G n4 8 cd, aI G n5 8 sl, aI G n6 8 od, aI G n7 72 ow, (t, .inr (6, [.int ns, .int np, .int fu, .int fd, .int fi, .ref t1, .ref t2, .ref t3, .ref t4, .ref t5, .ref t6])), aI G t1 9 sz_, aI G t2 9 pt, aI G t3 9 fh, aI G t4 8 kd, aI G t5 8 nd, aI G t6 8 fw]) :=
  c_X1_moveByDraws l G n n1 n2 n3 n4 n5 n6 n7 t t1 t2 t3 t4 t5 t6 sz ht wm se cd sl od ow lo mi sd ns np fu fd fi sz_ pt fh kd nd fw T Ns Np v (v_X1_moveByDraws l G n n1 n2 n3 n4 n5 n6 n7 t t1 t2 t3 t4 t5 t6 sz ht wm se cd sl od ow lo mi sd ns np fu fd fi sz_ pt fh kd nd fw T Ns Np v hp)

set_option maxHeartbeats 4000000 in
set_option maxRecDepth 100000 in
theorem c_X1_begin (l : Launch) (G : Gt) (n n1 n2 n3 n4 n5 n6 n7 t t1 t2 t3 t4 t5 t6 : Nat) (sz : Nat) (ht : Nat → Int32) (wm : Nat → Int32) (se : Nat → Int32) (cd : Nat → Int32) (sl : Nat → Int32) (od : Nat → Int32) (ow : Nat → Int32) (lo : Int32) (mi : Int32) (sd : Int32) (ns : Int32) (np : Int32) (fu : Int32) (fd : Int32) (fi : Int32) (sz_ : Nat → Int32) (pt : Nat → Int32) (fh : Nat → Int32) (kd : Nat → Int32) (nd : Nat → Int32) (fw : Nat → Int32) (T : Nat → Nat → Int) (Ns : Nat) (Np : Nat) (hv : ∃ (I2_3 : (Nat → Int32) → Int32 → Prop) (μ2_4 : (Nat → Int32) → Int32 → Nat), I2_3 ht 0 ∧ (∀ (fn1_1 : (Nat → Int32)) (x2_2 : Int32), I2_3 fn1_1 x2_2 → (9 ≤ x2_2 → ∃ (I40_14 : (Nat → Int32) → (Nat → Int32) → (Nat → Int32) → (Nat → Int32) → (Nat → Int32) → Int32 → Prop) (μ40_15 : (Nat → Int32) → (Nat → Int32) → (Nat → Int32) → (Nat → Int32) → (Nat → Int32) → Int32 → Nat), I40_14 wm se cd sl od 0 ∧ (∀ (fn2_8 : (Nat → Int32)) (fn3_9 : (Nat → Int32)) (fn4_10 : (Nat → Int32)) (fn5_11 : (Nat → Int32)) (fn6_12 : (Nat → Int32)) (x2_13 : Int32), I40_14 fn2_8 fn3_9 fn4_10 fn5_11 fn6_12 x2_13 → (8 ≤ x2_13 → ∃ (I106_21 : (Nat → Int32) → Int32 → Prop) (μ106_22 : (Nat → Int32) → Int32 → Nat), I106_21 ow 0 ∧ (∀ (fn7_19 : (Nat → Int32)) (x2_20 : Int32), I106_21 fn7_19 x2_20 → (72 ≤ x2_20 → CN Ns Np (zBeg T sd.toInt) fn1_1 fn2_8 fn3_9 fn4_10 fn5_11 fn6_12 fn7_19 (0 : Int32) (0 : Int32) sd) ∧ (¬ (72 ≤ x2_20) → (vp_in x2_20 72) ∧ (I106_21 (upd fn7_19 x2_20.toNatClampNeg 0) (x2_20 + 1) ∧ μ106_22 (upd fn7_19 x2_20.toNatClampNeg 0) (x2_20 + 1) < μ106_22 fn7_19 x2_20)))) ∧ (¬ (8 ≤ x2_13) → (np ≤ x2_13 → (vp_in x2_13 8) ∧ ((vp_in x2_13 8) ∧ ((vp_in x2_13 8) ∧ ((vp_in x2_13 8) ∧ ((vp_in x2_13 8) ∧ (I40_14 (upd fn2_8 x2_13.toNatClampNeg 0) (upd fn3_9 x2_13.toNatClampNeg (-1)) (upd fn4_10 x2_13.toNatClampNeg 0) (upd fn5_11 x2_13.toNatClampNeg 0) (upd fn6_12 x2_13.toNatClampNeg 0) (x2_13 + 1) ∧ μ40_15 (upd fn2_8 x2_13.toNatClampNeg 0) (upd fn3_9 x2_13.toNatClampNeg (-1)) (upd fn4_10 x2_13.toNatClampNeg 0) (upd fn5_11 x2_13.toNatClampNeg 0) (upd fn6_12 x2_13.toNatClampNeg 0) (x2_13 + 1) < μ40_15 fn2_8 fn3_9 fn4_10 fn5_11 fn6_12 x2_13)))))) ∧ (¬ (np ≤ x2_13) → (vp_in x2_13 8) ∧ ((vp_in x2_13 8) ∧ ((vp_in x2_13 8) ∧ ((vp_in x2_13 8) ∧ ((vp_in x2_13 8) ∧ ((vp_in x2_13 8) ∧ (I40_14 (upd fn2_8 x2_13.toNatClampNeg (fw x2_13.toNatClampNeg)) (upd fn3_9 x2_13.toNatClampNeg (-1)) (upd fn4_10 x2_13.toNatClampNeg 0) (upd fn5_11 x2_13.toNatClampNeg 0) (upd fn6_12 x2_13.toNatClampNeg 0) (x2_13 + 1) ∧ μ40_15 (upd fn2_8 x2_13.toNatClampNeg (fw x2_13.toNatClampNeg)) (upd fn3_9 x2_13.toNatClampNeg (-1)) (upd fn4_10 x2_13.toNatClampNeg 0) (upd fn5_11 x2_13.toNatClampNeg 0) (upd fn6_12 x2_13.toNatClampNeg 0) (x2_13 + 1) < μ40_15 fn2_8 fn3_9 fn4_10 fn5_11 fn6_12 x2_13)))))))))) ∧ (¬ (9 ≤ x2_2) → (ns ≤ x2_2 → (vp_in x2_2 9) ∧ (I2_3 (upd fn1_1 x2_2.toNatClampNeg 0) (x2_2 + 1) ∧ μ2_4 (upd fn1_1 x2_2.toNatClampNeg 0) (x2_2 + 1) < μ2_4 fn1_1 x2_2)) ∧ (¬ (ns ≤ x2_2) → (vp_in x2_2 9) ∧ ((vp_in x2_2 9) ∧ (I2_3 (upd fn1_1 x2_2.toNatClampNeg (fh x2_2.toNatClampNeg)) (x2_2 + 1) ∧ μ2_4 (upd fn1_1 x2_2.toNatClampNeg (fh x2_2.toNatClampNeg)) (x2_2 + 1) < μ2_4 fn1_1 x2_2)))))) : MetV l yX1_begin wsX1_begin 0 0 G [.ref n, .ref t] [(n, .inr (1, [.ref n1, .ref n2, .ref n3, .ref n4, .ref n5, .ref n6, .ref n7, .int lo, .int mi, .int sd])), aI G n1 9 ht, aI G n2 8 wm, aI G n3 8 se, aI G n4 8 cd, aI G n5 8 sl, aI G n6 8 od, aI G n7 72 ow, (t, .inr (6, [.int ns, .int np, .int fu, .int fd, .int fi, .ref t1, .ref t2, .ref t3, .ref t4, .ref t5, .ref t6])), aI G t1 9 sz_, aI G t2 9 pt, aI G t3 9 fh, aI G t4 8 kd, aI G t5 8 nd, aI G t6 8 fw] sz (fun (u : (Nat → Int32) × (Nat → Int32) × (Nat → Int32) × (Nat → Int32) × (Nat → Int32) × (Nat → Int32) × (Nat → Int32) × (Int32) × (Int32)) => CN Ns Np (zBeg T sd.toInt) u.1 u.2.1 u.2.2.1 u.2.2.2.1 u.2.2.2.2.1 u.2.2.2.2.2.1 u.2.2.2.2.2.2.1 u.2.2.2.2.2.2.2.1 u.2.2.2.2.2.2.2.2 sd) (fun (u : (Nat → Int32) × (Nat → Int32) × (Nat → Int32) × (Nat → Int32) × (Nat → Int32) × (Nat → Int32) × (Nat → Int32) × (Int32) × (Int32)) => [(n, .inr (1, [.ref n1, .ref n2, .ref n3, .ref n4, .ref n5, .ref n6, .ref n7, .int u.2.2.2.2.2.2.2.1, .int u.2.2.2.2.2.2.2.2, .int sd])), aI G n1 9 u.1, aI G n2 8 u.2.1, aI G n3 8 u.2.2.1, aI G n4 8 u.2.2.2.1, aI G n5 8 u.2.2.2.2.1, aI G n6 8 u.2.2.2.2.2.1, aI G n7 72 u.2.2.2.2.2.2.1, (t, .inr (6, [.int ns, .int np, .int fu, .int fd, .int fi, .ref t1, .ref t2, .ref t3, .ref t4, .ref t5, .ref t6])), aI G t1 9 sz_, aI G t2 9 pt, aI G t3 9 fh, aI G t4 8 kd, aI G t5 8 nd, aI G t6 8 fw]) := by
  refine x_startV (cc := cX1_begin) (maxL := 3) (ret := none) (by decide) rfl (Nat.le_of_ble_eq_true rfl) ?_
  intro p e s m args below meth c A R Q ls hRf hRl hQ C hP hD hS hA hSS hl
  obtain ⟨hx, hb, hr, hml, hown, hts, hlocks, hKK⟩ := C
  have hown : s.vm.findClass RX1 = some m.cls := hown
  have hl : lv_has ls 3 [(0, .ref n), (1, .ref t)] := hl
  have hinX1 : ∀ w ∈ u_ws RX1 TX1 10, w ∈ wsX1_begin := by decide +kernel
  have hinX6 : ∀ w ∈ u_ws RX6 TX6 11, w ∈ wsX1_begin := by decide +kernel
  have kl15 := hts (.fieldLink RX1 15 "WarmStones$Night" "warmth" "[I") (by decide +kernel)
  have kl18 := hts (.fieldLink RX1 18 "WarmStones$Night" "seat" "[I") (by decide +kernel)
  have kl21 := hts (.fieldLink RX1 21 "WarmStones$Night" "cold" "[I") (by decide +kernel)
  have kl24 := hts (.fieldLink RX1 24 "WarmStones$Night" "stolen" "[I") (by decide +kernel)
  have kl27 := hts (.fieldLink RX1 27 "WarmStones$Night" "owed" "[I") (by decide +kernel)
  have kl30 := hts (.fieldLink RX1 30 "WarmStones$Night" "owned" "[I") (by decide +kernel)
  have kl33 := hts (.fieldLink RX1 33 "WarmStones$Town" "stones" "I") (by decide +kernel)
  have kl39 := hts (.fieldLink RX1 39 "WarmStones$Town" "firstHeat" "[I") (by decide +kernel)
  have kl42 := hts (.fieldLink RX1 42 "WarmStones$Town" "persons" "I") (by decide +kernel)
  have kl45 := hts (.fieldLink RX1 45 "WarmStones$Town" "firstWarmth" "[I") (by decide +kernel)
  have kl48 := hts (.fieldLink RX1 48 "WarmStones$Night" "lost" "I") (by decide +kernel)
  have kl51 := hts (.fieldLink RX1 51 "WarmStones$Night" "minute" "I") (by decide +kernel)
  have kl9 := hts (.fieldLink RX1 9 "WarmStones$Night" "heat" "[I") (by decide +kernel)
  refine lv_iconst (v := 0) hx hb dX1_begin_0 (by decide) ?_
  refine lv_istore_n (lv' := [(2, .int 0), (0, .ref n), (1, .ref t)]) hx hb dX1_begin_1 rfl hl (by decide) rfl (fun ls hl => ?_)
  obtain ⟨I2_3, μ2_4, hi0, hs_34⟩ := hv
  have Lm_36 : ∀ (n_35 : Nat) (fn1_1 : (Nat → Int32)) (x2_2 : Int32) (H : Heap) (locs : List Loc) (ls : Array Slot), μ2_4 fn1_1 x2_2 < n_35 → I2_3 fn1_1 x2_2 → va_P G.1 vwCl [(n, .inr (1, [.ref n1, .ref n2, .ref n3, .ref n4, .ref n5, .ref n6, .ref n7, .int lo, .int mi, .int sd])), aI G n1 9 fn1_1, aI G n2 8 wm, aI G n3 8 se, aI G n4 8 cd, aI G n5 8 sl, aI G n6 8 od, aI G n7 72 ow, (t, .inr (6, [.int ns, .int np, .int fu, .int fd, .int fi, .ref t1, .ref t2, .ref t3, .ref t4, .ref t5, .ref t6])), aI G t1 9 sz_, aI G t2 9 pt, aI G t3 9 fh, aI G t4 8 kd, aI G t5 8 nd, aI G t6 8 fw] H → va_D A [(n, .inr (1, [.ref n1, .ref n2, .ref n3, .ref n4, .ref n5, .ref n6, .ref n7, .int lo, .int mi, .int sd])), aI G n1 9 fn1_1, aI G n2 8 wm, aI G n3 8 se, aI G n4 8 cd, aI G n5 8 sl, aI G n6 8 od, aI G n7 72 ow, (t, .inr (6, [.int ns, .int np, .int fu, .int fd, .int fi, .ref t1, .ref t2, .ref t3, .ref t4, .ref t5, .ref t6])), aI G t1 9 sz_, aI G t2 9 pt, aI G t3 9 fh, aI G t4 8 kd, aI G t5 8 nd, aI G t6 8 fw] → va_S A s.heap H locs → lv_has ls 3 [(2, .int x2_2), (0, .ref n), (1, .ref t)] → W p l e R s m args below meth c H locs 0 0 Q (F0 m 2 ls []) := by
    intro n_35
    induction n_35 with
    | zero => intro fn1_1 x2_2 H locs ls hm; exact absurd hm (Nat.not_lt_zero _)
    | succ n_35 ih_5 =>
      intro fn1_1 x2_2 H locs ls hI_6 hi hP hD hS hl
      have hv := hs_34 fn1_1 x2_2 hi
      refine lv_iload_n hx hb dX1_begin_2 rfl (lv_at hl 0 rfl) ?_
      refine lv_bipush (v := 9) hx hb dX1_begin_3 (by decide) ?_
      refine lv_icmp_ge (tgt := 38) hx hb dX1_begin_5 (by decide) (fun hc_7 => ?_) (fun hc_7 => ?_)
      · have hv := hv.1 hc_7
        refine lv_iconst (v := 0) hx hb dX1_begin_38 (by decide) ?_
        refine lv_istore_n (lv' := [(2, .int 0), (0, .ref n), (1, .ref t)]) hx hb dX1_begin_39 rfl hl (by decide) rfl (fun ls hl => ?_)
        obtain ⟨I40_14, μ40_15, hi0, hs_30⟩ := hv
        have Lm_32 : ∀ (n_31 : Nat) (fn2_8 : (Nat → Int32)) (fn3_9 : (Nat → Int32)) (fn4_10 : (Nat → Int32)) (fn5_11 : (Nat → Int32)) (fn6_12 : (Nat → Int32)) (x2_13 : Int32) (H : Heap) (locs : List Loc) (ls : Array Slot), μ40_15 fn2_8 fn3_9 fn4_10 fn5_11 fn6_12 x2_13 < n_31 → I40_14 fn2_8 fn3_9 fn4_10 fn5_11 fn6_12 x2_13 → va_P G.1 vwCl [(n, .inr (1, [.ref n1, .ref n2, .ref n3, .ref n4, .ref n5, .ref n6, .ref n7, .int lo, .int mi, .int sd])), aI G n1 9 fn1_1, aI G n2 8 fn2_8, aI G n3 8 fn3_9, aI G n4 8 fn4_10, aI G n5 8 fn5_11, aI G n6 8 fn6_12, aI G n7 72 ow, (t, .inr (6, [.int ns, .int np, .int fu, .int fd, .int fi, .ref t1, .ref t2, .ref t3, .ref t4, .ref t5, .ref t6])), aI G t1 9 sz_, aI G t2 9 pt, aI G t3 9 fh, aI G t4 8 kd, aI G t5 8 nd, aI G t6 8 fw] H → va_D A [(n, .inr (1, [.ref n1, .ref n2, .ref n3, .ref n4, .ref n5, .ref n6, .ref n7, .int lo, .int mi, .int sd])), aI G n1 9 fn1_1, aI G n2 8 fn2_8, aI G n3 8 fn3_9, aI G n4 8 fn4_10, aI G n5 8 fn5_11, aI G n6 8 fn6_12, aI G n7 72 ow, (t, .inr (6, [.int ns, .int np, .int fu, .int fd, .int fi, .ref t1, .ref t2, .ref t3, .ref t4, .ref t5, .ref t6])), aI G t1 9 sz_, aI G t2 9 pt, aI G t3 9 fh, aI G t4 8 kd, aI G t5 8 nd, aI G t6 8 fw] → va_S A s.heap H locs → lv_has ls 3 [(2, .int x2_13), (0, .ref n), (1, .ref t)] → W p l e R s m args below meth c H locs 0 0 Q (F0 m 40 ls []) := by
          intro n_31
          induction n_31 with
          | zero => intro fn2_8 fn3_9 fn4_10 fn5_11 fn6_12 x2_13 H locs ls hm; exact absurd hm (Nat.not_lt_zero _)
          | succ n_31 ih_16 =>
            intro fn2_8 fn3_9 fn4_10 fn5_11 fn6_12 x2_13 H locs ls hI_17 hi hP hD hS hl
            have hv := hs_30 fn2_8 fn3_9 fn4_10 fn5_11 fn6_12 x2_13 hi
            refine lv_iload_n hx hb dX1_begin_40 rfl (lv_at hl 0 rfl) ?_
            refine lv_bipush (v := 8) hx hb dX1_begin_41 (by decide) ?_
            refine lv_icmp_ge (tgt := 104) hx hb dX1_begin_43 (by decide) (fun hc_18 => ?_) (fun hc_18 => ?_)
            · have hv := hv.1 hc_18
              refine lv_iconst (v := 0) hx hb dX1_begin_104 (by decide) ?_
              refine lv_istore_n (lv' := [(2, .int 0), (0, .ref n), (1, .ref t)]) hx hb dX1_begin_105 rfl hl (by decide) rfl (fun ls hl => ?_)
              obtain ⟨I106_21, μ106_22, hi0, hs_26⟩ := hv
              have Lm_28 : ∀ (n_27 : Nat) (fn7_19 : (Nat → Int32)) (x2_20 : Int32) (H : Heap) (locs : List Loc) (ls : Array Slot), μ106_22 fn7_19 x2_20 < n_27 → I106_21 fn7_19 x2_20 → va_P G.1 vwCl [(n, .inr (1, [.ref n1, .ref n2, .ref n3, .ref n4, .ref n5, .ref n6, .ref n7, .int lo, .int mi, .int sd])), aI G n1 9 fn1_1, aI G n2 8 fn2_8, aI G n3 8 fn3_9, aI G n4 8 fn4_10, aI G n5 8 fn5_11, aI G n6 8 fn6_12, aI G n7 72 fn7_19, (t, .inr (6, [.int ns, .int np, .int fu, .int fd, .int fi, .ref t1, .ref t2, .ref t3, .ref t4, .ref t5, .ref t6])), aI G t1 9 sz_, aI G t2 9 pt, aI G t3 9 fh, aI G t4 8 kd, aI G t5 8 nd, aI G t6 8 fw] H → va_D A [(n, .inr (1, [.ref n1, .ref n2, .ref n3, .ref n4, .ref n5, .ref n6, .ref n7, .int lo, .int mi, .int sd])), aI G n1 9 fn1_1, aI G n2 8 fn2_8, aI G n3 8 fn3_9, aI G n4 8 fn4_10, aI G n5 8 fn5_11, aI G n6 8 fn6_12, aI G n7 72 fn7_19, (t, .inr (6, [.int ns, .int np, .int fu, .int fd, .int fi, .ref t1, .ref t2, .ref t3, .ref t4, .ref t5, .ref t6])), aI G t1 9 sz_, aI G t2 9 pt, aI G t3 9 fh, aI G t4 8 kd, aI G t5 8 nd, aI G t6 8 fw] → va_S A s.heap H locs → lv_has ls 3 [(2, .int x2_20), (0, .ref n), (1, .ref t)] → W p l e R s m args below meth c H locs 0 0 Q (F0 m 106 ls []) := by
                intro n_27
                induction n_27 with
                | zero => intro fn7_19 x2_20 H locs ls hm; exact absurd hm (Nat.not_lt_zero _)
                | succ n_27 ih_23 =>
                  intro fn7_19 x2_20 H locs ls hI_24 hi hP hD hS hl
                  have hv := hs_26 fn7_19 x2_20 hi
                  refine lv_iload_n hx hb dX1_begin_106 rfl (lv_at hl 0 rfl) ?_
                  refine lv_aload_n hx hb dX1_begin_107 rfl (lv_at hl 1 rfl) ?_
                  refine va_get (D := G.1) (ci := 1) (v := .ref n7) (C := RX1) (T := TX1) (N := 10) hx hb hts hinX1 hown hKK.1 hP 0 rfl rfl 6 (by decide) kl30 (fun _ h9 => h9) rfl dX1_begin_108 ?_
                  refine va_alen (v := 72) hx hb hKK.1 hP 7 0 rfl rfl rfl dX1_begin_111 ?_
                  refine lv_icmp_ge (tgt := 128) hx hb dX1_begin_112 (by decide) (fun hc_25 => ?_) (fun hc_25 => ?_)
                  · have hv := hv.1 hc_25
                    refine lv_aload_n hx hb dX1_begin_128 rfl (lv_at hl 1 rfl) ?_
                    refine lv_iconst (v := 0) hx hb dX1_begin_129 (by decide) ?_
                    refine va_put (D := G.1) (ci := 1) (v := .int 0) (ty := .int) (C := RX1) (T := TX1) (N := 10) hx hb hts hinX1 tyX1 tyX1_ok nmX1 hown hKK.1 hP hD hS 0 rfl rfl 7 (by decide) kl48 (fun _ h9 => h9) rfl (by decide +kernel) rfl rfl (Nat.le_of_ble_eq_true rfl) dX1_begin_130 (fun H locs hP hD hS => ?_)
                    have hP : va_P G.1 vwCl [(n, .inr (1, [.ref n1, .ref n2, .ref n3, .ref n4, .ref n5, .ref n6, .ref n7, .int 0, .int mi, .int sd])), aI G n1 9 fn1_1, aI G n2 8 fn2_8, aI G n3 8 fn3_9, aI G n4 8 fn4_10, aI G n5 8 fn5_11, aI G n6 8 fn6_12, aI G n7 72 fn7_19, (t, .inr (6, [.int ns, .int np, .int fu, .int fd, .int fi, .ref t1, .ref t2, .ref t3, .ref t4, .ref t5, .ref t6])), aI G t1 9 sz_, aI G t2 9 pt, aI G t3 9 fh, aI G t4 8 kd, aI G t5 8 nd, aI G t6 8 fw] H := hP
                    have hD : va_D A [(n, .inr (1, [.ref n1, .ref n2, .ref n3, .ref n4, .ref n5, .ref n6, .ref n7, .int 0, .int mi, .int sd])), aI G n1 9 fn1_1, aI G n2 8 fn2_8, aI G n3 8 fn3_9, aI G n4 8 fn4_10, aI G n5 8 fn5_11, aI G n6 8 fn6_12, aI G n7 72 fn7_19, (t, .inr (6, [.int ns, .int np, .int fu, .int fd, .int fi, .ref t1, .ref t2, .ref t3, .ref t4, .ref t5, .ref t6])), aI G t1 9 sz_, aI G t2 9 pt, aI G t3 9 fh, aI G t4 8 kd, aI G t5 8 nd, aI G t6 8 fw] := hD
                    refine lv_aload_n hx hb dX1_begin_133 rfl (lv_at hl 1 rfl) ?_
                    refine lv_iconst (v := 0) hx hb dX1_begin_134 (by decide) ?_
                    refine va_put (D := G.1) (ci := 1) (v := .int 0) (ty := .int) (C := RX1) (T := TX1) (N := 10) hx hb hts hinX1 tyX1 tyX1_ok nmX1 hown hKK.1 hP hD hS 0 rfl rfl 8 (by decide) kl51 (fun _ h9 => h9) rfl (by decide +kernel) rfl rfl (Nat.le_of_ble_eq_true rfl) dX1_begin_135 (fun H locs hP hD hS => ?_)
                    have hP : va_P G.1 vwCl [(n, .inr (1, [.ref n1, .ref n2, .ref n3, .ref n4, .ref n5, .ref n6, .ref n7, .int 0, .int 0, .int sd])), aI G n1 9 fn1_1, aI G n2 8 fn2_8, aI G n3 8 fn3_9, aI G n4 8 fn4_10, aI G n5 8 fn5_11, aI G n6 8 fn6_12, aI G n7 72 fn7_19, (t, .inr (6, [.int ns, .int np, .int fu, .int fd, .int fi, .ref t1, .ref t2, .ref t3, .ref t4, .ref t5, .ref t6])), aI G t1 9 sz_, aI G t2 9 pt, aI G t3 9 fh, aI G t4 8 kd, aI G t5 8 nd, aI G t6 8 fw] H := hP
                    have hD : va_D A [(n, .inr (1, [.ref n1, .ref n2, .ref n3, .ref n4, .ref n5, .ref n6, .ref n7, .int 0, .int 0, .int sd])), aI G n1 9 fn1_1, aI G n2 8 fn2_8, aI G n3 8 fn3_9, aI G n4 8 fn4_10, aI G n5 8 fn5_11, aI G n6 8 fn6_12, aI G n7 72 fn7_19, (t, .inr (6, [.int ns, .int np, .int fu, .int fd, .int fi, .ref t1, .ref t2, .ref t3, .ref t4, .ref t5, .ref t6])), aI G t1 9 sz_, aI G t2 9 pt, aI G t3 9 fh, aI G t4 8 kd, aI G t5 8 nd, aI G t6 8 fw] := hD
                    exact x_vret (fn1_1, fn2_8, fn3_9, fn4_10, fn5_11, fn6_12, fn7_19, 0, 0) hQ hx hb hr hlocks hS dX1_begin_138 hv hP hD
                  · have hv := hv.2 hc_25
                    refine lv_aload_n hx hb dX1_begin_115 rfl (lv_at hl 1 rfl) ?_
                    refine va_get (D := G.1) (ci := 1) (v := .ref n7) (C := RX1) (T := TX1) (N := 10) hx hb hts hinX1 hown hKK.1 hP 0 rfl rfl 6 (by decide) kl30 (fun _ h9 => h9) rfl dX1_begin_116 ?_
                    refine lv_iload_n hx hb dX1_begin_119 rfl (lv_at hl 0 rfl) ?_
                    refine lv_iconst (v := 0) hx hb dX1_begin_120 (by decide) ?_
                    obtain ⟨hin, hv⟩ := hv
                    refine va_iast hx hb hKK.1 hP hD hS 7 0 rfl rfl hin dX1_begin_121 (fun H locs hP hD hS => ?_)
                    have hP : va_P G.1 vwCl [(n, .inr (1, [.ref n1, .ref n2, .ref n3, .ref n4, .ref n5, .ref n6, .ref n7, .int lo, .int mi, .int sd])), aI G n1 9 fn1_1, aI G n2 8 fn2_8, aI G n3 8 fn3_9, aI G n4 8 fn4_10, aI G n5 8 fn5_11, aI G n6 8 fn6_12, aI G n7 72 (upd fn7_19 x2_20.toNatClampNeg 0), (t, .inr (6, [.int ns, .int np, .int fu, .int fd, .int fi, .ref t1, .ref t2, .ref t3, .ref t4, .ref t5, .ref t6])), aI G t1 9 sz_, aI G t2 9 pt, aI G t3 9 fh, aI G t4 8 kd, aI G t5 8 nd, aI G t6 8 fw] H := hP
                    have hD : va_D A [(n, .inr (1, [.ref n1, .ref n2, .ref n3, .ref n4, .ref n5, .ref n6, .ref n7, .int lo, .int mi, .int sd])), aI G n1 9 fn1_1, aI G n2 8 fn2_8, aI G n3 8 fn3_9, aI G n4 8 fn4_10, aI G n5 8 fn5_11, aI G n6 8 fn6_12, aI G n7 72 (upd fn7_19 x2_20.toNatClampNeg 0), (t, .inr (6, [.int ns, .int np, .int fu, .int fd, .int fi, .ref t1, .ref t2, .ref t3, .ref t4, .ref t5, .ref t6])), aI G t1 9 sz_, aI G t2 9 pt, aI G t3 9 fh, aI G t4 8 kd, aI G t5 8 nd, aI G t6 8 fw] := hD
                    refine lv_iinc (v := (x2_20 + 1)) (lv' := [(2, .int (x2_20 + 1)), (0, .ref n), (1, .ref t)]) hx hb dX1_begin_122 hl (k := 0) rfl rfl (by decide) rfl (fun ls hl => ?_)
                    refine lv_goto (tgt := 106) hx hb dX1_begin_125 (by decide) ?_
                    exact ih_23 _ _ _ _ _ (Nat.lt_of_lt_of_le hv.2 (Nat.le_of_lt_succ hI_24)) hv.1 hP hD hS hl
              exact Lm_28 _ _ _ _ _ _ (Nat.lt_succ_self _) hi0 hP hD hS hl
            · have hv := hv.2 hc_18
              refine lv_aload_n hx hb dX1_begin_46 rfl (lv_at hl 1 rfl) ?_
              refine va_get (D := G.1) (ci := 1) (v := .ref n2) (C := RX1) (T := TX1) (N := 10) hx hb hts hinX1 hown hKK.1 hP 0 rfl rfl 1 (by decide) kl15 (fun _ h9 => h9) rfl dX1_begin_47 ?_
              refine lv_iload_n hx hb dX1_begin_50 rfl (lv_at hl 0 rfl) ?_
              refine lv_iload_n hx hb dX1_begin_51 rfl (lv_at hl 0 rfl) ?_
              refine lv_aload_n hx hb dX1_begin_52 rfl (lv_at hl 2 rfl) ?_
              refine va_get (D := G.1) (ci := 6) (v := .int np) (C := RX6) (T := TX6) (N := 11) hx hb hts hinX6 hown hKK.1 hP 8 rfl rfl 1 (by decide) kl42 (fun _ h9 => h9) rfl dX1_begin_53 ?_
              refine lv_icmp_ge (tgt := 68) hx hb dX1_begin_56 (by decide) (fun hc_29 => ?_) (fun hc_29 => ?_)
              · have hv := hv.1 hc_29
                refine lv_iconst (v := 0) hx hb dX1_begin_68 (by decide) ?_
                obtain ⟨hin, hv⟩ := hv
                refine va_iast hx hb hKK.1 hP hD hS 2 0 rfl rfl hin dX1_begin_69 (fun H locs hP hD hS => ?_)
                have hP : va_P G.1 vwCl [(n, .inr (1, [.ref n1, .ref n2, .ref n3, .ref n4, .ref n5, .ref n6, .ref n7, .int lo, .int mi, .int sd])), aI G n1 9 fn1_1, aI G n2 8 (upd fn2_8 x2_13.toNatClampNeg 0), aI G n3 8 fn3_9, aI G n4 8 fn4_10, aI G n5 8 fn5_11, aI G n6 8 fn6_12, aI G n7 72 ow, (t, .inr (6, [.int ns, .int np, .int fu, .int fd, .int fi, .ref t1, .ref t2, .ref t3, .ref t4, .ref t5, .ref t6])), aI G t1 9 sz_, aI G t2 9 pt, aI G t3 9 fh, aI G t4 8 kd, aI G t5 8 nd, aI G t6 8 fw] H := hP
                have hD : va_D A [(n, .inr (1, [.ref n1, .ref n2, .ref n3, .ref n4, .ref n5, .ref n6, .ref n7, .int lo, .int mi, .int sd])), aI G n1 9 fn1_1, aI G n2 8 (upd fn2_8 x2_13.toNatClampNeg 0), aI G n3 8 fn3_9, aI G n4 8 fn4_10, aI G n5 8 fn5_11, aI G n6 8 fn6_12, aI G n7 72 ow, (t, .inr (6, [.int ns, .int np, .int fu, .int fd, .int fi, .ref t1, .ref t2, .ref t3, .ref t4, .ref t5, .ref t6])), aI G t1 9 sz_, aI G t2 9 pt, aI G t3 9 fh, aI G t4 8 kd, aI G t5 8 nd, aI G t6 8 fw] := hD
                refine lv_aload_n hx hb dX1_begin_70 rfl (lv_at hl 1 rfl) ?_
                refine va_get (D := G.1) (ci := 1) (v := .ref n3) (C := RX1) (T := TX1) (N := 10) hx hb hts hinX1 hown hKK.1 hP 0 rfl rfl 2 (by decide) kl18 (fun _ h9 => h9) rfl dX1_begin_71 ?_
                refine lv_iload_n hx hb dX1_begin_74 rfl (lv_at hl 0 rfl) ?_
                refine lv_iconst (v := (-1)) hx hb dX1_begin_75 (by decide) ?_
                obtain ⟨hin, hv⟩ := hv
                refine va_iast hx hb hKK.1 hP hD hS 3 0 rfl rfl hin dX1_begin_76 (fun H locs hP hD hS => ?_)
                have hP : va_P G.1 vwCl [(n, .inr (1, [.ref n1, .ref n2, .ref n3, .ref n4, .ref n5, .ref n6, .ref n7, .int lo, .int mi, .int sd])), aI G n1 9 fn1_1, aI G n2 8 (upd fn2_8 x2_13.toNatClampNeg 0), aI G n3 8 (upd fn3_9 x2_13.toNatClampNeg (-1)), aI G n4 8 fn4_10, aI G n5 8 fn5_11, aI G n6 8 fn6_12, aI G n7 72 ow, (t, .inr (6, [.int ns, .int np, .int fu, .int fd, .int fi, .ref t1, .ref t2, .ref t3, .ref t4, .ref t5, .ref t6])), aI G t1 9 sz_, aI G t2 9 pt, aI G t3 9 fh, aI G t4 8 kd, aI G t5 8 nd, aI G t6 8 fw] H := hP
                have hD : va_D A [(n, .inr (1, [.ref n1, .ref n2, .ref n3, .ref n4, .ref n5, .ref n6, .ref n7, .int lo, .int mi, .int sd])), aI G n1 9 fn1_1, aI G n2 8 (upd fn2_8 x2_13.toNatClampNeg 0), aI G n3 8 (upd fn3_9 x2_13.toNatClampNeg (-1)), aI G n4 8 fn4_10, aI G n5 8 fn5_11, aI G n6 8 fn6_12, aI G n7 72 ow, (t, .inr (6, [.int ns, .int np, .int fu, .int fd, .int fi, .ref t1, .ref t2, .ref t3, .ref t4, .ref t5, .ref t6])), aI G t1 9 sz_, aI G t2 9 pt, aI G t3 9 fh, aI G t4 8 kd, aI G t5 8 nd, aI G t6 8 fw] := hD
                refine lv_aload_n hx hb dX1_begin_77 rfl (lv_at hl 1 rfl) ?_
                refine va_get (D := G.1) (ci := 1) (v := .ref n4) (C := RX1) (T := TX1) (N := 10) hx hb hts hinX1 hown hKK.1 hP 0 rfl rfl 3 (by decide) kl21 (fun _ h9 => h9) rfl dX1_begin_78 ?_
                refine lv_iload_n hx hb dX1_begin_81 rfl (lv_at hl 0 rfl) ?_
                refine lv_iconst (v := 0) hx hb dX1_begin_82 (by decide) ?_
                obtain ⟨hin, hv⟩ := hv
                refine va_iast hx hb hKK.1 hP hD hS 4 0 rfl rfl hin dX1_begin_83 (fun H locs hP hD hS => ?_)
                have hP : va_P G.1 vwCl [(n, .inr (1, [.ref n1, .ref n2, .ref n3, .ref n4, .ref n5, .ref n6, .ref n7, .int lo, .int mi, .int sd])), aI G n1 9 fn1_1, aI G n2 8 (upd fn2_8 x2_13.toNatClampNeg 0), aI G n3 8 (upd fn3_9 x2_13.toNatClampNeg (-1)), aI G n4 8 (upd fn4_10 x2_13.toNatClampNeg 0), aI G n5 8 fn5_11, aI G n6 8 fn6_12, aI G n7 72 ow, (t, .inr (6, [.int ns, .int np, .int fu, .int fd, .int fi, .ref t1, .ref t2, .ref t3, .ref t4, .ref t5, .ref t6])), aI G t1 9 sz_, aI G t2 9 pt, aI G t3 9 fh, aI G t4 8 kd, aI G t5 8 nd, aI G t6 8 fw] H := hP
                have hD : va_D A [(n, .inr (1, [.ref n1, .ref n2, .ref n3, .ref n4, .ref n5, .ref n6, .ref n7, .int lo, .int mi, .int sd])), aI G n1 9 fn1_1, aI G n2 8 (upd fn2_8 x2_13.toNatClampNeg 0), aI G n3 8 (upd fn3_9 x2_13.toNatClampNeg (-1)), aI G n4 8 (upd fn4_10 x2_13.toNatClampNeg 0), aI G n5 8 fn5_11, aI G n6 8 fn6_12, aI G n7 72 ow, (t, .inr (6, [.int ns, .int np, .int fu, .int fd, .int fi, .ref t1, .ref t2, .ref t3, .ref t4, .ref t5, .ref t6])), aI G t1 9 sz_, aI G t2 9 pt, aI G t3 9 fh, aI G t4 8 kd, aI G t5 8 nd, aI G t6 8 fw] := hD
                refine lv_aload_n hx hb dX1_begin_84 rfl (lv_at hl 1 rfl) ?_
                refine va_get (D := G.1) (ci := 1) (v := .ref n5) (C := RX1) (T := TX1) (N := 10) hx hb hts hinX1 hown hKK.1 hP 0 rfl rfl 4 (by decide) kl24 (fun _ h9 => h9) rfl dX1_begin_85 ?_
                refine lv_iload_n hx hb dX1_begin_88 rfl (lv_at hl 0 rfl) ?_
                refine lv_iconst (v := 0) hx hb dX1_begin_89 (by decide) ?_
                obtain ⟨hin, hv⟩ := hv
                refine va_iast hx hb hKK.1 hP hD hS 5 0 rfl rfl hin dX1_begin_90 (fun H locs hP hD hS => ?_)
                have hP : va_P G.1 vwCl [(n, .inr (1, [.ref n1, .ref n2, .ref n3, .ref n4, .ref n5, .ref n6, .ref n7, .int lo, .int mi, .int sd])), aI G n1 9 fn1_1, aI G n2 8 (upd fn2_8 x2_13.toNatClampNeg 0), aI G n3 8 (upd fn3_9 x2_13.toNatClampNeg (-1)), aI G n4 8 (upd fn4_10 x2_13.toNatClampNeg 0), aI G n5 8 (upd fn5_11 x2_13.toNatClampNeg 0), aI G n6 8 fn6_12, aI G n7 72 ow, (t, .inr (6, [.int ns, .int np, .int fu, .int fd, .int fi, .ref t1, .ref t2, .ref t3, .ref t4, .ref t5, .ref t6])), aI G t1 9 sz_, aI G t2 9 pt, aI G t3 9 fh, aI G t4 8 kd, aI G t5 8 nd, aI G t6 8 fw] H := hP
                have hD : va_D A [(n, .inr (1, [.ref n1, .ref n2, .ref n3, .ref n4, .ref n5, .ref n6, .ref n7, .int lo, .int mi, .int sd])), aI G n1 9 fn1_1, aI G n2 8 (upd fn2_8 x2_13.toNatClampNeg 0), aI G n3 8 (upd fn3_9 x2_13.toNatClampNeg (-1)), aI G n4 8 (upd fn4_10 x2_13.toNatClampNeg 0), aI G n5 8 (upd fn5_11 x2_13.toNatClampNeg 0), aI G n6 8 fn6_12, aI G n7 72 ow, (t, .inr (6, [.int ns, .int np, .int fu, .int fd, .int fi, .ref t1, .ref t2, .ref t3, .ref t4, .ref t5, .ref t6])), aI G t1 9 sz_, aI G t2 9 pt, aI G t3 9 fh, aI G t4 8 kd, aI G t5 8 nd, aI G t6 8 fw] := hD
                refine lv_aload_n hx hb dX1_begin_91 rfl (lv_at hl 1 rfl) ?_
                refine va_get (D := G.1) (ci := 1) (v := .ref n6) (C := RX1) (T := TX1) (N := 10) hx hb hts hinX1 hown hKK.1 hP 0 rfl rfl 5 (by decide) kl27 (fun _ h9 => h9) rfl dX1_begin_92 ?_
                refine lv_iload_n hx hb dX1_begin_95 rfl (lv_at hl 0 rfl) ?_
                refine lv_iconst (v := 0) hx hb dX1_begin_96 (by decide) ?_
                obtain ⟨hin, hv⟩ := hv
                refine va_iast hx hb hKK.1 hP hD hS 6 0 rfl rfl hin dX1_begin_97 (fun H locs hP hD hS => ?_)
                have hP : va_P G.1 vwCl [(n, .inr (1, [.ref n1, .ref n2, .ref n3, .ref n4, .ref n5, .ref n6, .ref n7, .int lo, .int mi, .int sd])), aI G n1 9 fn1_1, aI G n2 8 (upd fn2_8 x2_13.toNatClampNeg 0), aI G n3 8 (upd fn3_9 x2_13.toNatClampNeg (-1)), aI G n4 8 (upd fn4_10 x2_13.toNatClampNeg 0), aI G n5 8 (upd fn5_11 x2_13.toNatClampNeg 0), aI G n6 8 (upd fn6_12 x2_13.toNatClampNeg 0), aI G n7 72 ow, (t, .inr (6, [.int ns, .int np, .int fu, .int fd, .int fi, .ref t1, .ref t2, .ref t3, .ref t4, .ref t5, .ref t6])), aI G t1 9 sz_, aI G t2 9 pt, aI G t3 9 fh, aI G t4 8 kd, aI G t5 8 nd, aI G t6 8 fw] H := hP
                have hD : va_D A [(n, .inr (1, [.ref n1, .ref n2, .ref n3, .ref n4, .ref n5, .ref n6, .ref n7, .int lo, .int mi, .int sd])), aI G n1 9 fn1_1, aI G n2 8 (upd fn2_8 x2_13.toNatClampNeg 0), aI G n3 8 (upd fn3_9 x2_13.toNatClampNeg (-1)), aI G n4 8 (upd fn4_10 x2_13.toNatClampNeg 0), aI G n5 8 (upd fn5_11 x2_13.toNatClampNeg 0), aI G n6 8 (upd fn6_12 x2_13.toNatClampNeg 0), aI G n7 72 ow, (t, .inr (6, [.int ns, .int np, .int fu, .int fd, .int fi, .ref t1, .ref t2, .ref t3, .ref t4, .ref t5, .ref t6])), aI G t1 9 sz_, aI G t2 9 pt, aI G t3 9 fh, aI G t4 8 kd, aI G t5 8 nd, aI G t6 8 fw] := hD
                refine lv_iinc (v := (x2_13 + 1)) (lv' := [(2, .int (x2_13 + 1)), (0, .ref n), (1, .ref t)]) hx hb dX1_begin_98 hl (k := 0) rfl rfl (by decide) rfl (fun ls hl => ?_)
                refine lv_goto (tgt := 40) hx hb dX1_begin_101 (by decide) ?_
                exact ih_16 _ _ _ _ _ _ _ _ _ (Nat.lt_of_lt_of_le hv.2 (Nat.le_of_lt_succ hI_17)) hv.1 hP hD hS hl
              · have hv := hv.2 hc_29
                refine lv_aload_n hx hb dX1_begin_59 rfl (lv_at hl 2 rfl) ?_
                refine va_get (D := G.1) (ci := 6) (v := .ref t6) (C := RX6) (T := TX6) (N := 11) hx hb hts hinX6 hown hKK.1 hP 8 rfl rfl 10 (by decide) kl45 (fun _ h9 => h9) rfl dX1_begin_60 ?_
                refine lv_iload_n hx hb dX1_begin_63 rfl (lv_at hl 0 rfl) ?_
                obtain ⟨hin, hv⟩ := hv
                refine va_iald hx hb hKK.1 hP 14 0 rfl rfl hin dX1_begin_64 ?_
                refine lv_goto (tgt := 69) hx hb dX1_begin_65 (by decide) ?_
                obtain ⟨hin, hv⟩ := hv
                refine va_iast hx hb hKK.1 hP hD hS 2 0 rfl rfl hin dX1_begin_69 (fun H locs hP hD hS => ?_)
                have hP : va_P G.1 vwCl [(n, .inr (1, [.ref n1, .ref n2, .ref n3, .ref n4, .ref n5, .ref n6, .ref n7, .int lo, .int mi, .int sd])), aI G n1 9 fn1_1, aI G n2 8 (upd fn2_8 x2_13.toNatClampNeg (fw x2_13.toNatClampNeg)), aI G n3 8 fn3_9, aI G n4 8 fn4_10, aI G n5 8 fn5_11, aI G n6 8 fn6_12, aI G n7 72 ow, (t, .inr (6, [.int ns, .int np, .int fu, .int fd, .int fi, .ref t1, .ref t2, .ref t3, .ref t4, .ref t5, .ref t6])), aI G t1 9 sz_, aI G t2 9 pt, aI G t3 9 fh, aI G t4 8 kd, aI G t5 8 nd, aI G t6 8 fw] H := hP
                have hD : va_D A [(n, .inr (1, [.ref n1, .ref n2, .ref n3, .ref n4, .ref n5, .ref n6, .ref n7, .int lo, .int mi, .int sd])), aI G n1 9 fn1_1, aI G n2 8 (upd fn2_8 x2_13.toNatClampNeg (fw x2_13.toNatClampNeg)), aI G n3 8 fn3_9, aI G n4 8 fn4_10, aI G n5 8 fn5_11, aI G n6 8 fn6_12, aI G n7 72 ow, (t, .inr (6, [.int ns, .int np, .int fu, .int fd, .int fi, .ref t1, .ref t2, .ref t3, .ref t4, .ref t5, .ref t6])), aI G t1 9 sz_, aI G t2 9 pt, aI G t3 9 fh, aI G t4 8 kd, aI G t5 8 nd, aI G t6 8 fw] := hD
                refine lv_aload_n hx hb dX1_begin_70 rfl (lv_at hl 1 rfl) ?_
                refine va_get (D := G.1) (ci := 1) (v := .ref n3) (C := RX1) (T := TX1) (N := 10) hx hb hts hinX1 hown hKK.1 hP 0 rfl rfl 2 (by decide) kl18 (fun _ h9 => h9) rfl dX1_begin_71 ?_
                refine lv_iload_n hx hb dX1_begin_74 rfl (lv_at hl 0 rfl) ?_
                refine lv_iconst (v := (-1)) hx hb dX1_begin_75 (by decide) ?_
                obtain ⟨hin, hv⟩ := hv
                refine va_iast hx hb hKK.1 hP hD hS 3 0 rfl rfl hin dX1_begin_76 (fun H locs hP hD hS => ?_)
                have hP : va_P G.1 vwCl [(n, .inr (1, [.ref n1, .ref n2, .ref n3, .ref n4, .ref n5, .ref n6, .ref n7, .int lo, .int mi, .int sd])), aI G n1 9 fn1_1, aI G n2 8 (upd fn2_8 x2_13.toNatClampNeg (fw x2_13.toNatClampNeg)), aI G n3 8 (upd fn3_9 x2_13.toNatClampNeg (-1)), aI G n4 8 fn4_10, aI G n5 8 fn5_11, aI G n6 8 fn6_12, aI G n7 72 ow, (t, .inr (6, [.int ns, .int np, .int fu, .int fd, .int fi, .ref t1, .ref t2, .ref t3, .ref t4, .ref t5, .ref t6])), aI G t1 9 sz_, aI G t2 9 pt, aI G t3 9 fh, aI G t4 8 kd, aI G t5 8 nd, aI G t6 8 fw] H := hP
                have hD : va_D A [(n, .inr (1, [.ref n1, .ref n2, .ref n3, .ref n4, .ref n5, .ref n6, .ref n7, .int lo, .int mi, .int sd])), aI G n1 9 fn1_1, aI G n2 8 (upd fn2_8 x2_13.toNatClampNeg (fw x2_13.toNatClampNeg)), aI G n3 8 (upd fn3_9 x2_13.toNatClampNeg (-1)), aI G n4 8 fn4_10, aI G n5 8 fn5_11, aI G n6 8 fn6_12, aI G n7 72 ow, (t, .inr (6, [.int ns, .int np, .int fu, .int fd, .int fi, .ref t1, .ref t2, .ref t3, .ref t4, .ref t5, .ref t6])), aI G t1 9 sz_, aI G t2 9 pt, aI G t3 9 fh, aI G t4 8 kd, aI G t5 8 nd, aI G t6 8 fw] := hD
                refine lv_aload_n hx hb dX1_begin_77 rfl (lv_at hl 1 rfl) ?_
                refine va_get (D := G.1) (ci := 1) (v := .ref n4) (C := RX1) (T := TX1) (N := 10) hx hb hts hinX1 hown hKK.1 hP 0 rfl rfl 3 (by decide) kl21 (fun _ h9 => h9) rfl dX1_begin_78 ?_
                refine lv_iload_n hx hb dX1_begin_81 rfl (lv_at hl 0 rfl) ?_
                refine lv_iconst (v := 0) hx hb dX1_begin_82 (by decide) ?_
                obtain ⟨hin, hv⟩ := hv
                refine va_iast hx hb hKK.1 hP hD hS 4 0 rfl rfl hin dX1_begin_83 (fun H locs hP hD hS => ?_)
                have hP : va_P G.1 vwCl [(n, .inr (1, [.ref n1, .ref n2, .ref n3, .ref n4, .ref n5, .ref n6, .ref n7, .int lo, .int mi, .int sd])), aI G n1 9 fn1_1, aI G n2 8 (upd fn2_8 x2_13.toNatClampNeg (fw x2_13.toNatClampNeg)), aI G n3 8 (upd fn3_9 x2_13.toNatClampNeg (-1)), aI G n4 8 (upd fn4_10 x2_13.toNatClampNeg 0), aI G n5 8 fn5_11, aI G n6 8 fn6_12, aI G n7 72 ow, (t, .inr (6, [.int ns, .int np, .int fu, .int fd, .int fi, .ref t1, .ref t2, .ref t3, .ref t4, .ref t5, .ref t6])), aI G t1 9 sz_, aI G t2 9 pt, aI G t3 9 fh, aI G t4 8 kd, aI G t5 8 nd, aI G t6 8 fw] H := hP
                have hD : va_D A [(n, .inr (1, [.ref n1, .ref n2, .ref n3, .ref n4, .ref n5, .ref n6, .ref n7, .int lo, .int mi, .int sd])), aI G n1 9 fn1_1, aI G n2 8 (upd fn2_8 x2_13.toNatClampNeg (fw x2_13.toNatClampNeg)), aI G n3 8 (upd fn3_9 x2_13.toNatClampNeg (-1)), aI G n4 8 (upd fn4_10 x2_13.toNatClampNeg 0), aI G n5 8 fn5_11, aI G n6 8 fn6_12, aI G n7 72 ow, (t, .inr (6, [.int ns, .int np, .int fu, .int fd, .int fi, .ref t1, .ref t2, .ref t3, .ref t4, .ref t5, .ref t6])), aI G t1 9 sz_, aI G t2 9 pt, aI G t3 9 fh, aI G t4 8 kd, aI G t5 8 nd, aI G t6 8 fw] := hD
                refine lv_aload_n hx hb dX1_begin_84 rfl (lv_at hl 1 rfl) ?_
                refine va_get (D := G.1) (ci := 1) (v := .ref n5) (C := RX1) (T := TX1) (N := 10) hx hb hts hinX1 hown hKK.1 hP 0 rfl rfl 4 (by decide) kl24 (fun _ h9 => h9) rfl dX1_begin_85 ?_
                refine lv_iload_n hx hb dX1_begin_88 rfl (lv_at hl 0 rfl) ?_
                refine lv_iconst (v := 0) hx hb dX1_begin_89 (by decide) ?_
                obtain ⟨hin, hv⟩ := hv
                refine va_iast hx hb hKK.1 hP hD hS 5 0 rfl rfl hin dX1_begin_90 (fun H locs hP hD hS => ?_)
                have hP : va_P G.1 vwCl [(n, .inr (1, [.ref n1, .ref n2, .ref n3, .ref n4, .ref n5, .ref n6, .ref n7, .int lo, .int mi, .int sd])), aI G n1 9 fn1_1, aI G n2 8 (upd fn2_8 x2_13.toNatClampNeg (fw x2_13.toNatClampNeg)), aI G n3 8 (upd fn3_9 x2_13.toNatClampNeg (-1)), aI G n4 8 (upd fn4_10 x2_13.toNatClampNeg 0), aI G n5 8 (upd fn5_11 x2_13.toNatClampNeg 0), aI G n6 8 fn6_12, aI G n7 72 ow, (t, .inr (6, [.int ns, .int np, .int fu, .int fd, .int fi, .ref t1, .ref t2, .ref t3, .ref t4, .ref t5, .ref t6])), aI G t1 9 sz_, aI G t2 9 pt, aI G t3 9 fh, aI G t4 8 kd, aI G t5 8 nd, aI G t6 8 fw] H := hP
                have hD : va_D A [(n, .inr (1, [.ref n1, .ref n2, .ref n3, .ref n4, .ref n5, .ref n6, .ref n7, .int lo, .int mi, .int sd])), aI G n1 9 fn1_1, aI G n2 8 (upd fn2_8 x2_13.toNatClampNeg (fw x2_13.toNatClampNeg)), aI G n3 8 (upd fn3_9 x2_13.toNatClampNeg (-1)), aI G n4 8 (upd fn4_10 x2_13.toNatClampNeg 0), aI G n5 8 (upd fn5_11 x2_13.toNatClampNeg 0), aI G n6 8 fn6_12, aI G n7 72 ow, (t, .inr (6, [.int ns, .int np, .int fu, .int fd, .int fi, .ref t1, .ref t2, .ref t3, .ref t4, .ref t5, .ref t6])), aI G t1 9 sz_, aI G t2 9 pt, aI G t3 9 fh, aI G t4 8 kd, aI G t5 8 nd, aI G t6 8 fw] := hD
                refine lv_aload_n hx hb dX1_begin_91 rfl (lv_at hl 1 rfl) ?_
                refine va_get (D := G.1) (ci := 1) (v := .ref n6) (C := RX1) (T := TX1) (N := 10) hx hb hts hinX1 hown hKK.1 hP 0 rfl rfl 5 (by decide) kl27 (fun _ h9 => h9) rfl dX1_begin_92 ?_
                refine lv_iload_n hx hb dX1_begin_95 rfl (lv_at hl 0 rfl) ?_
                refine lv_iconst (v := 0) hx hb dX1_begin_96 (by decide) ?_
                obtain ⟨hin, hv⟩ := hv
                refine va_iast hx hb hKK.1 hP hD hS 6 0 rfl rfl hin dX1_begin_97 (fun H locs hP hD hS => ?_)
                have hP : va_P G.1 vwCl [(n, .inr (1, [.ref n1, .ref n2, .ref n3, .ref n4, .ref n5, .ref n6, .ref n7, .int lo, .int mi, .int sd])), aI G n1 9 fn1_1, aI G n2 8 (upd fn2_8 x2_13.toNatClampNeg (fw x2_13.toNatClampNeg)), aI G n3 8 (upd fn3_9 x2_13.toNatClampNeg (-1)), aI G n4 8 (upd fn4_10 x2_13.toNatClampNeg 0), aI G n5 8 (upd fn5_11 x2_13.toNatClampNeg 0), aI G n6 8 (upd fn6_12 x2_13.toNatClampNeg 0), aI G n7 72 ow, (t, .inr (6, [.int ns, .int np, .int fu, .int fd, .int fi, .ref t1, .ref t2, .ref t3, .ref t4, .ref t5, .ref t6])), aI G t1 9 sz_, aI G t2 9 pt, aI G t3 9 fh, aI G t4 8 kd, aI G t5 8 nd, aI G t6 8 fw] H := hP
                have hD : va_D A [(n, .inr (1, [.ref n1, .ref n2, .ref n3, .ref n4, .ref n5, .ref n6, .ref n7, .int lo, .int mi, .int sd])), aI G n1 9 fn1_1, aI G n2 8 (upd fn2_8 x2_13.toNatClampNeg (fw x2_13.toNatClampNeg)), aI G n3 8 (upd fn3_9 x2_13.toNatClampNeg (-1)), aI G n4 8 (upd fn4_10 x2_13.toNatClampNeg 0), aI G n5 8 (upd fn5_11 x2_13.toNatClampNeg 0), aI G n6 8 (upd fn6_12 x2_13.toNatClampNeg 0), aI G n7 72 ow, (t, .inr (6, [.int ns, .int np, .int fu, .int fd, .int fi, .ref t1, .ref t2, .ref t3, .ref t4, .ref t5, .ref t6])), aI G t1 9 sz_, aI G t2 9 pt, aI G t3 9 fh, aI G t4 8 kd, aI G t5 8 nd, aI G t6 8 fw] := hD
                refine lv_iinc (v := (x2_13 + 1)) (lv' := [(2, .int (x2_13 + 1)), (0, .ref n), (1, .ref t)]) hx hb dX1_begin_98 hl (k := 0) rfl rfl (by decide) rfl (fun ls hl => ?_)
                refine lv_goto (tgt := 40) hx hb dX1_begin_101 (by decide) ?_
                exact ih_16 _ _ _ _ _ _ _ _ _ (Nat.lt_of_lt_of_le hv.2 (Nat.le_of_lt_succ hI_17)) hv.1 hP hD hS hl
        exact Lm_32 _ _ _ _ _ _ _ _ _ _ (Nat.lt_succ_self _) hi0 hP hD hS hl
      · have hv := hv.2 hc_7
        refine lv_aload_n hx hb dX1_begin_8 rfl (lv_at hl 1 rfl) ?_
        refine va_get (D := G.1) (ci := 1) (v := .ref n1) (C := RX1) (T := TX1) (N := 10) hx hb hts hinX1 hown hKK.1 hP 0 rfl rfl 0 (by decide) kl9 (fun _ h9 => h9) rfl dX1_begin_9 ?_
        refine lv_iload_n hx hb dX1_begin_12 rfl (lv_at hl 0 rfl) ?_
        refine lv_iload_n hx hb dX1_begin_13 rfl (lv_at hl 0 rfl) ?_
        refine lv_aload_n hx hb dX1_begin_14 rfl (lv_at hl 2 rfl) ?_
        refine va_get (D := G.1) (ci := 6) (v := .int ns) (C := RX6) (T := TX6) (N := 11) hx hb hts hinX6 hown hKK.1 hP 8 rfl rfl 0 (by decide) kl33 (fun _ h9 => h9) rfl dX1_begin_15 ?_
        refine lv_icmp_ge (tgt := 30) hx hb dX1_begin_18 (by decide) (fun hc_33 => ?_) (fun hc_33 => ?_)
        · have hv := hv.1 hc_33
          refine lv_iconst (v := 0) hx hb dX1_begin_30 (by decide) ?_
          obtain ⟨hin, hv⟩ := hv
          refine va_iast hx hb hKK.1 hP hD hS 1 0 rfl rfl hin dX1_begin_31 (fun H locs hP hD hS => ?_)
          have hP : va_P G.1 vwCl [(n, .inr (1, [.ref n1, .ref n2, .ref n3, .ref n4, .ref n5, .ref n6, .ref n7, .int lo, .int mi, .int sd])), aI G n1 9 (upd fn1_1 x2_2.toNatClampNeg 0), aI G n2 8 wm, aI G n3 8 se, aI G n4 8 cd, aI G n5 8 sl, aI G n6 8 od, aI G n7 72 ow, (t, .inr (6, [.int ns, .int np, .int fu, .int fd, .int fi, .ref t1, .ref t2, .ref t3, .ref t4, .ref t5, .ref t6])), aI G t1 9 sz_, aI G t2 9 pt, aI G t3 9 fh, aI G t4 8 kd, aI G t5 8 nd, aI G t6 8 fw] H := hP
          have hD : va_D A [(n, .inr (1, [.ref n1, .ref n2, .ref n3, .ref n4, .ref n5, .ref n6, .ref n7, .int lo, .int mi, .int sd])), aI G n1 9 (upd fn1_1 x2_2.toNatClampNeg 0), aI G n2 8 wm, aI G n3 8 se, aI G n4 8 cd, aI G n5 8 sl, aI G n6 8 od, aI G n7 72 ow, (t, .inr (6, [.int ns, .int np, .int fu, .int fd, .int fi, .ref t1, .ref t2, .ref t3, .ref t4, .ref t5, .ref t6])), aI G t1 9 sz_, aI G t2 9 pt, aI G t3 9 fh, aI G t4 8 kd, aI G t5 8 nd, aI G t6 8 fw] := hD
          refine lv_iinc (v := (x2_2 + 1)) (lv' := [(2, .int (x2_2 + 1)), (0, .ref n), (1, .ref t)]) hx hb dX1_begin_32 hl (k := 0) rfl rfl (by decide) rfl (fun ls hl => ?_)
          refine lv_goto (tgt := 2) hx hb dX1_begin_35 (by decide) ?_
          exact ih_5 _ _ _ _ _ (Nat.lt_of_lt_of_le hv.2 (Nat.le_of_lt_succ hI_6)) hv.1 hP hD hS hl
        · have hv := hv.2 hc_33
          refine lv_aload_n hx hb dX1_begin_21 rfl (lv_at hl 2 rfl) ?_
          refine va_get (D := G.1) (ci := 6) (v := .ref t3) (C := RX6) (T := TX6) (N := 11) hx hb hts hinX6 hown hKK.1 hP 8 rfl rfl 7 (by decide) kl39 (fun _ h9 => h9) rfl dX1_begin_22 ?_
          refine lv_iload_n hx hb dX1_begin_25 rfl (lv_at hl 0 rfl) ?_
          obtain ⟨hin, hv⟩ := hv
          refine va_iald hx hb hKK.1 hP 11 0 rfl rfl hin dX1_begin_26 ?_
          refine lv_goto (tgt := 31) hx hb dX1_begin_27 (by decide) ?_
          obtain ⟨hin, hv⟩ := hv
          refine va_iast hx hb hKK.1 hP hD hS 1 0 rfl rfl hin dX1_begin_31 (fun H locs hP hD hS => ?_)
          have hP : va_P G.1 vwCl [(n, .inr (1, [.ref n1, .ref n2, .ref n3, .ref n4, .ref n5, .ref n6, .ref n7, .int lo, .int mi, .int sd])), aI G n1 9 (upd fn1_1 x2_2.toNatClampNeg (fh x2_2.toNatClampNeg)), aI G n2 8 wm, aI G n3 8 se, aI G n4 8 cd, aI G n5 8 sl, aI G n6 8 od, aI G n7 72 ow, (t, .inr (6, [.int ns, .int np, .int fu, .int fd, .int fi, .ref t1, .ref t2, .ref t3, .ref t4, .ref t5, .ref t6])), aI G t1 9 sz_, aI G t2 9 pt, aI G t3 9 fh, aI G t4 8 kd, aI G t5 8 nd, aI G t6 8 fw] H := hP
          have hD : va_D A [(n, .inr (1, [.ref n1, .ref n2, .ref n3, .ref n4, .ref n5, .ref n6, .ref n7, .int lo, .int mi, .int sd])), aI G n1 9 (upd fn1_1 x2_2.toNatClampNeg (fh x2_2.toNatClampNeg)), aI G n2 8 wm, aI G n3 8 se, aI G n4 8 cd, aI G n5 8 sl, aI G n6 8 od, aI G n7 72 ow, (t, .inr (6, [.int ns, .int np, .int fu, .int fd, .int fi, .ref t1, .ref t2, .ref t3, .ref t4, .ref t5, .ref t6])), aI G t1 9 sz_, aI G t2 9 pt, aI G t3 9 fh, aI G t4 8 kd, aI G t5 8 nd, aI G t6 8 fw] := hD
          refine lv_iinc (v := (x2_2 + 1)) (lv' := [(2, .int (x2_2 + 1)), (0, .ref n), (1, .ref t)]) hx hb dX1_begin_32 hl (k := 0) rfl rfl (by decide) rfl (fun ls hl => ?_)
          refine lv_goto (tgt := 2) hx hb dX1_begin_35 (by decide) ?_
          exact ih_5 _ _ _ _ _ (Nat.lt_of_lt_of_le hv.2 (Nat.le_of_lt_succ hI_6)) hv.1 hP hD hS hl
  exact Lm_36 _ _ _ _ _ _ (Nat.lt_succ_self _) hi0 hP hD hS hl
theorem v_X1_begin (l : Launch) (G : Gt) (n n1 n2 n3 n4 n5 n6 n7 t t1 t2 t3 t4 t5 t6 : Nat) (sz : Nat) (ht : Nat → Int32) (wm : Nat → Int32) (se : Nat → Int32) (cd : Nat → Int32) (sl : Nat → Int32) (od : Nat → Int32) (ow : Nat → Int32) (lo : Int32) (mi : Int32) (sd : Int32) (ns : Int32) (np : Int32) (fu : Int32) (fd : Int32) (fi : Int32) (sz_ : Nat → Int32) (pt : Nat → Int32) (fh : Nat → Int32) (kd : Nat → Int32) (nd : Nat → Int32) (fw : Nat → Int32) (T : Nat → Nat → Int) (Ns : Nat) (Np : Nat) (hp : TOK T Ns Np ∧ CT T Ns Np ns np fu fd fi sz_ pt kd nd ∧ (∀ b, b < Ns → (fh b).toInt = T 5 b) ∧ (∀ q, q < Np → (fw q).toInt = T 6 q)) : ∃ (I2_3 : (Nat → Int32) → Int32 → Prop) (μ2_4 : (Nat → Int32) → Int32 → Nat), I2_3 ht 0 ∧ (∀ (fn1_1 : (Nat → Int32)) (x2_2 : Int32), I2_3 fn1_1 x2_2 → (9 ≤ x2_2 → ∃ (I40_14 : (Nat → Int32) → (Nat → Int32) → (Nat → Int32) → (Nat → Int32) → (Nat → Int32) → Int32 → Prop) (μ40_15 : (Nat → Int32) → (Nat → Int32) → (Nat → Int32) → (Nat → Int32) → (Nat → Int32) → Int32 → Nat), I40_14 wm se cd sl od 0 ∧ (∀ (fn2_8 : (Nat → Int32)) (fn3_9 : (Nat → Int32)) (fn4_10 : (Nat → Int32)) (fn5_11 : (Nat → Int32)) (fn6_12 : (Nat → Int32)) (x2_13 : Int32), I40_14 fn2_8 fn3_9 fn4_10 fn5_11 fn6_12 x2_13 → (8 ≤ x2_13 → ∃ (I106_21 : (Nat → Int32) → Int32 → Prop) (μ106_22 : (Nat → Int32) → Int32 → Nat), I106_21 ow 0 ∧ (∀ (fn7_19 : (Nat → Int32)) (x2_20 : Int32), I106_21 fn7_19 x2_20 → (72 ≤ x2_20 → CN Ns Np (zBeg T sd.toInt) fn1_1 fn2_8 fn3_9 fn4_10 fn5_11 fn6_12 fn7_19 (0 : Int32) (0 : Int32) sd) ∧ (¬ (72 ≤ x2_20) → (vp_in x2_20 72) ∧ (I106_21 (upd fn7_19 x2_20.toNatClampNeg 0) (x2_20 + 1) ∧ μ106_22 (upd fn7_19 x2_20.toNatClampNeg 0) (x2_20 + 1) < μ106_22 fn7_19 x2_20)))) ∧ (¬ (8 ≤ x2_13) → (np ≤ x2_13 → (vp_in x2_13 8) ∧ ((vp_in x2_13 8) ∧ ((vp_in x2_13 8) ∧ ((vp_in x2_13 8) ∧ ((vp_in x2_13 8) ∧ (I40_14 (upd fn2_8 x2_13.toNatClampNeg 0) (upd fn3_9 x2_13.toNatClampNeg (-1)) (upd fn4_10 x2_13.toNatClampNeg 0) (upd fn5_11 x2_13.toNatClampNeg 0) (upd fn6_12 x2_13.toNatClampNeg 0) (x2_13 + 1) ∧ μ40_15 (upd fn2_8 x2_13.toNatClampNeg 0) (upd fn3_9 x2_13.toNatClampNeg (-1)) (upd fn4_10 x2_13.toNatClampNeg 0) (upd fn5_11 x2_13.toNatClampNeg 0) (upd fn6_12 x2_13.toNatClampNeg 0) (x2_13 + 1) < μ40_15 fn2_8 fn3_9 fn4_10 fn5_11 fn6_12 x2_13)))))) ∧ (¬ (np ≤ x2_13) → (vp_in x2_13 8) ∧ ((vp_in x2_13 8) ∧ ((vp_in x2_13 8) ∧ ((vp_in x2_13 8) ∧ ((vp_in x2_13 8) ∧ ((vp_in x2_13 8) ∧ (I40_14 (upd fn2_8 x2_13.toNatClampNeg (fw x2_13.toNatClampNeg)) (upd fn3_9 x2_13.toNatClampNeg (-1)) (upd fn4_10 x2_13.toNatClampNeg 0) (upd fn5_11 x2_13.toNatClampNeg 0) (upd fn6_12 x2_13.toNatClampNeg 0) (x2_13 + 1) ∧ μ40_15 (upd fn2_8 x2_13.toNatClampNeg (fw x2_13.toNatClampNeg)) (upd fn3_9 x2_13.toNatClampNeg (-1)) (upd fn4_10 x2_13.toNatClampNeg 0) (upd fn5_11 x2_13.toNatClampNeg 0) (upd fn6_12 x2_13.toNatClampNeg 0) (x2_13 + 1) < μ40_15 fn2_8 fn3_9 fn4_10 fn5_11 fn6_12 x2_13)))))))))) ∧ (¬ (9 ≤ x2_2) → (ns ≤ x2_2 → (vp_in x2_2 9) ∧ (I2_3 (upd fn1_1 x2_2.toNatClampNeg 0) (x2_2 + 1) ∧ μ2_4 (upd fn1_1 x2_2.toNatClampNeg 0) (x2_2 + 1) < μ2_4 fn1_1 x2_2)) ∧ (¬ (ns ≤ x2_2) → (vp_in x2_2 9) ∧ ((vp_in x2_2 9) ∧ (I2_3 (upd fn1_1 x2_2.toNatClampNeg (fh x2_2.toNatClampNeg)) (x2_2 + 1) ∧ μ2_4 (upd fn1_1 x2_2.toNatClampNeg (fh x2_2.toNatClampNeg)) (x2_2 + 1) < μ2_4 fn1_1 x2_2))))) := by
  obtain ⟨hT, hC, hh, hw⟩ := hp
  have t1 := hT.1
  have t2 := hT.2.1
  have hns : ns = nI Ns := hC.1
  have hnp : np = nI Np := hC.2.1
  refine ⟨fun f z => ∃ i, i ≤ 9 ∧ z = nI i ∧ ∀ b, b < i → f b = if b < Ns then fh b else 0, fun _ z => 9 - z.toNatClampNeg, ⟨0, by omega, rfl, fun p hp => absurd hp (Nat.not_lt_zero _)⟩, ?_⟩
  rintro f1 z ⟨i, hi, rfl, hf1⟩
  have ei : (nI i).toNatClampNeg = i := nI_clamp (by omega)
  have ei1 : nI i + 1 = nI (i + 1) := nI_1 i
  have ej : (nI (i + 1)).toNatClampNeg = i + 1 := nI_clamp (by omega)
  simp only [ei, ei1, ej, hns, hnp]
  have h99 : (9 : Int32) ≤ nI i ↔ 9 ≤ i := nI_leI (a := 9) (by omega) (by omega)
  have hni : nI Ns ≤ nI i ↔ Ns ≤ i := nI_leI (by omega) (by omega)
  rw [h99, hni]
  refine ⟨fun h => ?_, fun h => ⟨fun q => ⟨vp_in_nI (by omega) (by omega), ⟨i + 1, by omega, rfl, fun b hb => ?_⟩, by omega⟩, fun q => ⟨vp_in_nI (by omega) (by omega), vp_in_nI (by omega) (by omega), ⟨i + 1, by omega, rfl, fun b hb => ?_⟩, by omega⟩⟩⟩
  · refine ⟨fun a1 a2 a3 a4 a5 z => ∃ i, i ≤ 8 ∧ z = nI i ∧ ∀ p, p < i → a1 p = (if p < Np then fw p else 0) ∧ a2 p = -1 ∧ a3 p = 0 ∧ a4 p = 0 ∧ a5 p = 0, fun _ _ _ _ _ z => 8 - z.toNatClampNeg, ⟨0, by omega, rfl, fun p hp => absurd hp (Nat.not_lt_zero _)⟩, ?_⟩
    rintro a1 a2 a3 a4 a5 z ⟨j, hj, rfl, ha⟩
    have fi_ : (nI j).toNatClampNeg = j := nI_clamp (by omega)
    have fi1 : nI j + 1 = nI (j + 1) := nI_1 j
    have fj : (nI (j + 1)).toNatClampNeg = j + 1 := nI_clamp (by omega)
    simp only [fi_, fi1, fj]
    have h88 : (8 : Int32) ≤ nI j ↔ 8 ≤ j := nI_leI (a := 8) (by omega) (by omega)
    have hnj : nI Np ≤ nI j ↔ Np ≤ j := nI_leI (by omega) (by omega)
    rw [h88, hnj]
    have vj : ¬ 8 ≤ j → vp_in (nI j) 8 := fun q => vp_in_nI (by omega) (by omega)
    have up : ∀ x : Int32, (x = if j < Np then fw j else 0) → ∀ p, p < j + 1 → upd a1 j x p = (if p < Np then fw p else 0) ∧ upd a2 j (-1) p = -1 ∧ upd a3 j 0 p = 0 ∧ upd a4 j 0 p = 0 ∧ upd a5 j 0 p = 0 := by
      intro x hx p hp
      by_cases e : p = j
      · subst e; rw [upd_at, upd_at, upd_at, upd_at, upd_at]; exact ⟨hx, rfl, rfl, rfl, rfl⟩
      · rw [upd_ne e, upd_ne e, upd_ne e, upd_ne e, upd_ne e]; exact ha p (by omega)
    refine ⟨fun g => ?_, fun g => ⟨fun q => ⟨vj g, vj g, vj g, vj g, vj g, ⟨j + 1, by omega, rfl, up 0 (by rw [if_neg (by omega)])⟩, by omega⟩, fun q => ⟨vj g, vj g, vj g, vj g, vj g, vj g, ⟨j + 1, by omega, rfl, up (fw j) (by rw [if_pos (by omega)])⟩, by omega⟩⟩⟩
    refine ⟨fun a6 z => ∃ i, i ≤ 72 ∧ z = nI i ∧ ∀ p, p < i → a6 p = 0, fun _ z => 72 - z.toNatClampNeg, ⟨0, by omega, rfl, fun p hp => absurd hp (Nat.not_lt_zero _)⟩, ?_⟩
    rintro a6 z ⟨m, hm, rfl, ho⟩
    have gi : (nI m).toNatClampNeg = m := nI_clamp (by omega)
    have gi1 : nI m + 1 = nI (m + 1) := nI_1 m
    have gj : (nI (m + 1)).toNatClampNeg = m + 1 := nI_clamp (by omega)
    simp only [gi, gi1, gj]
    have h72 : (72 : Int32) ≤ nI m ↔ 72 ≤ m := nI_leI (a := 72) (by omega) (by omega)
    rw [h72]
    refine ⟨fun k => ?_, fun k => ⟨vp_in_nI (by omega) (by omega), ⟨m + 1, by omega, rfl, fun p hp => ?_⟩, by omega⟩⟩
    · refine ⟨fun x hx => ?_, fun b h1 h2 => ?_, fun p h1 h2 => ?_⟩
      · rcases hx with h | h | h | h | h | h | ⟨p, b, hp, hb, rfl⟩ | h | h | h
        · rw [nuC_ht (by omega), hf1 x (by omega), if_pos h, hh x h]; unfold zBeg; rw [if_pos (by omega)]
        · obtain ⟨q, rfl⟩ : ∃ q, x = 10 + q := ⟨x - 10, by omega⟩
          rw [nuC_wm (by omega), (ha q (by omega)).1, if_pos (by omega), hw q (by omega)]; unfold zBeg; rw [if_neg (by omega), if_pos (by omega), show 10 + q - 10 = q by omega]
        · obtain ⟨q, rfl⟩ : ∃ q, x = 20 + q := ⟨x - 20, by omega⟩
          rw [nuC_se (by omega), (ha q (by omega)).2.1]; unfold zBeg; rw [if_neg (by omega), if_neg (by omega), if_pos (by omega)]; rfl
        · obtain ⟨q, rfl⟩ : ∃ q, x = 30 + q := ⟨x - 30, by omega⟩
          rw [nuC_cd (by omega), (ha q (by omega)).2.2.1]; unfold zBeg; rw [if_neg (by omega), if_neg (by omega), if_neg (by omega), if_neg (by omega)]; rfl
        · obtain ⟨q, rfl⟩ : ∃ q, x = 40 + q := ⟨x - 40, by omega⟩
          rw [nuC_sl (by omega), (ha q (by omega)).2.2.2.1]; unfold zBeg; rw [if_neg (by omega), if_neg (by omega), if_neg (by omega), if_neg (by omega)]; rfl
        · obtain ⟨q, rfl⟩ : ∃ q, x = 50 + q := ⟨x - 50, by omega⟩
          rw [nuC_od (by omega), (ha q (by omega)).2.2.2.2]; unfold zBeg; rw [if_neg (by omega), if_neg (by omega), if_neg (by omega), if_neg (by omega)]; rfl
        · rw [nuC_ow (by omega), ho _ (by omega)]; unfold zBeg; rw [if_neg (by omega), if_neg (by omega), if_neg (by omega), if_neg (by omega)]; rfl
        · subst h; rw [nuC_mi]; unfold zBeg; rw [if_neg (by omega), if_neg (by omega), if_neg (by omega), if_neg (by omega)]; rfl
        · subst h; rw [nuC_sd]; unfold zBeg; rw [if_neg (by omega), if_neg (by omega), if_neg (by omega), if_pos rfl]
        · subst h; rw [nuC_lo]; unfold zBeg; rw [if_neg (by omega), if_neg (by omega), if_neg (by omega), if_neg (by omega)]; rfl
      · rw [hf1 b (by omega), if_neg (by omega)]
      · have := ha p (by omega); exact ⟨by rw [this.1, if_neg (by omega)], fun _ => this.2.1, this.2.2.1⟩
    · by_cases e : p = m
      · subst e; rw [upd_at]
      · rw [upd_ne e]; exact ho p (by omega)
  · by_cases e : b = i
    · subst e; rw [upd_at, if_neg (by omega)]
    · rw [upd_ne e]; exact hf1 b (by omega)
  · by_cases e : b = i
    · subst e; rw [upd_at, if_pos (by omega)]
    · rw [upd_ne e]; exact hf1 b (by omega)
theorem k_X1_begin (l : Launch) (G : Gt) (n n1 n2 n3 n4 n5 n6 n7 t t1 t2 t3 t4 t5 t6 : Nat) (sz : Nat) (ht : Nat → Int32) (wm : Nat → Int32) (se : Nat → Int32) (cd : Nat → Int32) (sl : Nat → Int32) (od : Nat → Int32) (ow : Nat → Int32) (lo : Int32) (mi : Int32) (sd : Int32) (ns : Int32) (np : Int32) (fu : Int32) (fd : Int32) (fi : Int32) (sz_ : Nat → Int32) (pt : Nat → Int32) (fh : Nat → Int32) (kd : Nat → Int32) (nd : Nat → Int32) (fw : Nat → Int32) (T : Nat → Nat → Int) (Ns : Nat) (Np : Nat) (hp : TOK T Ns Np ∧ CT T Ns Np ns np fu fd fi sz_ pt kd nd ∧ (∀ b, b < Ns → (fh b).toInt = T 5 b) ∧ (∀ q, q < Np → (fw q).toInt = T 6 q)) : MetV l yX1_begin wsX1_begin 0 0 G [.ref n, .ref t] [(n, .inr (1, [.ref n1, .ref n2, .ref n3, .ref n4, .ref n5, .ref n6, .ref n7, .int lo, .int mi, .int sd])), aI G n1 9 ht, aI G n2 8 wm, aI G n3 8 se, aI G n4 8 cd, aI G n5 8 sl, aI G n6 8 od, aI G n7 72 ow, (t, .inr (6, [.int ns, .int np, .int fu, .int fd, .int fi, .ref t1, .ref t2, .ref t3, .ref t4, .ref t5, .ref t6])), aI G t1 9 sz_, aI G t2 9 pt, aI G t3 9 fh, aI G t4 8 kd, aI G t5 8 nd, aI G t6 8 fw] sz (fun (u : (Nat → Int32) × (Nat → Int32) × (Nat → Int32) × (Nat → Int32) × (Nat → Int32) × (Nat → Int32) × (Nat → Int32) × (Int32) × (Int32)) => CN Ns Np (zBeg T sd.toInt) u.1 u.2.1 u.2.2.1 u.2.2.2.1 u.2.2.2.2.1 u.2.2.2.2.2.1 u.2.2.2.2.2.2.1 u.2.2.2.2.2.2.2.1 u.2.2.2.2.2.2.2.2 sd) (fun (u : (Nat → Int32) × (Nat → Int32) × (Nat → Int32) × (Nat → Int32) × (Nat → Int32) × (Nat → Int32) × (Nat → Int32) × (Int32) × (Int32)) => [(n, .inr (1, [.ref n1, .ref n2, .ref n3, .ref n4, .ref n5, .ref n6, .ref n7, .int u.2.2.2.2.2.2.2.1, .int u.2.2.2.2.2.2.2.2, .int sd])), aI G n1 9 u.1, aI G n2 8 u.2.1, aI G n3 8 u.2.2.1, aI G n4 8 u.2.2.2.1, aI G n5 8 u.2.2.2.2.1, aI G n6 8 u.2.2.2.2.2.1, aI G n7 72 u.2.2.2.2.2.2.1, (t, .inr (6, [.int ns, .int np, .int fu, .int fd, .int fi, .ref t1, .ref t2, .ref t3, .ref t4, .ref t5, .ref t6])), aI G t1 9 sz_, aI G t2 9 pt, aI G t3 9 fh, aI G t4 8 kd, aI G t5 8 nd, aI G t6 8 fw]) :=
  c_X1_begin l G n n1 n2 n3 n4 n5 n6 n7 t t1 t2 t3 t4 t5 t6 sz ht wm se cd sl od ow lo mi sd ns np fu fd fi sz_ pt fh kd nd fw T Ns Np (v_X1_begin l G n n1 n2 n3 n4 n5 n6 n7 t t1 t2 t3 t4 t5 t6 sz ht wm se cd sl od ow lo mi sd ns np fu fd fi sz_ pt fh kd nd fw T Ns Np hp)

set_option maxHeartbeats 4000000 in
set_option maxRecDepth 100000 in
theorem c_X1_copyFrom (l : Launch) (G : Gt) (n n1 n2 n3 n4 n5 n6 n7 k k1 k2 k3 k4 k5 k6 k7 : Nat) (sz : Nat) (ht : Nat → Int32) (wm : Nat → Int32) (se : Nat → Int32) (cd : Nat → Int32) (sl : Nat → Int32) (od : Nat → Int32) (ow : Nat → Int32) (lo : Int32) (mi : Int32) (sd : Int32) (htk : Nat → Int32) (wmk : Nat → Int32) (sek : Nat → Int32) (cdk : Nat → Int32) (slk : Nat → Int32) (odk : Nat → Int32) (owk : Nat → Int32) (lok : Int32) (mik : Int32) (sdk : Int32) (Ns : Nat) (Np : Nat) (v : Nat → Int) (hv : CN Ns Np v (va_cpy htk ht 0 0 9) (va_cpy wmk wm 0 0 8) (va_cpy sek se 0 0 8) (va_cpy cdk cd 0 0 8) (va_cpy slk sl 0 0 8) (va_cpy odk od 0 0 8) (va_cpy owk ow 0 0 72) lok mik sdk) : MetV l yX1_copyFrom wsX1_copyFrom 1 30 G [.ref n, .ref k] [(n, .inr (1, [.ref n1, .ref n2, .ref n3, .ref n4, .ref n5, .ref n6, .ref n7, .int lo, .int mi, .int sd])), aI G n1 9 ht, aI G n2 8 wm, aI G n3 8 se, aI G n4 8 cd, aI G n5 8 sl, aI G n6 8 od, aI G n7 72 ow, (k, .inr (1, [.ref k1, .ref k2, .ref k3, .ref k4, .ref k5, .ref k6, .ref k7, .int lok, .int mik, .int sdk])), aI G k1 9 htk, aI G k2 8 wmk, aI G k3 8 sek, aI G k4 8 cdk, aI G k5 8 slk, aI G k6 8 odk, aI G k7 72 owk] sz (fun (u : (Nat → Int32) × (Nat → Int32) × (Nat → Int32) × (Nat → Int32) × (Nat → Int32) × (Nat → Int32) × (Nat → Int32) × (Int32) × (Int32) × (Int32)) => CN Ns Np v u.1 u.2.1 u.2.2.1 u.2.2.2.1 u.2.2.2.2.1 u.2.2.2.2.2.1 u.2.2.2.2.2.2.1 u.2.2.2.2.2.2.2.1 u.2.2.2.2.2.2.2.2.1 u.2.2.2.2.2.2.2.2.2) (fun (u : (Nat → Int32) × (Nat → Int32) × (Nat → Int32) × (Nat → Int32) × (Nat → Int32) × (Nat → Int32) × (Nat → Int32) × (Int32) × (Int32) × (Int32)) => [(n, .inr (1, [.ref n1, .ref n2, .ref n3, .ref n4, .ref n5, .ref n6, .ref n7, .int u.2.2.2.2.2.2.2.1, .int u.2.2.2.2.2.2.2.2.1, .int u.2.2.2.2.2.2.2.2.2])), aI G n1 9 u.1, aI G n2 8 u.2.1, aI G n3 8 u.2.2.1, aI G n4 8 u.2.2.2.1, aI G n5 8 u.2.2.2.2.1, aI G n6 8 u.2.2.2.2.2.1, aI G n7 72 u.2.2.2.2.2.2.1, (k, .inr (1, [.ref k1, .ref k2, .ref k3, .ref k4, .ref k5, .ref k6, .ref k7, .int lok, .int mik, .int sdk])), aI G k1 9 htk, aI G k2 8 wmk, aI G k3 8 sek, aI G k4 8 cdk, aI G k5 8 slk, aI G k6 8 odk, aI G k7 72 owk]) := by
  refine x_startV (cc := cX1_copyFrom) (maxL := 2) (ret := none) (by decide) rfl (Nat.le_of_ble_eq_true rfl) ?_
  intro p e s m args below meth c A R Q ls hRf hRl hQ C hP hD hS hA hSS hl
  obtain ⟨hx, hb, hr, hml, hown, hts, hlocks, hKK⟩ := C
  have hown : s.vm.findClass RX1 = some m.cls := hown
  have hl : lv_has ls 2 [(0, .ref n), (1, .ref k)] := hl
  have hinX1 : ∀ w ∈ u_ws RX1 TX1 10, w ∈ wsX1_copyFrom := by decide +kernel
  have ka_i := hts (.initialized "java/lang/System") (by decide +kernel)
  have ka_n := hts (.native arraycopyName) (by decide +kernel)
  have ka_s := hts (.static arraycopyName) (by decide +kernel)
  have kl15 := hts (.fieldLink RX1 15 "WarmStones$Night" "warmth" "[I") (by decide +kernel)
  have kl18 := hts (.fieldLink RX1 18 "WarmStones$Night" "seat" "[I") (by decide +kernel)
  have kl21 := hts (.fieldLink RX1 21 "WarmStones$Night" "cold" "[I") (by decide +kernel)
  have kl24 := hts (.fieldLink RX1 24 "WarmStones$Night" "stolen" "[I") (by decide +kernel)
  have kl27 := hts (.fieldLink RX1 27 "WarmStones$Night" "owed" "[I") (by decide +kernel)
  have kl30 := hts (.fieldLink RX1 30 "WarmStones$Night" "owned" "[I") (by decide +kernel)
  have kl48 := hts (.fieldLink RX1 48 "WarmStones$Night" "lost" "I") (by decide +kernel)
  have kl51 := hts (.fieldLink RX1 51 "WarmStones$Night" "minute" "I") (by decide +kernel)
  have kl54 := hts (.methodLink RX1 54 arraycopyName) (by decide +kernel)
  have kl60 := hts (.fieldLink RX1 60 "WarmStones$Night" "seed" "I") (by decide +kernel)
  have kl9 := hts (.fieldLink RX1 9 "WarmStones$Night" "heat" "[I") (by decide +kernel)
  refine lv_aload_n hx hb dX1_copyFrom_0 rfl (lv_at hl 1 rfl) ?_
  refine va_get (D := G.1) (ci := 1) (v := .ref k1) (C := RX1) (T := TX1) (N := 10) hx hb hts hinX1 hown hKK.1 hP 8 rfl rfl 0 (by decide) kl9 (fun _ h9 => h9) rfl dX1_copyFrom_1 ?_
  refine lv_iconst (v := 0) hx hb dX1_copyFrom_4 (by decide) ?_
  refine lv_aload_n hx hb dX1_copyFrom_5 rfl (lv_at hl 0 rfl) ?_
  refine va_get (D := G.1) (ci := 1) (v := .ref n1) (C := RX1) (T := TX1) (N := 10) hx hb hts hinX1 hown hKK.1 hP 0 rfl rfl 0 (by decide) kl9 (fun _ h9 => h9) rfl dX1_copyFrom_6 ?_
  refine lv_iconst (v := 0) hx hb dX1_copyFrom_9 (by decide) ?_
  refine lv_bipush (v := 9) hx hb dX1_copyFrom_10 (by decide) ?_
  refine va_copyi (ty := .int) hx hb (hml.trans hl.1.symm) hown kl54 ka_n ka_s ka_i hKK.1 hP hD hS 9 1 0 0 rfl rfl rfl rfl rfl (by decide) (by decide) (by decide) (by decide) (by decide) (fun _ _ => rfl) (Nat.le_trans (Nat.le_of_ble_eq_true rfl) hRf) (Nat.le_trans (by decide) hRl) dX1_copyFrom_12 (fun H locs hP hD hS => ?_)
  have hP : va_P G.1 vwCl [(n, .inr (1, [.ref n1, .ref n2, .ref n3, .ref n4, .ref n5, .ref n6, .ref n7, .int lo, .int mi, .int sd])), aI G n1 9 (va_cpy htk ht 0 0 9), aI G n2 8 wm, aI G n3 8 se, aI G n4 8 cd, aI G n5 8 sl, aI G n6 8 od, aI G n7 72 ow, (k, .inr (1, [.ref k1, .ref k2, .ref k3, .ref k4, .ref k5, .ref k6, .ref k7, .int lok, .int mik, .int sdk])), aI G k1 9 htk, aI G k2 8 wmk, aI G k3 8 sek, aI G k4 8 cdk, aI G k5 8 slk, aI G k6 8 odk, aI G k7 72 owk] H := hP
  have hD : va_D A [(n, .inr (1, [.ref n1, .ref n2, .ref n3, .ref n4, .ref n5, .ref n6, .ref n7, .int lo, .int mi, .int sd])), aI G n1 9 (va_cpy htk ht 0 0 9), aI G n2 8 wm, aI G n3 8 se, aI G n4 8 cd, aI G n5 8 sl, aI G n6 8 od, aI G n7 72 ow, (k, .inr (1, [.ref k1, .ref k2, .ref k3, .ref k4, .ref k5, .ref k6, .ref k7, .int lok, .int mik, .int sdk])), aI G k1 9 htk, aI G k2 8 wmk, aI G k3 8 sek, aI G k4 8 cdk, aI G k5 8 slk, aI G k6 8 odk, aI G k7 72 owk] := hD
  refine lv_aload_n hx hb dX1_copyFrom_15 rfl (lv_at hl 1 rfl) ?_
  refine va_get (D := G.1) (ci := 1) (v := .ref k2) (C := RX1) (T := TX1) (N := 10) hx hb hts hinX1 hown hKK.1 hP 8 rfl rfl 1 (by decide) kl15 (fun _ h9 => h9) rfl dX1_copyFrom_16 ?_
  refine lv_iconst (v := 0) hx hb dX1_copyFrom_19 (by decide) ?_
  refine lv_aload_n hx hb dX1_copyFrom_20 rfl (lv_at hl 0 rfl) ?_
  refine va_get (D := G.1) (ci := 1) (v := .ref n2) (C := RX1) (T := TX1) (N := 10) hx hb hts hinX1 hown hKK.1 hP 0 rfl rfl 1 (by decide) kl15 (fun _ h9 => h9) rfl dX1_copyFrom_21 ?_
  refine lv_iconst (v := 0) hx hb dX1_copyFrom_24 (by decide) ?_
  refine lv_bipush (v := 8) hx hb dX1_copyFrom_25 (by decide) ?_
  refine va_copyi (ty := .int) hx hb (hml.trans hl.1.symm) hown kl54 ka_n ka_s ka_i hKK.1 hP hD hS 10 2 0 0 rfl rfl rfl rfl rfl (by decide) (by decide) (by decide) (by decide) (by decide) (fun _ _ => rfl) (Nat.le_trans (Nat.le_of_ble_eq_true rfl) hRf) (Nat.le_trans (by decide) hRl) dX1_copyFrom_27 (fun H locs hP hD hS => ?_)
  have hP : va_P G.1 vwCl [(n, .inr (1, [.ref n1, .ref n2, .ref n3, .ref n4, .ref n5, .ref n6, .ref n7, .int lo, .int mi, .int sd])), aI G n1 9 (va_cpy htk ht 0 0 9), aI G n2 8 (va_cpy wmk wm 0 0 8), aI G n3 8 se, aI G n4 8 cd, aI G n5 8 sl, aI G n6 8 od, aI G n7 72 ow, (k, .inr (1, [.ref k1, .ref k2, .ref k3, .ref k4, .ref k5, .ref k6, .ref k7, .int lok, .int mik, .int sdk])), aI G k1 9 htk, aI G k2 8 wmk, aI G k3 8 sek, aI G k4 8 cdk, aI G k5 8 slk, aI G k6 8 odk, aI G k7 72 owk] H := hP
  have hD : va_D A [(n, .inr (1, [.ref n1, .ref n2, .ref n3, .ref n4, .ref n5, .ref n6, .ref n7, .int lo, .int mi, .int sd])), aI G n1 9 (va_cpy htk ht 0 0 9), aI G n2 8 (va_cpy wmk wm 0 0 8), aI G n3 8 se, aI G n4 8 cd, aI G n5 8 sl, aI G n6 8 od, aI G n7 72 ow, (k, .inr (1, [.ref k1, .ref k2, .ref k3, .ref k4, .ref k5, .ref k6, .ref k7, .int lok, .int mik, .int sdk])), aI G k1 9 htk, aI G k2 8 wmk, aI G k3 8 sek, aI G k4 8 cdk, aI G k5 8 slk, aI G k6 8 odk, aI G k7 72 owk] := hD
  refine lv_aload_n hx hb dX1_copyFrom_30 rfl (lv_at hl 1 rfl) ?_
  refine va_get (D := G.1) (ci := 1) (v := .ref k3) (C := RX1) (T := TX1) (N := 10) hx hb hts hinX1 hown hKK.1 hP 8 rfl rfl 2 (by decide) kl18 (fun _ h9 => h9) rfl dX1_copyFrom_31 ?_
  refine lv_iconst (v := 0) hx hb dX1_copyFrom_34 (by decide) ?_
  refine lv_aload_n hx hb dX1_copyFrom_35 rfl (lv_at hl 0 rfl) ?_
  refine va_get (D := G.1) (ci := 1) (v := .ref n3) (C := RX1) (T := TX1) (N := 10) hx hb hts hinX1 hown hKK.1 hP 0 rfl rfl 2 (by decide) kl18 (fun _ h9 => h9) rfl dX1_copyFrom_36 ?_
  refine lv_iconst (v := 0) hx hb dX1_copyFrom_39 (by decide) ?_
  refine lv_bipush (v := 8) hx hb dX1_copyFrom_40 (by decide) ?_
  refine va_copyi (ty := .int) hx hb (hml.trans hl.1.symm) hown kl54 ka_n ka_s ka_i hKK.1 hP hD hS 11 3 0 0 rfl rfl rfl rfl rfl (by decide) (by decide) (by decide) (by decide) (by decide) (fun _ _ => rfl) (Nat.le_trans (Nat.le_of_ble_eq_true rfl) hRf) (Nat.le_trans (by decide) hRl) dX1_copyFrom_42 (fun H locs hP hD hS => ?_)
  have hP : va_P G.1 vwCl [(n, .inr (1, [.ref n1, .ref n2, .ref n3, .ref n4, .ref n5, .ref n6, .ref n7, .int lo, .int mi, .int sd])), aI G n1 9 (va_cpy htk ht 0 0 9), aI G n2 8 (va_cpy wmk wm 0 0 8), aI G n3 8 (va_cpy sek se 0 0 8), aI G n4 8 cd, aI G n5 8 sl, aI G n6 8 od, aI G n7 72 ow, (k, .inr (1, [.ref k1, .ref k2, .ref k3, .ref k4, .ref k5, .ref k6, .ref k7, .int lok, .int mik, .int sdk])), aI G k1 9 htk, aI G k2 8 wmk, aI G k3 8 sek, aI G k4 8 cdk, aI G k5 8 slk, aI G k6 8 odk, aI G k7 72 owk] H := hP
  have hD : va_D A [(n, .inr (1, [.ref n1, .ref n2, .ref n3, .ref n4, .ref n5, .ref n6, .ref n7, .int lo, .int mi, .int sd])), aI G n1 9 (va_cpy htk ht 0 0 9), aI G n2 8 (va_cpy wmk wm 0 0 8), aI G n3 8 (va_cpy sek se 0 0 8), aI G n4 8 cd, aI G n5 8 sl, aI G n6 8 od, aI G n7 72 ow, (k, .inr (1, [.ref k1, .ref k2, .ref k3, .ref k4, .ref k5, .ref k6, .ref k7, .int lok, .int mik, .int sdk])), aI G k1 9 htk, aI G k2 8 wmk, aI G k3 8 sek, aI G k4 8 cdk, aI G k5 8 slk, aI G k6 8 odk, aI G k7 72 owk] := hD
  refine lv_aload_n hx hb dX1_copyFrom_45 rfl (lv_at hl 1 rfl) ?_
  refine va_get (D := G.1) (ci := 1) (v := .ref k4) (C := RX1) (T := TX1) (N := 10) hx hb hts hinX1 hown hKK.1 hP 8 rfl rfl 3 (by decide) kl21 (fun _ h9 => h9) rfl dX1_copyFrom_46 ?_
  refine lv_iconst (v := 0) hx hb dX1_copyFrom_49 (by decide) ?_
  refine lv_aload_n hx hb dX1_copyFrom_50 rfl (lv_at hl 0 rfl) ?_
  refine va_get (D := G.1) (ci := 1) (v := .ref n4) (C := RX1) (T := TX1) (N := 10) hx hb hts hinX1 hown hKK.1 hP 0 rfl rfl 3 (by decide) kl21 (fun _ h9 => h9) rfl dX1_copyFrom_51 ?_
  refine lv_iconst (v := 0) hx hb dX1_copyFrom_54 (by decide) ?_
  refine lv_bipush (v := 8) hx hb dX1_copyFrom_55 (by decide) ?_
  refine va_copyi (ty := .int) hx hb (hml.trans hl.1.symm) hown kl54 ka_n ka_s ka_i hKK.1 hP hD hS 12 4 0 0 rfl rfl rfl rfl rfl (by decide) (by decide) (by decide) (by decide) (by decide) (fun _ _ => rfl) (Nat.le_trans (Nat.le_of_ble_eq_true rfl) hRf) (Nat.le_trans (by decide) hRl) dX1_copyFrom_57 (fun H locs hP hD hS => ?_)
  have hP : va_P G.1 vwCl [(n, .inr (1, [.ref n1, .ref n2, .ref n3, .ref n4, .ref n5, .ref n6, .ref n7, .int lo, .int mi, .int sd])), aI G n1 9 (va_cpy htk ht 0 0 9), aI G n2 8 (va_cpy wmk wm 0 0 8), aI G n3 8 (va_cpy sek se 0 0 8), aI G n4 8 (va_cpy cdk cd 0 0 8), aI G n5 8 sl, aI G n6 8 od, aI G n7 72 ow, (k, .inr (1, [.ref k1, .ref k2, .ref k3, .ref k4, .ref k5, .ref k6, .ref k7, .int lok, .int mik, .int sdk])), aI G k1 9 htk, aI G k2 8 wmk, aI G k3 8 sek, aI G k4 8 cdk, aI G k5 8 slk, aI G k6 8 odk, aI G k7 72 owk] H := hP
  have hD : va_D A [(n, .inr (1, [.ref n1, .ref n2, .ref n3, .ref n4, .ref n5, .ref n6, .ref n7, .int lo, .int mi, .int sd])), aI G n1 9 (va_cpy htk ht 0 0 9), aI G n2 8 (va_cpy wmk wm 0 0 8), aI G n3 8 (va_cpy sek se 0 0 8), aI G n4 8 (va_cpy cdk cd 0 0 8), aI G n5 8 sl, aI G n6 8 od, aI G n7 72 ow, (k, .inr (1, [.ref k1, .ref k2, .ref k3, .ref k4, .ref k5, .ref k6, .ref k7, .int lok, .int mik, .int sdk])), aI G k1 9 htk, aI G k2 8 wmk, aI G k3 8 sek, aI G k4 8 cdk, aI G k5 8 slk, aI G k6 8 odk, aI G k7 72 owk] := hD
  refine lv_aload_n hx hb dX1_copyFrom_60 rfl (lv_at hl 1 rfl) ?_
  refine va_get (D := G.1) (ci := 1) (v := .ref k5) (C := RX1) (T := TX1) (N := 10) hx hb hts hinX1 hown hKK.1 hP 8 rfl rfl 4 (by decide) kl24 (fun _ h9 => h9) rfl dX1_copyFrom_61 ?_
  refine lv_iconst (v := 0) hx hb dX1_copyFrom_64 (by decide) ?_
  refine lv_aload_n hx hb dX1_copyFrom_65 rfl (lv_at hl 0 rfl) ?_
  refine va_get (D := G.1) (ci := 1) (v := .ref n5) (C := RX1) (T := TX1) (N := 10) hx hb hts hinX1 hown hKK.1 hP 0 rfl rfl 4 (by decide) kl24 (fun _ h9 => h9) rfl dX1_copyFrom_66 ?_
  refine lv_iconst (v := 0) hx hb dX1_copyFrom_69 (by decide) ?_
  refine lv_bipush (v := 8) hx hb dX1_copyFrom_70 (by decide) ?_
  refine va_copyi (ty := .int) hx hb (hml.trans hl.1.symm) hown kl54 ka_n ka_s ka_i hKK.1 hP hD hS 13 5 0 0 rfl rfl rfl rfl rfl (by decide) (by decide) (by decide) (by decide) (by decide) (fun _ _ => rfl) (Nat.le_trans (Nat.le_of_ble_eq_true rfl) hRf) (Nat.le_trans (by decide) hRl) dX1_copyFrom_72 (fun H locs hP hD hS => ?_)
  have hP : va_P G.1 vwCl [(n, .inr (1, [.ref n1, .ref n2, .ref n3, .ref n4, .ref n5, .ref n6, .ref n7, .int lo, .int mi, .int sd])), aI G n1 9 (va_cpy htk ht 0 0 9), aI G n2 8 (va_cpy wmk wm 0 0 8), aI G n3 8 (va_cpy sek se 0 0 8), aI G n4 8 (va_cpy cdk cd 0 0 8), aI G n5 8 (va_cpy slk sl 0 0 8), aI G n6 8 od, aI G n7 72 ow, (k, .inr (1, [.ref k1, .ref k2, .ref k3, .ref k4, .ref k5, .ref k6, .ref k7, .int lok, .int mik, .int sdk])), aI G k1 9 htk, aI G k2 8 wmk, aI G k3 8 sek, aI G k4 8 cdk, aI G k5 8 slk, aI G k6 8 odk, aI G k7 72 owk] H := hP
  have hD : va_D A [(n, .inr (1, [.ref n1, .ref n2, .ref n3, .ref n4, .ref n5, .ref n6, .ref n7, .int lo, .int mi, .int sd])), aI G n1 9 (va_cpy htk ht 0 0 9), aI G n2 8 (va_cpy wmk wm 0 0 8), aI G n3 8 (va_cpy sek se 0 0 8), aI G n4 8 (va_cpy cdk cd 0 0 8), aI G n5 8 (va_cpy slk sl 0 0 8), aI G n6 8 od, aI G n7 72 ow, (k, .inr (1, [.ref k1, .ref k2, .ref k3, .ref k4, .ref k5, .ref k6, .ref k7, .int lok, .int mik, .int sdk])), aI G k1 9 htk, aI G k2 8 wmk, aI G k3 8 sek, aI G k4 8 cdk, aI G k5 8 slk, aI G k6 8 odk, aI G k7 72 owk] := hD
  refine lv_aload_n hx hb dX1_copyFrom_75 rfl (lv_at hl 1 rfl) ?_
  refine va_get (D := G.1) (ci := 1) (v := .ref k6) (C := RX1) (T := TX1) (N := 10) hx hb hts hinX1 hown hKK.1 hP 8 rfl rfl 5 (by decide) kl27 (fun _ h9 => h9) rfl dX1_copyFrom_76 ?_
  refine lv_iconst (v := 0) hx hb dX1_copyFrom_79 (by decide) ?_
  refine lv_aload_n hx hb dX1_copyFrom_80 rfl (lv_at hl 0 rfl) ?_
  refine va_get (D := G.1) (ci := 1) (v := .ref n6) (C := RX1) (T := TX1) (N := 10) hx hb hts hinX1 hown hKK.1 hP 0 rfl rfl 5 (by decide) kl27 (fun _ h9 => h9) rfl dX1_copyFrom_81 ?_
  refine lv_iconst (v := 0) hx hb dX1_copyFrom_84 (by decide) ?_
  refine lv_bipush (v := 8) hx hb dX1_copyFrom_85 (by decide) ?_
  refine va_copyi (ty := .int) hx hb (hml.trans hl.1.symm) hown kl54 ka_n ka_s ka_i hKK.1 hP hD hS 14 6 0 0 rfl rfl rfl rfl rfl (by decide) (by decide) (by decide) (by decide) (by decide) (fun _ _ => rfl) (Nat.le_trans (Nat.le_of_ble_eq_true rfl) hRf) (Nat.le_trans (by decide) hRl) dX1_copyFrom_87 (fun H locs hP hD hS => ?_)
  have hP : va_P G.1 vwCl [(n, .inr (1, [.ref n1, .ref n2, .ref n3, .ref n4, .ref n5, .ref n6, .ref n7, .int lo, .int mi, .int sd])), aI G n1 9 (va_cpy htk ht 0 0 9), aI G n2 8 (va_cpy wmk wm 0 0 8), aI G n3 8 (va_cpy sek se 0 0 8), aI G n4 8 (va_cpy cdk cd 0 0 8), aI G n5 8 (va_cpy slk sl 0 0 8), aI G n6 8 (va_cpy odk od 0 0 8), aI G n7 72 ow, (k, .inr (1, [.ref k1, .ref k2, .ref k3, .ref k4, .ref k5, .ref k6, .ref k7, .int lok, .int mik, .int sdk])), aI G k1 9 htk, aI G k2 8 wmk, aI G k3 8 sek, aI G k4 8 cdk, aI G k5 8 slk, aI G k6 8 odk, aI G k7 72 owk] H := hP
  have hD : va_D A [(n, .inr (1, [.ref n1, .ref n2, .ref n3, .ref n4, .ref n5, .ref n6, .ref n7, .int lo, .int mi, .int sd])), aI G n1 9 (va_cpy htk ht 0 0 9), aI G n2 8 (va_cpy wmk wm 0 0 8), aI G n3 8 (va_cpy sek se 0 0 8), aI G n4 8 (va_cpy cdk cd 0 0 8), aI G n5 8 (va_cpy slk sl 0 0 8), aI G n6 8 (va_cpy odk od 0 0 8), aI G n7 72 ow, (k, .inr (1, [.ref k1, .ref k2, .ref k3, .ref k4, .ref k5, .ref k6, .ref k7, .int lok, .int mik, .int sdk])), aI G k1 9 htk, aI G k2 8 wmk, aI G k3 8 sek, aI G k4 8 cdk, aI G k5 8 slk, aI G k6 8 odk, aI G k7 72 owk] := hD
  refine lv_aload_n hx hb dX1_copyFrom_90 rfl (lv_at hl 1 rfl) ?_
  refine va_get (D := G.1) (ci := 1) (v := .ref k7) (C := RX1) (T := TX1) (N := 10) hx hb hts hinX1 hown hKK.1 hP 8 rfl rfl 6 (by decide) kl30 (fun _ h9 => h9) rfl dX1_copyFrom_91 ?_
  refine lv_iconst (v := 0) hx hb dX1_copyFrom_94 (by decide) ?_
  refine lv_aload_n hx hb dX1_copyFrom_95 rfl (lv_at hl 0 rfl) ?_
  refine va_get (D := G.1) (ci := 1) (v := .ref n7) (C := RX1) (T := TX1) (N := 10) hx hb hts hinX1 hown hKK.1 hP 0 rfl rfl 6 (by decide) kl30 (fun _ h9 => h9) rfl dX1_copyFrom_96 ?_
  refine lv_iconst (v := 0) hx hb dX1_copyFrom_99 (by decide) ?_
  refine lv_bipush (v := 72) hx hb dX1_copyFrom_100 (by decide) ?_
  refine va_copyi (ty := .int) hx hb (hml.trans hl.1.symm) hown kl54 ka_n ka_s ka_i hKK.1 hP hD hS 15 7 0 0 rfl rfl rfl rfl rfl (by decide) (by decide) (by decide) (by decide) (by decide) (fun _ _ => rfl) (Nat.le_trans (Nat.le_of_ble_eq_true rfl) hRf) (Nat.le_trans (by decide) hRl) dX1_copyFrom_102 (fun H locs hP hD hS => ?_)
  have hP : va_P G.1 vwCl [(n, .inr (1, [.ref n1, .ref n2, .ref n3, .ref n4, .ref n5, .ref n6, .ref n7, .int lo, .int mi, .int sd])), aI G n1 9 (va_cpy htk ht 0 0 9), aI G n2 8 (va_cpy wmk wm 0 0 8), aI G n3 8 (va_cpy sek se 0 0 8), aI G n4 8 (va_cpy cdk cd 0 0 8), aI G n5 8 (va_cpy slk sl 0 0 8), aI G n6 8 (va_cpy odk od 0 0 8), aI G n7 72 (va_cpy owk ow 0 0 72), (k, .inr (1, [.ref k1, .ref k2, .ref k3, .ref k4, .ref k5, .ref k6, .ref k7, .int lok, .int mik, .int sdk])), aI G k1 9 htk, aI G k2 8 wmk, aI G k3 8 sek, aI G k4 8 cdk, aI G k5 8 slk, aI G k6 8 odk, aI G k7 72 owk] H := hP
  have hD : va_D A [(n, .inr (1, [.ref n1, .ref n2, .ref n3, .ref n4, .ref n5, .ref n6, .ref n7, .int lo, .int mi, .int sd])), aI G n1 9 (va_cpy htk ht 0 0 9), aI G n2 8 (va_cpy wmk wm 0 0 8), aI G n3 8 (va_cpy sek se 0 0 8), aI G n4 8 (va_cpy cdk cd 0 0 8), aI G n5 8 (va_cpy slk sl 0 0 8), aI G n6 8 (va_cpy odk od 0 0 8), aI G n7 72 (va_cpy owk ow 0 0 72), (k, .inr (1, [.ref k1, .ref k2, .ref k3, .ref k4, .ref k5, .ref k6, .ref k7, .int lok, .int mik, .int sdk])), aI G k1 9 htk, aI G k2 8 wmk, aI G k3 8 sek, aI G k4 8 cdk, aI G k5 8 slk, aI G k6 8 odk, aI G k7 72 owk] := hD
  refine lv_aload_n hx hb dX1_copyFrom_105 rfl (lv_at hl 0 rfl) ?_
  refine lv_aload_n hx hb dX1_copyFrom_106 rfl (lv_at hl 1 rfl) ?_
  refine va_get (D := G.1) (ci := 1) (v := .int lok) (C := RX1) (T := TX1) (N := 10) hx hb hts hinX1 hown hKK.1 hP 8 rfl rfl 7 (by decide) kl48 (fun _ h9 => h9) rfl dX1_copyFrom_107 ?_
  refine va_put (D := G.1) (ci := 1) (v := .int lok) (ty := .int) (C := RX1) (T := TX1) (N := 10) hx hb hts hinX1 tyX1 tyX1_ok nmX1 hown hKK.1 hP hD hS 0 rfl rfl 7 (by decide) kl48 (fun _ h9 => h9) rfl (by decide +kernel) rfl rfl (Nat.le_of_ble_eq_true rfl) dX1_copyFrom_110 (fun H locs hP hD hS => ?_)
  have hP : va_P G.1 vwCl [(n, .inr (1, [.ref n1, .ref n2, .ref n3, .ref n4, .ref n5, .ref n6, .ref n7, .int lok, .int mi, .int sd])), aI G n1 9 (va_cpy htk ht 0 0 9), aI G n2 8 (va_cpy wmk wm 0 0 8), aI G n3 8 (va_cpy sek se 0 0 8), aI G n4 8 (va_cpy cdk cd 0 0 8), aI G n5 8 (va_cpy slk sl 0 0 8), aI G n6 8 (va_cpy odk od 0 0 8), aI G n7 72 (va_cpy owk ow 0 0 72), (k, .inr (1, [.ref k1, .ref k2, .ref k3, .ref k4, .ref k5, .ref k6, .ref k7, .int lok, .int mik, .int sdk])), aI G k1 9 htk, aI G k2 8 wmk, aI G k3 8 sek, aI G k4 8 cdk, aI G k5 8 slk, aI G k6 8 odk, aI G k7 72 owk] H := hP
  have hD : va_D A [(n, .inr (1, [.ref n1, .ref n2, .ref n3, .ref n4, .ref n5, .ref n6, .ref n7, .int lok, .int mi, .int sd])), aI G n1 9 (va_cpy htk ht 0 0 9), aI G n2 8 (va_cpy wmk wm 0 0 8), aI G n3 8 (va_cpy sek se 0 0 8), aI G n4 8 (va_cpy cdk cd 0 0 8), aI G n5 8 (va_cpy slk sl 0 0 8), aI G n6 8 (va_cpy odk od 0 0 8), aI G n7 72 (va_cpy owk ow 0 0 72), (k, .inr (1, [.ref k1, .ref k2, .ref k3, .ref k4, .ref k5, .ref k6, .ref k7, .int lok, .int mik, .int sdk])), aI G k1 9 htk, aI G k2 8 wmk, aI G k3 8 sek, aI G k4 8 cdk, aI G k5 8 slk, aI G k6 8 odk, aI G k7 72 owk] := hD
  refine lv_aload_n hx hb dX1_copyFrom_113 rfl (lv_at hl 0 rfl) ?_
  refine lv_aload_n hx hb dX1_copyFrom_114 rfl (lv_at hl 1 rfl) ?_
  refine va_get (D := G.1) (ci := 1) (v := .int mik) (C := RX1) (T := TX1) (N := 10) hx hb hts hinX1 hown hKK.1 hP 8 rfl rfl 8 (by decide) kl51 (fun _ h9 => h9) rfl dX1_copyFrom_115 ?_
  refine va_put (D := G.1) (ci := 1) (v := .int mik) (ty := .int) (C := RX1) (T := TX1) (N := 10) hx hb hts hinX1 tyX1 tyX1_ok nmX1 hown hKK.1 hP hD hS 0 rfl rfl 8 (by decide) kl51 (fun _ h9 => h9) rfl (by decide +kernel) rfl rfl (Nat.le_of_ble_eq_true rfl) dX1_copyFrom_118 (fun H locs hP hD hS => ?_)
  have hP : va_P G.1 vwCl [(n, .inr (1, [.ref n1, .ref n2, .ref n3, .ref n4, .ref n5, .ref n6, .ref n7, .int lok, .int mik, .int sd])), aI G n1 9 (va_cpy htk ht 0 0 9), aI G n2 8 (va_cpy wmk wm 0 0 8), aI G n3 8 (va_cpy sek se 0 0 8), aI G n4 8 (va_cpy cdk cd 0 0 8), aI G n5 8 (va_cpy slk sl 0 0 8), aI G n6 8 (va_cpy odk od 0 0 8), aI G n7 72 (va_cpy owk ow 0 0 72), (k, .inr (1, [.ref k1, .ref k2, .ref k3, .ref k4, .ref k5, .ref k6, .ref k7, .int lok, .int mik, .int sdk])), aI G k1 9 htk, aI G k2 8 wmk, aI G k3 8 sek, aI G k4 8 cdk, aI G k5 8 slk, aI G k6 8 odk, aI G k7 72 owk] H := hP
  have hD : va_D A [(n, .inr (1, [.ref n1, .ref n2, .ref n3, .ref n4, .ref n5, .ref n6, .ref n7, .int lok, .int mik, .int sd])), aI G n1 9 (va_cpy htk ht 0 0 9), aI G n2 8 (va_cpy wmk wm 0 0 8), aI G n3 8 (va_cpy sek se 0 0 8), aI G n4 8 (va_cpy cdk cd 0 0 8), aI G n5 8 (va_cpy slk sl 0 0 8), aI G n6 8 (va_cpy odk od 0 0 8), aI G n7 72 (va_cpy owk ow 0 0 72), (k, .inr (1, [.ref k1, .ref k2, .ref k3, .ref k4, .ref k5, .ref k6, .ref k7, .int lok, .int mik, .int sdk])), aI G k1 9 htk, aI G k2 8 wmk, aI G k3 8 sek, aI G k4 8 cdk, aI G k5 8 slk, aI G k6 8 odk, aI G k7 72 owk] := hD
  refine lv_aload_n hx hb dX1_copyFrom_121 rfl (lv_at hl 0 rfl) ?_
  refine lv_aload_n hx hb dX1_copyFrom_122 rfl (lv_at hl 1 rfl) ?_
  refine va_get (D := G.1) (ci := 1) (v := .int sdk) (C := RX1) (T := TX1) (N := 10) hx hb hts hinX1 hown hKK.1 hP 8 rfl rfl 9 (by decide) kl60 (fun _ h9 => h9) rfl dX1_copyFrom_123 ?_
  refine va_put (D := G.1) (ci := 1) (v := .int sdk) (ty := .int) (C := RX1) (T := TX1) (N := 10) hx hb hts hinX1 tyX1 tyX1_ok nmX1 hown hKK.1 hP hD hS 0 rfl rfl 9 (by decide) kl60 (fun _ h9 => h9) rfl (by decide +kernel) rfl rfl (Nat.le_of_ble_eq_true rfl) dX1_copyFrom_126 (fun H locs hP hD hS => ?_)
  have hP : va_P G.1 vwCl [(n, .inr (1, [.ref n1, .ref n2, .ref n3, .ref n4, .ref n5, .ref n6, .ref n7, .int lok, .int mik, .int sdk])), aI G n1 9 (va_cpy htk ht 0 0 9), aI G n2 8 (va_cpy wmk wm 0 0 8), aI G n3 8 (va_cpy sek se 0 0 8), aI G n4 8 (va_cpy cdk cd 0 0 8), aI G n5 8 (va_cpy slk sl 0 0 8), aI G n6 8 (va_cpy odk od 0 0 8), aI G n7 72 (va_cpy owk ow 0 0 72), (k, .inr (1, [.ref k1, .ref k2, .ref k3, .ref k4, .ref k5, .ref k6, .ref k7, .int lok, .int mik, .int sdk])), aI G k1 9 htk, aI G k2 8 wmk, aI G k3 8 sek, aI G k4 8 cdk, aI G k5 8 slk, aI G k6 8 odk, aI G k7 72 owk] H := hP
  have hD : va_D A [(n, .inr (1, [.ref n1, .ref n2, .ref n3, .ref n4, .ref n5, .ref n6, .ref n7, .int lok, .int mik, .int sdk])), aI G n1 9 (va_cpy htk ht 0 0 9), aI G n2 8 (va_cpy wmk wm 0 0 8), aI G n3 8 (va_cpy sek se 0 0 8), aI G n4 8 (va_cpy cdk cd 0 0 8), aI G n5 8 (va_cpy slk sl 0 0 8), aI G n6 8 (va_cpy odk od 0 0 8), aI G n7 72 (va_cpy owk ow 0 0 72), (k, .inr (1, [.ref k1, .ref k2, .ref k3, .ref k4, .ref k5, .ref k6, .ref k7, .int lok, .int mik, .int sdk])), aI G k1 9 htk, aI G k2 8 wmk, aI G k3 8 sek, aI G k4 8 cdk, aI G k5 8 slk, aI G k6 8 odk, aI G k7 72 owk] := hD
  exact x_vret ((va_cpy htk ht 0 0 9), (va_cpy wmk wm 0 0 8), (va_cpy sek se 0 0 8), (va_cpy cdk cd 0 0 8), (va_cpy slk sl 0 0 8), (va_cpy odk od 0 0 8), (va_cpy owk ow 0 0 72), lok, mik, sdk) hQ hx hb hr hlocks hS dX1_copyFrom_129 hv hP hD
theorem v_X1_copyFrom (l : Launch) (G : Gt) (n n1 n2 n3 n4 n5 n6 n7 k k1 k2 k3 k4 k5 k6 k7 : Nat) (sz : Nat) (ht : Nat → Int32) (wm : Nat → Int32) (se : Nat → Int32) (cd : Nat → Int32) (sl : Nat → Int32) (od : Nat → Int32) (ow : Nat → Int32) (lo : Int32) (mi : Int32) (sd : Int32) (htk : Nat → Int32) (wmk : Nat → Int32) (sek : Nat → Int32) (cdk : Nat → Int32) (slk : Nat → Int32) (odk : Nat → Int32) (owk : Nat → Int32) (lok : Int32) (mik : Int32) (sdk : Int32) (Ns : Nat) (Np : Nat) (v : Nat → Int) (hp : CN Ns Np v htk wmk sek cdk slk odk owk lok mik sdk ∧ Ns ≤ 9 ∧ Np ≤ 8) : CN Ns Np v (va_cpy htk ht 0 0 9) (va_cpy wmk wm 0 0 8) (va_cpy sek se 0 0 8) (va_cpy cdk cd 0 0 8) (va_cpy slk sl 0 0 8) (va_cpy odk od 0 0 8) (va_cpy owk ow 0 0 72) lok mik sdk := by
  obtain ⟨hN, h9, h8⟩ := hp
  exact CN_cpy hN h9 h8
theorem k_X1_copyFrom (l : Launch) (G : Gt) (n n1 n2 n3 n4 n5 n6 n7 k k1 k2 k3 k4 k5 k6 k7 : Nat) (sz : Nat) (ht : Nat → Int32) (wm : Nat → Int32) (se : Nat → Int32) (cd : Nat → Int32) (sl : Nat → Int32) (od : Nat → Int32) (ow : Nat → Int32) (lo : Int32) (mi : Int32) (sd : Int32) (htk : Nat → Int32) (wmk : Nat → Int32) (sek : Nat → Int32) (cdk : Nat → Int32) (slk : Nat → Int32) (odk : Nat → Int32) (owk : Nat → Int32) (lok : Int32) (mik : Int32) (sdk : Int32) (Ns : Nat) (Np : Nat) (v : Nat → Int) (hp : CN Ns Np v htk wmk sek cdk slk odk owk lok mik sdk ∧ Ns ≤ 9 ∧ Np ≤ 8) : MetV l yX1_copyFrom wsX1_copyFrom 1 30 G [.ref n, .ref k] [(n, .inr (1, [.ref n1, .ref n2, .ref n3, .ref n4, .ref n5, .ref n6, .ref n7, .int lo, .int mi, .int sd])), aI G n1 9 ht, aI G n2 8 wm, aI G n3 8 se, aI G n4 8 cd, aI G n5 8 sl, aI G n6 8 od, aI G n7 72 ow, (k, .inr (1, [.ref k1, .ref k2, .ref k3, .ref k4, .ref k5, .ref k6, .ref k7, .int lok, .int mik, .int sdk])), aI G k1 9 htk, aI G k2 8 wmk, aI G k3 8 sek, aI G k4 8 cdk, aI G k5 8 slk, aI G k6 8 odk, aI G k7 72 owk] sz (fun (u : (Nat → Int32) × (Nat → Int32) × (Nat → Int32) × (Nat → Int32) × (Nat → Int32) × (Nat → Int32) × (Nat → Int32) × (Int32) × (Int32) × (Int32)) => CN Ns Np v u.1 u.2.1 u.2.2.1 u.2.2.2.1 u.2.2.2.2.1 u.2.2.2.2.2.1 u.2.2.2.2.2.2.1 u.2.2.2.2.2.2.2.1 u.2.2.2.2.2.2.2.2.1 u.2.2.2.2.2.2.2.2.2) (fun (u : (Nat → Int32) × (Nat → Int32) × (Nat → Int32) × (Nat → Int32) × (Nat → Int32) × (Nat → Int32) × (Nat → Int32) × (Int32) × (Int32) × (Int32)) => [(n, .inr (1, [.ref n1, .ref n2, .ref n3, .ref n4, .ref n5, .ref n6, .ref n7, .int u.2.2.2.2.2.2.2.1, .int u.2.2.2.2.2.2.2.2.1, .int u.2.2.2.2.2.2.2.2.2])), aI G n1 9 u.1, aI G n2 8 u.2.1, aI G n3 8 u.2.2.1, aI G n4 8 u.2.2.2.1, aI G n5 8 u.2.2.2.2.1, aI G n6 8 u.2.2.2.2.2.1, aI G n7 72 u.2.2.2.2.2.2.1, (k, .inr (1, [.ref k1, .ref k2, .ref k3, .ref k4, .ref k5, .ref k6, .ref k7, .int lok, .int mik, .int sdk])), aI G k1 9 htk, aI G k2 8 wmk, aI G k3 8 sek, aI G k4 8 cdk, aI G k5 8 slk, aI G k6 8 odk, aI G k7 72 owk]) :=
  c_X1_copyFrom l G n n1 n2 n3 n4 n5 n6 n7 k k1 k2 k3 k4 k5 k6 k7 sz ht wm se cd sl od ow lo mi sd htk wmk sek cdk slk odk owk lok mik sdk Ns Np v (v_X1_copyFrom l G n n1 n2 n3 n4 n5 n6 n7 k k1 k2 k3 k4 k5 k6 k7 sz ht wm se cd sl od ow lo mi sd htk wmk sek cdk slk odk owk lok mik sdk Ns Np v hp)
