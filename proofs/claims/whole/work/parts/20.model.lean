set_option maxHeartbeats 4000000 in
set_option maxRecDepth 100000 in
theorem c_X8_in (l : Launch) (G : Gt) (sz : Nat) (x : Int64) (y : Int64) (z : Int64) (hv : (x < y → (0 : Int32) = (if ¬ x < y ∧ ¬ z < x then 1 else 0)) ∧ (¬ (x < y) → (z < x → (0 : Int32) = (if ¬ x < y ∧ ¬ z < x then 1 else 0)) ∧ (¬ (z < x) → (1 : Int32) = (if ¬ x < y ∧ ¬ z < x then 1 else 0)))) : MetI l yX8_in wsX8_in 0 0 G [.long x, .long y, .long z] [] sz (fun (r : Int32) (_ : Unit) => (r : Int32) = (if ¬ x < y ∧ ¬ z < x then 1 else 0)) (fun (_ : Unit) => []) := by
  refine x_startI (cc := cX8_in) (maxL := 6) (ret := (some .boolean)) (by decide) rfl (Nat.le_of_ble_eq_true rfl) ?_
  intro p e s m args below meth c A R Q ls hRf hRl hQ C hP hD hS hA hSS hl
  obtain ⟨hx, hb, hr, hml, hown, hts, hlocks, hKK⟩ := C
  have hown : s.vm.findClass RX8 = some m.cls := hown
  have hl : lv_has ls 6 [(0, .long x), (2, .long y), (4, .long z)] := hl
  refine lv_lload_n hx hb dX8_in_0 rfl (lv_at hl 0 rfl) ?_
  refine lv_lload_n hx hb dX8_in_1 rfl (lv_at hl 1 rfl) ?_
  refine W.lcmp hx hb dX8_in_2 ?_
  refine lv_if_lt (tgt := 17) hx hb dX8_in_3 (by decide) (fun hc_1 => ?_) (fun hc_1 => ?_)
  · have hv := hv.1 ((lg_cmp_lt _ _).mp hc_1)
    refine lv_iconst (v := 0) hx hb dX8_in_17 (by decide) ?_
    exact x_zret (v := 0) () hQ hx hb hr hlocks hS dX8_in_18 rfl hv hP hD
  · have hv := hv.2 (fun h => hc_1 ((lg_cmp_lt _ _).mpr h))
    refine lv_lload_n hx hb dX8_in_6 rfl (lv_at hl 0 rfl) ?_
    refine lv_lload hx hb dX8_in_7 (lv_at hl 2 rfl) ?_
    refine W.lcmp hx hb dX8_in_9 ?_
    refine lv_if_gt (tgt := 17) hx hb dX8_in_10 (by decide) (fun hc_2 => ?_) (fun hc_2 => ?_)
    · have hv := hv.1 ((lg_cmp_gt _ _).mp hc_2)
      refine lv_iconst (v := 0) hx hb dX8_in_17 (by decide) ?_
      exact x_zret (v := 0) () hQ hx hb hr hlocks hS dX8_in_18 rfl hv hP hD
    · have hv := hv.2 (fun h => hc_2 ((lg_cmp_gt _ _).mpr h))
      refine lv_iconst (v := 1) hx hb dX8_in_13 (by decide) ?_
      refine lv_goto (tgt := 18) hx hb dX8_in_14 (by decide) ?_
      exact x_zret (v := 1) () hQ hx hb hr hlocks hS dX8_in_18 rfl hv hP hD
theorem v_X8_in (l : Launch) (G : Gt) (sz : Nat) (x : Int64) (y : Int64) (z : Int64) : (x < y → (0 : Int32) = (if ¬ x < y ∧ ¬ z < x then 1 else 0)) ∧ (¬ (x < y) → (z < x → (0 : Int32) = (if ¬ x < y ∧ ¬ z < x then 1 else 0)) ∧ (¬ (z < x) → (1 : Int32) = (if ¬ x < y ∧ ¬ z < x then 1 else 0))) := by
  simp_all
theorem k_X8_in (l : Launch) (G : Gt) (sz : Nat) (x : Int64) (y : Int64) (z : Int64) : MetI l yX8_in wsX8_in 0 0 G [.long x, .long y, .long z] [] sz (fun (r : Int32) (_ : Unit) => (r : Int32) = (if ¬ x < y ∧ ¬ z < x then 1 else 0)) (fun (_ : Unit) => []) :=
  c_X8_in l G  sz x y z (v_X8_in l G  sz x y z)

set_option maxHeartbeats 4000000 in
set_option maxRecDepth 100000 in
theorem c_X8_one (l : Launch) (G : Gt) (sz : Nat) (x : Int32) (hv : (x = 0 → (0 : Int32) = (if x = 0 then 0 else 1)) ∧ (¬ (x = 0) → (1 : Int32) = (if x = 0 then 0 else 1))) : MetI l yX8_one wsX8_one 0 0 G [.int x] [] sz (fun (r : Int32) (_ : Unit) => (r : Int32) = (if x = 0 then 0 else 1)) (fun (_ : Unit) => []) := by
  refine x_startI (cc := cX8_one) (maxL := 1) (ret := (some .int)) (by decide) rfl (Nat.le_of_ble_eq_true rfl) ?_
  intro p e s m args below meth c A R Q ls hRf hRl hQ C hP hD hS hA hSS hl
  obtain ⟨hx, hb, hr, hml, hown, hts, hlocks, hKK⟩ := C
  have hown : s.vm.findClass RX8 = some m.cls := hown
  have hl : lv_has ls 1 [(0, .int x)] := hl
  refine lv_iload_n hx hb dX8_one_0 rfl (lv_at hl 0 rfl) ?_
  refine lv_if_eq (tgt := 8) hx hb dX8_one_1 (by decide) (fun hc_1 => ?_) (fun hc_1 => ?_)
  · have hv := hv.1 hc_1
    refine lv_iconst (v := 0) hx hb dX8_one_8 (by decide) ?_
    exact x_iret (v := 0) () hQ hx hb hr hlocks hS dX8_one_9 hv hP hD
  · have hv := hv.2 hc_1
    refine lv_iconst (v := 1) hx hb dX8_one_4 (by decide) ?_
    refine lv_goto (tgt := 9) hx hb dX8_one_5 (by decide) ?_
    exact x_iret (v := 1) () hQ hx hb hr hlocks hS dX8_one_9 hv hP hD
theorem v_X8_one (l : Launch) (G : Gt) (sz : Nat) (x : Int32) : (x = 0 → (0 : Int32) = (if x = 0 then 0 else 1)) ∧ (¬ (x = 0) → (1 : Int32) = (if x = 0 then 0 else 1)) := by
  simp_all
theorem k_X8_one (l : Launch) (G : Gt) (sz : Nat) (x : Int32) : MetI l yX8_one wsX8_one 0 0 G [.int x] [] sz (fun (r : Int32) (_ : Unit) => (r : Int32) = (if x = 0 then 0 else 1)) (fun (_ : Unit) => []) :=
  c_X8_one l G  sz x (v_X8_one l G  sz x)

set_option maxHeartbeats 4000000 in
set_option maxRecDepth 100000 in
theorem c_X8_greater (l : Launch) (G : Gt) (sz : Nat) (x : Int64) (y : Int64) (hv : (x ≤ y → (y : Int64) = (if y < x then x else y)) ∧ (¬ (x ≤ y) → (x : Int64) = (if y < x then x else y))) : MetL l yX8_greater wsX8_greater 0 0 G [.long x, .long y] [] sz (fun (r : Int64) (_ : Unit) => (r : Int64) = (if y < x then x else y)) (fun (_ : Unit) => []) := by
  refine x_startL (cc := cX8_greater) (maxL := 4) (ret := (some .long)) (by decide) rfl (Nat.le_of_ble_eq_true rfl) ?_
  intro p e s m args below meth c A R Q ls hRf hRl hQ C hP hD hS hA hSS hl
  obtain ⟨hx, hb, hr, hml, hown, hts, hlocks, hKK⟩ := C
  have hown : s.vm.findClass RX8 = some m.cls := hown
  have hl : lv_has ls 4 [(0, .long x), (2, .long y)] := hl
  refine lv_lload_n hx hb dX8_greater_0 rfl (lv_at hl 0 rfl) ?_
  refine lv_lload_n hx hb dX8_greater_1 rfl (lv_at hl 1 rfl) ?_
  refine W.lcmp hx hb dX8_greater_2 ?_
  refine lv_if_le (tgt := 10) hx hb dX8_greater_3 (by decide) (fun hc_1 => ?_) (fun hc_1 => ?_)
  · have hv := hv.1 ((lg_cmp_le _ _).mp hc_1)
    refine lv_lload_n hx hb dX8_greater_10 rfl (lv_at hl 1 rfl) ?_
    exact x_lret (v := y) () hQ hx hb hr hlocks hS dX8_greater_11 hv hP hD
  · have hv := hv.2 (fun h => hc_1 ((lg_cmp_le _ _).mpr h))
    refine lv_lload_n hx hb dX8_greater_6 rfl (lv_at hl 0 rfl) ?_
    refine lv_goto (tgt := 11) hx hb dX8_greater_7 (by decide) ?_
    exact x_lret (v := x) () hQ hx hb hr hlocks hS dX8_greater_11 hv hP hD
theorem v_X8_greater (l : Launch) (G : Gt) (sz : Nat) (x : Int64) (y : Int64) : (x ≤ y → (y : Int64) = (if y < x then x else y)) ∧ (¬ (x ≤ y) → (x : Int64) = (if y < x then x else y)) := by
  refine ⟨fun h => ?_, fun h => ?_⟩
  · rw [if_neg (Int64.not_lt.mpr h)]
  · rw [if_pos (Int64.not_le.mp h)]
theorem k_X8_greater (l : Launch) (G : Gt) (sz : Nat) (x : Int64) (y : Int64) : MetL l yX8_greater wsX8_greater 0 0 G [.long x, .long y] [] sz (fun (r : Int64) (_ : Unit) => (r : Int64) = (if y < x then x else y)) (fun (_ : Unit) => []) :=
  c_X8_greater l G  sz x y (v_X8_greater l G  sz x y)

set_option maxHeartbeats 4000000 in
set_option maxRecDepth 100000 in
theorem c_X8_less (l : Launch) (G : Gt) (sz : Nat) (x : Int64) (y : Int64) (hv : (y ≤ x → (y : Int64) = (if x < y then x else y)) ∧ (¬ (y ≤ x) → (x : Int64) = (if x < y then x else y))) : MetL l yX8_less wsX8_less 0 0 G [.long x, .long y] [] sz (fun (r : Int64) (_ : Unit) => (r : Int64) = (if x < y then x else y)) (fun (_ : Unit) => []) := by
  refine x_startL (cc := cX8_less) (maxL := 4) (ret := (some .long)) (by decide) rfl (Nat.le_of_ble_eq_true rfl) ?_
  intro p e s m args below meth c A R Q ls hRf hRl hQ C hP hD hS hA hSS hl
  obtain ⟨hx, hb, hr, hml, hown, hts, hlocks, hKK⟩ := C
  have hown : s.vm.findClass RX8 = some m.cls := hown
  have hl : lv_has ls 4 [(0, .long x), (2, .long y)] := hl
  refine lv_lload_n hx hb dX8_less_0 rfl (lv_at hl 0 rfl) ?_
  refine lv_lload_n hx hb dX8_less_1 rfl (lv_at hl 1 rfl) ?_
  refine W.lcmp hx hb dX8_less_2 ?_
  refine lv_if_ge (tgt := 10) hx hb dX8_less_3 (by decide) (fun hc_1 => ?_) (fun hc_1 => ?_)
  · have hv := hv.1 ((lg_cmp_ge _ _).mp hc_1)
    refine lv_lload_n hx hb dX8_less_10 rfl (lv_at hl 1 rfl) ?_
    exact x_lret (v := y) () hQ hx hb hr hlocks hS dX8_less_11 hv hP hD
  · have hv := hv.2 (fun h => hc_1 ((lg_cmp_ge _ _).mpr h))
    refine lv_lload_n hx hb dX8_less_6 rfl (lv_at hl 0 rfl) ?_
    refine lv_goto (tgt := 11) hx hb dX8_less_7 (by decide) ?_
    exact x_lret (v := x) () hQ hx hb hr hlocks hS dX8_less_11 hv hP hD
theorem v_X8_less (l : Launch) (G : Gt) (sz : Nat) (x : Int64) (y : Int64) : (y ≤ x → (y : Int64) = (if x < y then x else y)) ∧ (¬ (y ≤ x) → (x : Int64) = (if x < y then x else y)) := by
  refine ⟨fun h => ?_, fun h => ?_⟩
  · rw [if_neg (Int64.not_lt.mpr h)]
  · rw [if_pos (Int64.not_le.mp h)]
theorem k_X8_less (l : Launch) (G : Gt) (sz : Nat) (x : Int64) (y : Int64) : MetL l yX8_less wsX8_less 0 0 G [.long x, .long y] [] sz (fun (r : Int64) (_ : Unit) => (r : Int64) = (if x < y then x else y)) (fun (_ : Unit) => []) :=
  c_X8_less l G  sz x y (v_X8_less l G  sz x y)

set_option maxHeartbeats 4000000 in
set_option maxRecDepth 100000 in
theorem c_X8_isStone (l : Launch) (G : Gt) (m0 m1 m2 m3 m4 m5 m6 m7 m8 m9 m10 m11 m12 m13 m14 : Nat) (sz : Nat) (mw : Nat → Int64) (ik : Nat → Int32) (zs : Nat → Int32) (cl : Nat → Int32) (hs : Nat → Int32) (ks : Nat → Int32) (wa : Nat → Int32) (ne : Nat → Int32) (mn : Nat → Int32) (tx : Nat → Int32) (th : Nat → Int32) (od : Nat → Int32) (bk : Nat → Int32) (bh : Nat → Int32) (fu : Int32) (fd : Int32) (fi : Int32) (nu : Int32) (nw : Int32) (nf : Int32) (bf : Int32) (bn : Int32) (ts : Int32) (ap : Int32) (fs : Int32) (ln : Int32) (fo : Int32) (fa : Int32) (wr : Int32) (x : Int32) (hv : (narrow .boolean (.int (if ¬ x.toInt64 < 0 ∧ ¬ (((mn 0) - 1).toInt64) < x.toInt64 then 1 else 0)) = .int (if ¬ x.toInt64 < 0 ∧ ¬ (((mn 0) - 1).toInt64) < x.toInt64 then 1 else 0)) ∧ ((if ¬ x.toInt64 < 0 ∧ ¬ (((mn 0) - 1).toInt64) < x.toInt64 then 1 else 0) : Int32) = (if inR x (mn 0) then 1 else 0)) : MetI l yX8_isStone wsX8_isStone 1 25 G [.ref m0, .int x] [(m0, .inr (8, [.ref m1, .ref m2, .ref m3, .ref m4, .ref m5, .ref m6, .ref m7, .ref m8, .ref m9, .int fu, .int fd, .int fi, .int nu, .int nw, .int nf, .int bf, .int bn, .ref m10, .int ts, .int ap, .int fs, .int ln, .int fo, .int fa, .ref m11, .ref m12, .ref m13, .ref m14, .int wr])), aJ G m1 560 mw, aZ G m2 2 ik, aI G m3 20 zs, aI G m4 20 cl, aI G m5 20 hs, aI G m6 20 ks, aI G m7 20 wa, aI G m8 20 ne, aI G m9 4 mn, aI G m10 400 tx, aI G m11 6 th, aI G m12 6 od, aI G m13 30 bk, aI G m14 30 bh] sz (fun (r : Int32) (_ : Unit) => (r : Int32) = (if inR x (mn 0) then 1 else 0)) (fun (_ : Unit) => [(m0, .inr (8, [.ref m1, .ref m2, .ref m3, .ref m4, .ref m5, .ref m6, .ref m7, .ref m8, .ref m9, .int fu, .int fd, .int fi, .int nu, .int nw, .int nf, .int bf, .int bn, .ref m10, .int ts, .int ap, .int fs, .int ln, .int fo, .int fa, .ref m11, .ref m12, .ref m13, .ref m14, .int wr])), aJ G m1 560 mw, aZ G m2 2 ik, aI G m3 20 zs, aI G m4 20 cl, aI G m5 20 hs, aI G m6 20 ks, aI G m7 20 wa, aI G m8 20 ne, aI G m9 4 mn, aI G m10 400 tx, aI G m11 6 th, aI G m12 6 od, aI G m13 30 bk, aI G m14 30 bh]) := by
  refine x_startI (cc := cX8_isStone) (maxL := 2) (ret := (some .boolean)) (by decide) rfl (Nat.le_of_ble_eq_true rfl) ?_
  intro p e s m args below meth c A R Q ls hRf hRl hQ C hP hD hS hA hSS hl
  obtain ⟨hx, hb, hr, hml, hown, hts, hlocks, hKK⟩ := C
  have hown : s.vm.findClass RX8 = some m.cls := hown
  have hl : lv_has ls 2 [(0, .ref m0), (1, .int x)] := hl
  have hinX8 : ∀ w ∈ u_ws RX8 TX8 29, w ∈ wsX8_isStone := by decide +kernel
  have kl36 := hts (.fieldLink RX8 36 "WarmStonesModel" "many" "[I") (by decide +kernel)
  refine lv_iload_n hx hb dX8_isStone_0 rfl (lv_at hl 1 rfl) ?_
  refine lv_i2l hx hb dX8_isStone_1 rfl ?_
  refine lv_lconst (v := 0) hx hb dX8_isStone_2 (by decide) ?_
  refine lv_aload_n hx hb dX8_isStone_3 rfl (lv_at hl 0 rfl) ?_
  refine va_get (D := G.1) (ci := 8) (v := .ref m9) (C := RX8) (T := TX8) (N := 29) hx hb hts hinX8 hown hKK.1 hP 0 rfl rfl 8 (by decide) kl36 (fun _ h9 => h9) rfl dX8_isStone_4 ?_
  refine lv_iconst (v := 0) hx hb dX8_isStone_7 (by decide) ?_
  refine va_iald hx hb hKK.1 hP 9 0 rfl rfl (by unfold vp_in; decide) dX8_isStone_8 ?_
  refine lv_iconst (v := 1) hx hb dX8_isStone_9 (by decide) ?_
  refine lv_isub hx hb dX8_isStone_10 ?_
  refine lv_i2l hx hb dX8_isStone_11 rfl ?_
  refine x_calliR (x_runS (As := [.long x.toInt64, .long 0, .long (((mn 0) - 1).toInt64)]) (rest := []) (n := 3) ⟨hx, hb, hml, hown, hts⟩ (k_X8_in l G  _ x.toInt64 0 (((mn 0) - 1).toInt64)) gX8_isStone_X8_in rfl (by decide +kernel) ⟨Nat.le_trans (Nat.le_of_ble_eq_true rfl) hRf, Nat.le_trans (Nat.le_of_ble_eq_true rfl) hRl⟩ hKK hSS hS hA hP hD [] (by decide) rfl rfl hl.1 rfl (Nat.le_of_ble_eq_true rfl) dX8_isStone_12) hP hD hS hA [] rfl (fun r_1 _ H locs hw hP hS => ?_)
  replace hw := hw.symm; subst hw
  exact x_zret (v := (if ¬ x.toInt64 < 0 ∧ ¬ (((mn 0) - 1).toInt64) < x.toInt64 then 1 else 0)) () hQ hx hb hr hlocks hS dX8_isStone_15 hv.1 hv.2 hP hD
theorem v_X8_isStone (l : Launch) (G : Gt) (m0 m1 m2 m3 m4 m5 m6 m7 m8 m9 m10 m11 m12 m13 m14 : Nat) (sz : Nat) (mw : Nat → Int64) (ik : Nat → Int32) (zs : Nat → Int32) (cl : Nat → Int32) (hs : Nat → Int32) (ks : Nat → Int32) (wa : Nat → Int32) (ne : Nat → Int32) (mn : Nat → Int32) (tx : Nat → Int32) (th : Nat → Int32) (od : Nat → Int32) (bk : Nat → Int32) (bh : Nat → Int32) (fu : Int32) (fd : Int32) (fi : Int32) (nu : Int32) (nw : Int32) (nf : Int32) (bf : Int32) (bn : Int32) (ts : Int32) (ap : Int32) (fs : Int32) (ln : Int32) (fo : Int32) (fa : Int32) (wr : Int32) (x : Int32) : (narrow .boolean (.int (if ¬ x.toInt64 < 0 ∧ ¬ (((mn 0) - 1).toInt64) < x.toInt64 then 1 else 0)) = .int (if ¬ x.toInt64 < 0 ∧ ¬ (((mn 0) - 1).toInt64) < x.toInt64 then 1 else 0)) ∧ ((if ¬ x.toInt64 < 0 ∧ ¬ (((mn 0) - 1).toInt64) < x.toInt64 then 1 else 0) : Int32) = (if inR x (mn 0) then 1 else 0) := by
  by_cases h : inR x (mn 0)
  · rw [if_pos h]; exact ⟨rfl, rfl⟩
  · rw [if_neg h]; exact ⟨rfl, rfl⟩
theorem k_X8_isStone (l : Launch) (G : Gt) (m0 m1 m2 m3 m4 m5 m6 m7 m8 m9 m10 m11 m12 m13 m14 : Nat) (sz : Nat) (mw : Nat → Int64) (ik : Nat → Int32) (zs : Nat → Int32) (cl : Nat → Int32) (hs : Nat → Int32) (ks : Nat → Int32) (wa : Nat → Int32) (ne : Nat → Int32) (mn : Nat → Int32) (tx : Nat → Int32) (th : Nat → Int32) (od : Nat → Int32) (bk : Nat → Int32) (bh : Nat → Int32) (fu : Int32) (fd : Int32) (fi : Int32) (nu : Int32) (nw : Int32) (nf : Int32) (bf : Int32) (bn : Int32) (ts : Int32) (ap : Int32) (fs : Int32) (ln : Int32) (fo : Int32) (fa : Int32) (wr : Int32) (x : Int32) : MetI l yX8_isStone wsX8_isStone 1 25 G [.ref m0, .int x] [(m0, .inr (8, [.ref m1, .ref m2, .ref m3, .ref m4, .ref m5, .ref m6, .ref m7, .ref m8, .ref m9, .int fu, .int fd, .int fi, .int nu, .int nw, .int nf, .int bf, .int bn, .ref m10, .int ts, .int ap, .int fs, .int ln, .int fo, .int fa, .ref m11, .ref m12, .ref m13, .ref m14, .int wr])), aJ G m1 560 mw, aZ G m2 2 ik, aI G m3 20 zs, aI G m4 20 cl, aI G m5 20 hs, aI G m6 20 ks, aI G m7 20 wa, aI G m8 20 ne, aI G m9 4 mn, aI G m10 400 tx, aI G m11 6 th, aI G m12 6 od, aI G m13 30 bk, aI G m14 30 bh] sz (fun (r : Int32) (_ : Unit) => (r : Int32) = (if inR x (mn 0) then 1 else 0)) (fun (_ : Unit) => [(m0, .inr (8, [.ref m1, .ref m2, .ref m3, .ref m4, .ref m5, .ref m6, .ref m7, .ref m8, .ref m9, .int fu, .int fd, .int fi, .int nu, .int nw, .int nf, .int bf, .int bn, .ref m10, .int ts, .int ap, .int fs, .int ln, .int fo, .int fa, .ref m11, .ref m12, .ref m13, .ref m14, .int wr])), aJ G m1 560 mw, aZ G m2 2 ik, aI G m3 20 zs, aI G m4 20 cl, aI G m5 20 hs, aI G m6 20 ks, aI G m7 20 wa, aI G m8 20 ne, aI G m9 4 mn, aI G m10 400 tx, aI G m11 6 th, aI G m12 6 od, aI G m13 30 bk, aI G m14 30 bh]) :=
  c_X8_isStone l G m0 m1 m2 m3 m4 m5 m6 m7 m8 m9 m10 m11 m12 m13 m14 sz mw ik zs cl hs ks wa ne mn tx th od bk bh fu fd fi nu nw nf bf bn ts ap fs ln fo fa wr x (v_X8_isStone l G m0 m1 m2 m3 m4 m5 m6 m7 m8 m9 m10 m11 m12 m13 m14 sz mw ik zs cl hs ks wa ne mn tx th od bk bh fu fd fi nu nw nf bf bn ts ap fs ln fo fa wr x)

set_option maxHeartbeats 4000000 in
set_option maxRecDepth 100000 in
theorem c_X8_isPerson (l : Launch) (G : Gt) (m0 m1 m2 m3 m4 m5 m6 m7 m8 m9 m10 m11 m12 m13 m14 : Nat) (sz : Nat) (mw : Nat → Int64) (ik : Nat → Int32) (zs : Nat → Int32) (cl : Nat → Int32) (hs : Nat → Int32) (ks : Nat → Int32) (wa : Nat → Int32) (ne : Nat → Int32) (mn : Nat → Int32) (tx : Nat → Int32) (th : Nat → Int32) (od : Nat → Int32) (bk : Nat → Int32) (bh : Nat → Int32) (fu : Int32) (fd : Int32) (fi : Int32) (nu : Int32) (nw : Int32) (nf : Int32) (bf : Int32) (bn : Int32) (ts : Int32) (ap : Int32) (fs : Int32) (ln : Int32) (fo : Int32) (fa : Int32) (wr : Int32) (x : Int32) (hv : (narrow .boolean (.int (if ¬ x.toInt64 < 0 ∧ ¬ (((mn 1) - 1).toInt64) < x.toInt64 then 1 else 0)) = .int (if ¬ x.toInt64 < 0 ∧ ¬ (((mn 1) - 1).toInt64) < x.toInt64 then 1 else 0)) ∧ ((if ¬ x.toInt64 < 0 ∧ ¬ (((mn 1) - 1).toInt64) < x.toInt64 then 1 else 0) : Int32) = (if inR x (mn 1) then 1 else 0)) : MetI l yX8_isPerson wsX8_isPerson 1 25 G [.ref m0, .int x] [(m0, .inr (8, [.ref m1, .ref m2, .ref m3, .ref m4, .ref m5, .ref m6, .ref m7, .ref m8, .ref m9, .int fu, .int fd, .int fi, .int nu, .int nw, .int nf, .int bf, .int bn, .ref m10, .int ts, .int ap, .int fs, .int ln, .int fo, .int fa, .ref m11, .ref m12, .ref m13, .ref m14, .int wr])), aJ G m1 560 mw, aZ G m2 2 ik, aI G m3 20 zs, aI G m4 20 cl, aI G m5 20 hs, aI G m6 20 ks, aI G m7 20 wa, aI G m8 20 ne, aI G m9 4 mn, aI G m10 400 tx, aI G m11 6 th, aI G m12 6 od, aI G m13 30 bk, aI G m14 30 bh] sz (fun (r : Int32) (_ : Unit) => (r : Int32) = (if inR x (mn 1) then 1 else 0)) (fun (_ : Unit) => [(m0, .inr (8, [.ref m1, .ref m2, .ref m3, .ref m4, .ref m5, .ref m6, .ref m7, .ref m8, .ref m9, .int fu, .int fd, .int fi, .int nu, .int nw, .int nf, .int bf, .int bn, .ref m10, .int ts, .int ap, .int fs, .int ln, .int fo, .int fa, .ref m11, .ref m12, .ref m13, .ref m14, .int wr])), aJ G m1 560 mw, aZ G m2 2 ik, aI G m3 20 zs, aI G m4 20 cl, aI G m5 20 hs, aI G m6 20 ks, aI G m7 20 wa, aI G m8 20 ne, aI G m9 4 mn, aI G m10 400 tx, aI G m11 6 th, aI G m12 6 od, aI G m13 30 bk, aI G m14 30 bh]) := by
  refine x_startI (cc := cX8_isPerson) (maxL := 2) (ret := (some .boolean)) (by decide) rfl (Nat.le_of_ble_eq_true rfl) ?_
  intro p e s m args below meth c A R Q ls hRf hRl hQ C hP hD hS hA hSS hl
  obtain ⟨hx, hb, hr, hml, hown, hts, hlocks, hKK⟩ := C
  have hown : s.vm.findClass RX8 = some m.cls := hown
  have hl : lv_has ls 2 [(0, .ref m0), (1, .int x)] := hl
  have hinX8 : ∀ w ∈ u_ws RX8 TX8 29, w ∈ wsX8_isPerson := by decide +kernel
  have kl36 := hts (.fieldLink RX8 36 "WarmStonesModel" "many" "[I") (by decide +kernel)
  refine lv_iload_n hx hb dX8_isPerson_0 rfl (lv_at hl 1 rfl) ?_
  refine lv_i2l hx hb dX8_isPerson_1 rfl ?_
  refine lv_lconst (v := 0) hx hb dX8_isPerson_2 (by decide) ?_
  refine lv_aload_n hx hb dX8_isPerson_3 rfl (lv_at hl 0 rfl) ?_
  refine va_get (D := G.1) (ci := 8) (v := .ref m9) (C := RX8) (T := TX8) (N := 29) hx hb hts hinX8 hown hKK.1 hP 0 rfl rfl 8 (by decide) kl36 (fun _ h9 => h9) rfl dX8_isPerson_4 ?_
  refine lv_iconst (v := 1) hx hb dX8_isPerson_7 (by decide) ?_
  refine va_iald hx hb hKK.1 hP 9 0 rfl rfl (by unfold vp_in; decide) dX8_isPerson_8 ?_
  refine lv_iconst (v := 1) hx hb dX8_isPerson_9 (by decide) ?_
  refine lv_isub hx hb dX8_isPerson_10 ?_
  refine lv_i2l hx hb dX8_isPerson_11 rfl ?_
  refine x_calliR (x_runS (As := [.long x.toInt64, .long 0, .long (((mn 1) - 1).toInt64)]) (rest := []) (n := 3) ⟨hx, hb, hml, hown, hts⟩ (k_X8_in l G  _ x.toInt64 0 (((mn 1) - 1).toInt64)) gX8_isPerson_X8_in rfl (by decide +kernel) ⟨Nat.le_trans (Nat.le_of_ble_eq_true rfl) hRf, Nat.le_trans (Nat.le_of_ble_eq_true rfl) hRl⟩ hKK hSS hS hA hP hD [] (by decide) rfl rfl hl.1 rfl (Nat.le_of_ble_eq_true rfl) dX8_isPerson_12) hP hD hS hA [] rfl (fun r_1 _ H locs hw hP hS => ?_)
  replace hw := hw.symm; subst hw
  exact x_zret (v := (if ¬ x.toInt64 < 0 ∧ ¬ (((mn 1) - 1).toInt64) < x.toInt64 then 1 else 0)) () hQ hx hb hr hlocks hS dX8_isPerson_15 hv.1 hv.2 hP hD
theorem v_X8_isPerson (l : Launch) (G : Gt) (m0 m1 m2 m3 m4 m5 m6 m7 m8 m9 m10 m11 m12 m13 m14 : Nat) (sz : Nat) (mw : Nat → Int64) (ik : Nat → Int32) (zs : Nat → Int32) (cl : Nat → Int32) (hs : Nat → Int32) (ks : Nat → Int32) (wa : Nat → Int32) (ne : Nat → Int32) (mn : Nat → Int32) (tx : Nat → Int32) (th : Nat → Int32) (od : Nat → Int32) (bk : Nat → Int32) (bh : Nat → Int32) (fu : Int32) (fd : Int32) (fi : Int32) (nu : Int32) (nw : Int32) (nf : Int32) (bf : Int32) (bn : Int32) (ts : Int32) (ap : Int32) (fs : Int32) (ln : Int32) (fo : Int32) (fa : Int32) (wr : Int32) (x : Int32) : (narrow .boolean (.int (if ¬ x.toInt64 < 0 ∧ ¬ (((mn 1) - 1).toInt64) < x.toInt64 then 1 else 0)) = .int (if ¬ x.toInt64 < 0 ∧ ¬ (((mn 1) - 1).toInt64) < x.toInt64 then 1 else 0)) ∧ ((if ¬ x.toInt64 < 0 ∧ ¬ (((mn 1) - 1).toInt64) < x.toInt64 then 1 else 0) : Int32) = (if inR x (mn 1) then 1 else 0) := by
  by_cases h : inR x (mn 1)
  · rw [if_pos h]; exact ⟨rfl, rfl⟩
  · rw [if_neg h]; exact ⟨rfl, rfl⟩
theorem k_X8_isPerson (l : Launch) (G : Gt) (m0 m1 m2 m3 m4 m5 m6 m7 m8 m9 m10 m11 m12 m13 m14 : Nat) (sz : Nat) (mw : Nat → Int64) (ik : Nat → Int32) (zs : Nat → Int32) (cl : Nat → Int32) (hs : Nat → Int32) (ks : Nat → Int32) (wa : Nat → Int32) (ne : Nat → Int32) (mn : Nat → Int32) (tx : Nat → Int32) (th : Nat → Int32) (od : Nat → Int32) (bk : Nat → Int32) (bh : Nat → Int32) (fu : Int32) (fd : Int32) (fi : Int32) (nu : Int32) (nw : Int32) (nf : Int32) (bf : Int32) (bn : Int32) (ts : Int32) (ap : Int32) (fs : Int32) (ln : Int32) (fo : Int32) (fa : Int32) (wr : Int32) (x : Int32) : MetI l yX8_isPerson wsX8_isPerson 1 25 G [.ref m0, .int x] [(m0, .inr (8, [.ref m1, .ref m2, .ref m3, .ref m4, .ref m5, .ref m6, .ref m7, .ref m8, .ref m9, .int fu, .int fd, .int fi, .int nu, .int nw, .int nf, .int bf, .int bn, .ref m10, .int ts, .int ap, .int fs, .int ln, .int fo, .int fa, .ref m11, .ref m12, .ref m13, .ref m14, .int wr])), aJ G m1 560 mw, aZ G m2 2 ik, aI G m3 20 zs, aI G m4 20 cl, aI G m5 20 hs, aI G m6 20 ks, aI G m7 20 wa, aI G m8 20 ne, aI G m9 4 mn, aI G m10 400 tx, aI G m11 6 th, aI G m12 6 od, aI G m13 30 bk, aI G m14 30 bh] sz (fun (r : Int32) (_ : Unit) => (r : Int32) = (if inR x (mn 1) then 1 else 0)) (fun (_ : Unit) => [(m0, .inr (8, [.ref m1, .ref m2, .ref m3, .ref m4, .ref m5, .ref m6, .ref m7, .ref m8, .ref m9, .int fu, .int fd, .int fi, .int nu, .int nw, .int nf, .int bf, .int bn, .ref m10, .int ts, .int ap, .int fs, .int ln, .int fo, .int fa, .ref m11, .ref m12, .ref m13, .ref m14, .int wr])), aJ G m1 560 mw, aZ G m2 2 ik, aI G m3 20 zs, aI G m4 20 cl, aI G m5 20 hs, aI G m6 20 ks, aI G m7 20 wa, aI G m8 20 ne, aI G m9 4 mn, aI G m10 400 tx, aI G m11 6 th, aI G m12 6 od, aI G m13 30 bk, aI G m14 30 bh]) :=
  c_X8_isPerson l G m0 m1 m2 m3 m4 m5 m6 m7 m8 m9 m10 m11 m12 m13 m14 sz mw ik zs cl hs ks wa ne mn tx th od bk bh fu fd fi nu nw nf bf bn ts ap fs ln fo fa wr x (v_X8_isPerson l G m0 m1 m2 m3 m4 m5 m6 m7 m8 m9 m10 m11 m12 m13 m14 sz mw ik zs cl hs ks wa ne mn tx th od bk bh fu fd fi nu nw nf bf bn ts ap fs ln fo fa wr x)

set_option maxHeartbeats 4000000 in
set_option maxRecDepth 100000 in
theorem c_X8_sitter (l : Launch) (G : Gt) (m0 m1 m2 m3 m4 m5 m6 m7 m8 m9 m10 m11 m12 m13 m14 : Nat) (sz : Nat) (mw : Nat → Int64) (ik : Nat → Int32) (zs : Nat → Int32) (cl : Nat → Int32) (hs : Nat → Int32) (ks : Nat → Int32) (wa : Nat → Int32) (ne : Nat → Int32) (mn : Nat → Int32) (tx : Nat → Int32) (th : Nat → Int32) (od : Nat → Int32) (bk : Nat → Int32) (bh : Nat → Int32) (fu : Int32) (fd : Int32) (fi : Int32) (nu : Int32) (nw : Int32) (nf : Int32) (bf : Int32) (bn : Int32) (ts : Int32) (ap : Int32) (fs : Int32) (ln : Int32) (fo : Int32) (fa : Int32) (wr : Int32) (x : Int32) (y : Int32) (T : Nat → Nat → Int) (Ns : Nat) (Np : Nat) (X : Nat) (v : Nat → Int) (ib : Nat) (hv : ∃ (I2_2 : Int32 → Prop) (μ2_3 : Int32 → Nat), I2_2 0 ∧ (∀ (x3_1 : Int32), I2_2 x3_1 → ((mn 1) ≤ x3_1 → (((-1) : Int32) < 0 ↔ zEmpty v ib Np) ∧ ((-1) : Int32) = zSitter v ib Np) ∧ (¬ ((mn 1) ≤ x3_1) → (vp_in ((x + 20) + x3_1) 560) ∧ ((¬ (mw ((x + 20) + x3_1).toNatClampNeg) = y.toInt64 → I2_2 (x3_1 + 1) ∧ μ2_3 (x3_1 + 1) < μ2_3 x3_1) ∧ ((mw ((x + 20) + x3_1).toNatClampNeg) = y.toInt64 → (x3_1 < 0 ↔ zEmpty v ib Np) ∧ x3_1 = zSitter v ib Np))))) : MetI l yX8_sitter wsX8_sitter 0 0 G [.ref m0, .int x, .int y] [(m0, .inr (8, [.ref m1, .ref m2, .ref m3, .ref m4, .ref m5, .ref m6, .ref m7, .ref m8, .ref m9, .int fu, .int fd, .int fi, .int nu, .int nw, .int nf, .int bf, .int bn, .ref m10, .int ts, .int ap, .int fs, .int ln, .int fo, .int fa, .ref m11, .ref m12, .ref m13, .ref m14, .int wr])), aJ G m1 560 mw, aZ G m2 2 ik, aI G m3 20 zs, aI G m4 20 cl, aI G m5 20 hs, aI G m6 20 ks, aI G m7 20 wa, aI G m8 20 ne, aI G m9 4 mn, aI G m10 400 tx, aI G m11 6 th, aI G m12 6 od, aI G m13 30 bk, aI G m14 30 bh] sz (fun (r : Int32) (_ : Unit) => (r < 0 ↔ zEmpty v ib Np) ∧ r = zSitter v ib Np) (fun (_ : Unit) => [(m0, .inr (8, [.ref m1, .ref m2, .ref m3, .ref m4, .ref m5, .ref m6, .ref m7, .ref m8, .ref m9, .int fu, .int fd, .int fi, .int nu, .int nw, .int nf, .int bf, .int bn, .ref m10, .int ts, .int ap, .int fs, .int ln, .int fo, .int fa, .ref m11, .ref m12, .ref m13, .ref m14, .int wr])), aJ G m1 560 mw, aZ G m2 2 ik, aI G m3 20 zs, aI G m4 20 cl, aI G m5 20 hs, aI G m6 20 ks, aI G m7 20 wa, aI G m8 20 ne, aI G m9 4 mn, aI G m10 400 tx, aI G m11 6 th, aI G m12 6 od, aI G m13 30 bk, aI G m14 30 bh]) := by
  refine x_startI (cc := cX8_sitter) (maxL := 4) (ret := (some .int)) (by decide) rfl (Nat.le_of_ble_eq_true rfl) ?_
  intro p e s m args below meth c A R Q ls hRf hRl hQ C hP hD hS hA hSS hl
  obtain ⟨hx, hb, hr, hml, hown, hts, hlocks, hKK⟩ := C
  have hown : s.vm.findClass RX8 = some m.cls := hown
  have hl : lv_has ls 4 [(0, .ref m0), (1, .int x), (2, .int y)] := hl
  have hinX8 : ∀ w ∈ u_ws RX8 TX8 29, w ∈ wsX8_sitter := by decide +kernel
  have kl36 := hts (.fieldLink RX8 36 "WarmStonesModel" "many" "[I") (by decide +kernel)
  have kl7 := hts (.fieldLink RX8 7 "WarmStonesModel" "w" "[J") (by decide +kernel)
  refine lv_iconst (v := 0) hx hb dX8_sitter_0 (by decide) ?_
  refine lv_istore_n (lv' := [(3, .int 0), (0, .ref m0), (1, .int x), (2, .int y)]) hx hb dX8_sitter_1 rfl hl (by decide) rfl (fun ls hl => ?_)
  obtain ⟨I2_2, μ2_3, hi0, hs_8⟩ := hv
  have Lm_10 : ∀ (n_9 : Nat) (x3_1 : Int32) (H : Heap) (locs : List Loc) (ls : Array Slot), μ2_3 x3_1 < n_9 → I2_2 x3_1 → va_P G.1 vwCl [(m0, .inr (8, [.ref m1, .ref m2, .ref m3, .ref m4, .ref m5, .ref m6, .ref m7, .ref m8, .ref m9, .int fu, .int fd, .int fi, .int nu, .int nw, .int nf, .int bf, .int bn, .ref m10, .int ts, .int ap, .int fs, .int ln, .int fo, .int fa, .ref m11, .ref m12, .ref m13, .ref m14, .int wr])), aJ G m1 560 mw, aZ G m2 2 ik, aI G m3 20 zs, aI G m4 20 cl, aI G m5 20 hs, aI G m6 20 ks, aI G m7 20 wa, aI G m8 20 ne, aI G m9 4 mn, aI G m10 400 tx, aI G m11 6 th, aI G m12 6 od, aI G m13 30 bk, aI G m14 30 bh] H → va_D A [(m0, .inr (8, [.ref m1, .ref m2, .ref m3, .ref m4, .ref m5, .ref m6, .ref m7, .ref m8, .ref m9, .int fu, .int fd, .int fi, .int nu, .int nw, .int nf, .int bf, .int bn, .ref m10, .int ts, .int ap, .int fs, .int ln, .int fo, .int fa, .ref m11, .ref m12, .ref m13, .ref m14, .int wr])), aJ G m1 560 mw, aZ G m2 2 ik, aI G m3 20 zs, aI G m4 20 cl, aI G m5 20 hs, aI G m6 20 ks, aI G m7 20 wa, aI G m8 20 ne, aI G m9 4 mn, aI G m10 400 tx, aI G m11 6 th, aI G m12 6 od, aI G m13 30 bk, aI G m14 30 bh] → va_S A s.heap H locs → lv_has ls 4 [(3, .int x3_1), (0, .ref m0), (1, .int x), (2, .int y)] → W p l e R s m args below meth c H locs 0 0 Q (F0 m 2 ls []) := by
    intro n_9
    induction n_9 with
    | zero => intro x3_1 H locs ls hm; exact absurd hm (Nat.not_lt_zero _)
    | succ n_9 ih_4 =>
      intro x3_1 H locs ls hI_5 hi hP hD hS hl
      have hv := hs_8 x3_1 hi
      refine lv_iload_n hx hb dX8_sitter_2 rfl (lv_at hl 0 rfl) ?_
      refine lv_aload_n hx hb dX8_sitter_3 rfl (lv_at hl 1 rfl) ?_
      refine va_get (D := G.1) (ci := 8) (v := .ref m9) (C := RX8) (T := TX8) (N := 29) hx hb hts hinX8 hown hKK.1 hP 0 rfl rfl 8 (by decide) kl36 (fun _ h9 => h9) rfl dX8_sitter_4 ?_
      refine lv_iconst (v := 1) hx hb dX8_sitter_7 (by decide) ?_
      refine va_iald hx hb hKK.1 hP 9 0 rfl rfl (by unfold vp_in; decide) dX8_sitter_8 ?_
      refine lv_icmp_ge (tgt := 37) hx hb dX8_sitter_9 (by decide) (fun hc_6 => ?_) (fun hc_6 => ?_)
      · have hv := hv.1 hc_6
        refine lv_iconst (v := (-1)) hx hb dX8_sitter_37 (by decide) ?_
        exact x_iret (v := (-1)) () hQ hx hb hr hlocks hS dX8_sitter_38 hv hP hD
      · have hv := hv.2 hc_6
        refine lv_aload_n hx hb dX8_sitter_12 rfl (lv_at hl 1 rfl) ?_
        refine va_get (D := G.1) (ci := 8) (v := .ref m1) (C := RX8) (T := TX8) (N := 29) hx hb hts hinX8 hown hKK.1 hP 0 rfl rfl 0 (by decide) kl7 (fun _ h9 => h9) rfl dX8_sitter_13 ?_
        refine lv_iload_n hx hb dX8_sitter_16 rfl (lv_at hl 2 rfl) ?_
        refine lv_bipush (v := 20) hx hb dX8_sitter_17 (by decide) ?_
        refine lv_iadd hx hb dX8_sitter_19 ?_
        refine lv_iload_n hx hb dX8_sitter_20 rfl (lv_at hl 0 rfl) ?_
        refine lv_iadd hx hb dX8_sitter_21 ?_
        obtain ⟨hin, hv⟩ := hv
        refine va_lald hx hb hKK.1 hP 1 2 rfl rfl hin dX8_sitter_22 ?_
        refine lv_iload_n hx hb dX8_sitter_23 rfl (lv_at hl 3 rfl) ?_
        refine lv_i2l hx hb dX8_sitter_24 rfl ?_
        refine W.lcmp hx hb dX8_sitter_25 ?_
        refine lv_if_ne (tgt := 31) hx hb dX8_sitter_26 (by decide) (fun hc_7 => ?_) (fun hc_7 => ?_)
        · have hv := hv.1 (fun h => hc_7 ((lg_cmp_eq _ _).mpr h))
          refine lv_iinc (v := (x3_1 + 1)) (lv' := [(3, .int (x3_1 + 1)), (0, .ref m0), (1, .int x), (2, .int y)]) hx hb dX8_sitter_31 hl (k := 0) rfl rfl (by decide) rfl (fun ls hl => ?_)
          refine lv_goto (tgt := 2) hx hb dX8_sitter_34 (by decide) ?_
          exact ih_4 _ _ _ _ (Nat.lt_of_lt_of_le hv.2 (Nat.le_of_lt_succ hI_5)) hv.1 hP hD hS hl
        · have hv := hv.2 ((lg_cmp_eq _ _).mp hc_7)
          refine lv_iload_n hx hb dX8_sitter_29 rfl (lv_at hl 0 rfl) ?_
          exact x_iret (v := x3_1) () hQ hx hb hr hlocks hS dX8_sitter_30 hv hP hD
  exact Lm_10 _ _ _ _ _ (Nat.lt_succ_self _) hi0 hP hD hS hl
theorem v_X8_sitter (l : Launch) (G : Gt) (m0 m1 m2 m3 m4 m5 m6 m7 m8 m9 m10 m11 m12 m13 m14 : Nat) (sz : Nat) (mw : Nat → Int64) (ik : Nat → Int32) (zs : Nat → Int32) (cl : Nat → Int32) (hs : Nat → Int32) (ks : Nat → Int32) (wa : Nat → Int32) (ne : Nat → Int32) (mn : Nat → Int32) (tx : Nat → Int32) (th : Nat → Int32) (od : Nat → Int32) (bk : Nat → Int32) (bh : Nat → Int32) (fu : Int32) (fd : Int32) (fi : Int32) (nu : Int32) (nw : Int32) (nf : Int32) (bf : Int32) (bn : Int32) (ts : Int32) (ap : Int32) (fs : Int32) (ln : Int32) (fo : Int32) (fa : Int32) (wr : Int32) (x : Int32) (y : Int32) (T : Nat → Nat → Int) (Ns : Nat) (Np : Nat) (X : Nat) (v : Nat → Int) (ib : Nat) (hp : TOK T Ns Np ∧ MT T Ns Np fu fd fi zs cl ks ne mn ∧ x = nI X ∧ X + 140 ≤ 560 ∧ MR X mw v ∧ y = nI ib ∧ ib < 9) : ∃ (I2_2 : Int32 → Prop) (μ2_3 : Int32 → Nat), I2_2 0 ∧ (∀ (x3_1 : Int32), I2_2 x3_1 → ((mn 1) ≤ x3_1 → (((-1) : Int32) < 0 ↔ zEmpty v ib Np) ∧ ((-1) : Int32) = zSitter v ib Np) ∧ (¬ ((mn 1) ≤ x3_1) → (vp_in ((x + 20) + x3_1) 560) ∧ ((¬ (mw ((x + 20) + x3_1).toNatClampNeg) = y.toInt64 → I2_2 (x3_1 + 1) ∧ μ2_3 (x3_1 + 1) < μ2_3 x3_1) ∧ ((mw ((x + 20) + x3_1).toNatClampNeg) = y.toInt64 → (x3_1 < 0 ↔ zEmpty v ib Np) ∧ x3_1 = zSitter v ib Np)))) := by
  obtain ⟨hT, hC, rfl, hX, hR, rfl, hb⟩ := hp
  have t2 := hT.2.1
  have hnp : mn 1 = nI Np := hC.2.1
  have ey : (nI ib).toInt64.toInt = (ib : Int) := i_l (nI_toInt (by omega))
  refine ⟨fun z => ∃ i, i ≤ Np ∧ z = nI i ∧ zEmpty v ib i, fun z => 9 - z.toNatClampNeg, ⟨0, by omega, rfl, trivial⟩, ?_⟩
  rintro z ⟨i, hi, rfl, hE⟩
  have ei : (nI i).toNatClampNeg = i := nI_clamp (by omega)
  have ei1 : nI i + 1 = nI (i + 1) := nI_1 i
  have ej : (nI (i + 1)).toNatClampNeg = i + 1 := nI_clamp (by omega)
  have e20 : nI X + 20 + nI i = nI (X + (20 + i)) := ix2 X 20 i
  have c20 : (nI (X + (20 + i))).toNatClampNeg = X + (20 + i) := nI_clamp (by omega)
  simp only [ei1, ei, ej, e20, c20, hnp]
  refine ⟨fun h => ?_, fun h => ?_⟩
  · have e : Np = i := by have := (nI_leI (a := Np) (b := i) (by omega) (by omega)).mp h; omega
    subst e
    exact ⟨⟨fun _ => hE, fun _ => by decide⟩, (zSitter_no hE).symm⟩
  · have hlt : i < Np := by
      rcases Nat.lt_or_ge i Np with q | q
      · exact q
      · exact absurd ((nI_leI (by omega) (by omega)).mpr q) h
    have er := hR (20 + i) (by omega)
    refine ⟨vp_in_nI (by omega) (by omega), fun h2 => ⟨⟨i + 1, by omega, rfl, hE, ?_⟩, by omega⟩, fun h2 => ?_⟩
    · intro q; exact h2 ((l_eq er ey).mpr q)
    · have q := (l_eq er ey).mp h2
      exact ⟨⟨fun z => absurd z (nI_pos (by omega)), fun z => absurd z (zEmpty_not q hlt)⟩, (zSitter_yes hE q hlt).symm⟩
theorem k_X8_sitter (l : Launch) (G : Gt) (m0 m1 m2 m3 m4 m5 m6 m7 m8 m9 m10 m11 m12 m13 m14 : Nat) (sz : Nat) (mw : Nat → Int64) (ik : Nat → Int32) (zs : Nat → Int32) (cl : Nat → Int32) (hs : Nat → Int32) (ks : Nat → Int32) (wa : Nat → Int32) (ne : Nat → Int32) (mn : Nat → Int32) (tx : Nat → Int32) (th : Nat → Int32) (od : Nat → Int32) (bk : Nat → Int32) (bh : Nat → Int32) (fu : Int32) (fd : Int32) (fi : Int32) (nu : Int32) (nw : Int32) (nf : Int32) (bf : Int32) (bn : Int32) (ts : Int32) (ap : Int32) (fs : Int32) (ln : Int32) (fo : Int32) (fa : Int32) (wr : Int32) (x : Int32) (y : Int32) (T : Nat → Nat → Int) (Ns : Nat) (Np : Nat) (X : Nat) (v : Nat → Int) (ib : Nat) (hp : TOK T Ns Np ∧ MT T Ns Np fu fd fi zs cl ks ne mn ∧ x = nI X ∧ X + 140 ≤ 560 ∧ MR X mw v ∧ y = nI ib ∧ ib < 9) : MetI l yX8_sitter wsX8_sitter 0 0 G [.ref m0, .int x, .int y] [(m0, .inr (8, [.ref m1, .ref m2, .ref m3, .ref m4, .ref m5, .ref m6, .ref m7, .ref m8, .ref m9, .int fu, .int fd, .int fi, .int nu, .int nw, .int nf, .int bf, .int bn, .ref m10, .int ts, .int ap, .int fs, .int ln, .int fo, .int fa, .ref m11, .ref m12, .ref m13, .ref m14, .int wr])), aJ G m1 560 mw, aZ G m2 2 ik, aI G m3 20 zs, aI G m4 20 cl, aI G m5 20 hs, aI G m6 20 ks, aI G m7 20 wa, aI G m8 20 ne, aI G m9 4 mn, aI G m10 400 tx, aI G m11 6 th, aI G m12 6 od, aI G m13 30 bk, aI G m14 30 bh] sz (fun (r : Int32) (_ : Unit) => (r < 0 ↔ zEmpty v ib Np) ∧ r = zSitter v ib Np) (fun (_ : Unit) => [(m0, .inr (8, [.ref m1, .ref m2, .ref m3, .ref m4, .ref m5, .ref m6, .ref m7, .ref m8, .ref m9, .int fu, .int fd, .int fi, .int nu, .int nw, .int nf, .int bf, .int bn, .ref m10, .int ts, .int ap, .int fs, .int ln, .int fo, .int fa, .ref m11, .ref m12, .ref m13, .ref m14, .int wr])), aJ G m1 560 mw, aZ G m2 2 ik, aI G m3 20 zs, aI G m4 20 cl, aI G m5 20 hs, aI G m6 20 ks, aI G m7 20 wa, aI G m8 20 ne, aI G m9 4 mn, aI G m10 400 tx, aI G m11 6 th, aI G m12 6 od, aI G m13 30 bk, aI G m14 30 bh]) :=
  c_X8_sitter l G m0 m1 m2 m3 m4 m5 m6 m7 m8 m9 m10 m11 m12 m13 m14 sz mw ik zs cl hs ks wa ne mn tx th od bk bh fu fd fi nu nw nf bf bn ts ap fs ln fo fa wr x y T Ns Np X v ib (v_X8_sitter l G m0 m1 m2 m3 m4 m5 m6 m7 m8 m9 m10 m11 m12 m13 m14 sz mw ik zs cl hs ks wa ne mn tx th od bk bh fu fd fi nu nw nf bf bn ts ap fs ln fo fa wr x y T Ns Np X v ib hp)

set_option maxHeartbeats 4000000 in
set_option maxRecDepth 100000 in
theorem c_X8_flow (l : Launch) (G : Gt) (m0 m1 m2 m3 m4 m5 m6 m7 m8 m9 m10 m11 m12 m13 m14 : Nat) (sz : Nat) (mw : Nat → Int64) (ik : Nat → Int32) (zs : Nat → Int32) (cl : Nat → Int32) (hs : Nat → Int32) (ks : Nat → Int32) (wa : Nat → Int32) (ne : Nat → Int32) (mn : Nat → Int32) (tx : Nat → Int32) (th : Nat → Int32) (od : Nat → Int32) (bk : Nat → Int32) (bh : Nat → Int32) (fu : Int32) (fd : Int32) (fi : Int32) (nu : Int32) (nw : Int32) (nf : Int32) (bf : Int32) (bn : Int32) (ts : Int32) (ap : Int32) (fs : Int32) (ln : Int32) (fo : Int32) (fa : Int32) (wr : Int32) (x : Int32) (y : Int32) (z : Int32) (T : Nat → Nat → Int) (Ns : Nat) (Np : Nat) (X : Nat) (v : Nat → Int) (kk : Nat → Int) (M : Int) (ip : Nat) (ib : Nat) (hv : (vp_in y 20) ∧ (∀ (y_1 : Int32), (y_1 = (ks y.toNatClampNeg)) → ((vp_in ((x + 10) + y) 560) ∧ ((vp_in (x + z) 560) ∧ (∃ (J55_3 : Int64 → Prop), ((¬ y_1 = 1 → (¬ y_1 = 3 → J55_3 8) ∧ (y_1 = 3 → J55_3 2)) ∧ (y_1 = 1 → J55_3 4)) ∧ (∀ (t0_2 : Int64), J55_3 t0_2 → (¬ t0_2 = 0) ∧ (∀ (y_7 : Int64), (y_7 = (((mw ((x + 10) + y).toNatClampNeg) - (mw (x + z).toNatClampNeg)) / t0_2)) → (∃ (J90_9 : Int64 → Prop), ((¬ y_1 = 2 → (¬ y_1 = 3 → J90_9 y_7) ∧ (y_1 = 3 → (0 ≤ y_7 → J90_9 y_7) ∧ (¬ (0 ≤ y_7) → J90_9 0))) ∧ (y_1 = 2 → (0 < y_7 → J90_9 0) ∧ (¬ (0 < y_7) → (¬ y_1 = 3 → J90_9 y_7) ∧ (y_1 = 3 → (0 ≤ y_7 → J90_9 y_7) ∧ (¬ (0 ≤ y_7) → J90_9 0))))) ∧ (∀ (t0_8 : Int64), J90_9 t0_8 → (vp_in z 20) ∧ ((vp_in (x + z) 560) ∧ (((if t0_8 < ((zs z.toNatClampNeg).toInt64 - (mw (x + z).toNatClampNeg)) then t0_8 else ((zs z.toNatClampNeg).toInt64 - (mw (x + z).toNatClampNeg))) : Int64).toInt = flowZ (T 2 ip) (T 0 ib) (v (10 + ip)) (v ib)))))))))))) : MetL l yX8_flow wsX8_flow 1 23 G [.ref m0, .int x, .int y, .int z] [(m0, .inr (8, [.ref m1, .ref m2, .ref m3, .ref m4, .ref m5, .ref m6, .ref m7, .ref m8, .ref m9, .int fu, .int fd, .int fi, .int nu, .int nw, .int nf, .int bf, .int bn, .ref m10, .int ts, .int ap, .int fs, .int ln, .int fo, .int fa, .ref m11, .ref m12, .ref m13, .ref m14, .int wr])), aJ G m1 560 mw, aZ G m2 2 ik, aI G m3 20 zs, aI G m4 20 cl, aI G m5 20 hs, aI G m6 20 ks, aI G m7 20 wa, aI G m8 20 ne, aI G m9 4 mn, aI G m10 400 tx, aI G m11 6 th, aI G m12 6 od, aI G m13 30 bk, aI G m14 30 bh] sz (fun (r : Int64) (_ : Unit) => r.toInt = flowZ (T 2 ip) (T 0 ib) (v (10 + ip)) (v ib)) (fun (_ : Unit) => [(m0, .inr (8, [.ref m1, .ref m2, .ref m3, .ref m4, .ref m5, .ref m6, .ref m7, .ref m8, .ref m9, .int fu, .int fd, .int fi, .int nu, .int nw, .int nf, .int bf, .int bn, .ref m10, .int ts, .int ap, .int fs, .int ln, .int fo, .int fa, .ref m11, .ref m12, .ref m13, .ref m14, .int wr])), aJ G m1 560 mw, aZ G m2 2 ik, aI G m3 20 zs, aI G m4 20 cl, aI G m5 20 hs, aI G m6 20 ks, aI G m7 20 wa, aI G m8 20 ne, aI G m9 4 mn, aI G m10 400 tx, aI G m11 6 th, aI G m12 6 od, aI G m13 30 bk, aI G m14 30 bh]) := by
  refine x_startL (cc := cX8_flow) (maxL := 7) (ret := (some .long)) (by decide) rfl (Nat.le_of_ble_eq_true rfl) ?_
  intro p e s m args below meth c A R Q ls hRf hRl hQ C hP hD hS hA hSS hl
  obtain ⟨hx, hb, hr, hml, hown, hts, hlocks, hKK⟩ := C
  have hown : s.vm.findClass RX8 = some m.cls := hown
  have hl : lv_has ls 7 [(0, .ref m0), (1, .int x), (2, .int y), (3, .int z)] := hl
  have hinX8 : ∀ w ∈ u_ws RX8 TX8 29, w ∈ wsX8_flow := by decide +kernel
  have kl17 := hts (.fieldLink RX8 17 "WarmStonesModel" "sizes" "[I") (by decide +kernel)
  have kl171 := hts (.constantLong RX8 171 (4)) (by decide +kernel)
  have kl173 := hts (.constantLong RX8 173 (2)) (by decide +kernel)
  have kl27 := hts (.fieldLink RX8 27 "WarmStonesModel" "kinds" "[I") (by decide +kernel)
  have kl67 := hts (.constantLong RX8 67 (8)) (by decide +kernel)
  have kl7 := hts (.fieldLink RX8 7 "WarmStonesModel" "w" "[J") (by decide +kernel)
  refine lv_aload_n hx hb dX8_flow_0 rfl (lv_at hl 0 rfl) ?_
  refine va_get (D := G.1) (ci := 8) (v := .ref m6) (C := RX8) (T := TX8) (N := 29) hx hb hts hinX8 hown hKK.1 hP 0 rfl rfl 5 (by decide) kl27 (fun _ h9 => h9) rfl dX8_flow_1 ?_
  refine lv_iload_n hx hb dX8_flow_4 rfl (lv_at hl 2 rfl) ?_
  obtain ⟨hin, hv⟩ := hv
  refine va_iald hx hb hKK.1 hP 6 0 rfl rfl hin dX8_flow_5 ?_
  refine lv_topi (fun y_1 ey => ?_)
  have hv := hv y_1 ey
  refine lv_istore (lv' := [(4, .int y_1), (0, .ref m0), (1, .int x), (2, .int y), (3, .int z)]) hx hb dX8_flow_6 hl (by decide) rfl (fun ls hl => ?_)
  refine lv_aload_n hx hb dX8_flow_8 rfl (lv_at hl 1 rfl) ?_
  refine va_get (D := G.1) (ci := 8) (v := .ref m1) (C := RX8) (T := TX8) (N := 29) hx hb hts hinX8 hown hKK.1 hP 0 rfl rfl 0 (by decide) kl7 (fun _ h9 => h9) rfl dX8_flow_9 ?_
  refine lv_iload_n hx hb dX8_flow_12 rfl (lv_at hl 2 rfl) ?_
  refine lv_bipush (v := 10) hx hb dX8_flow_13 (by decide) ?_
  refine lv_iadd hx hb dX8_flow_15 ?_
  refine lv_iload_n hx hb dX8_flow_16 rfl (lv_at hl 3 rfl) ?_
  refine lv_iadd hx hb dX8_flow_17 ?_
  obtain ⟨hin, hv⟩ := hv
  refine va_lald hx hb hKK.1 hP 1 2 rfl rfl hin dX8_flow_18 ?_
  refine lv_aload_n hx hb dX8_flow_19 rfl (lv_at hl 1 rfl) ?_
  refine va_get (D := G.1) (ci := 8) (v := .ref m1) (C := RX8) (T := TX8) (N := 29) hx hb hts hinX8 hown hKK.1 hP 0 rfl rfl 0 (by decide) kl7 (fun _ h9 => h9) rfl dX8_flow_20 ?_
  refine lv_iload_n hx hb dX8_flow_23 rfl (lv_at hl 2 rfl) ?_
  refine lv_iload_n hx hb dX8_flow_24 rfl (lv_at hl 4 rfl) ?_
  refine lv_iadd hx hb dX8_flow_25 ?_
  obtain ⟨hin, hv⟩ := hv
  refine va_lald hx hb hKK.1 hP 1 2 rfl rfl hin dX8_flow_26 ?_
  refine lv_lsub hx hb dX8_flow_27 ?_
  obtain ⟨J55_3, hv, hj_19⟩ := hv
  have K_4 : ∀ (t0_2 : Int64) (H : Heap) (locs : List Loc) (ls : Array Slot), J55_3 t0_2 → va_P G.1 vwCl [(m0, .inr (8, [.ref m1, .ref m2, .ref m3, .ref m4, .ref m5, .ref m6, .ref m7, .ref m8, .ref m9, .int fu, .int fd, .int fi, .int nu, .int nw, .int nf, .int bf, .int bn, .ref m10, .int ts, .int ap, .int fs, .int ln, .int fo, .int fa, .ref m11, .ref m12, .ref m13, .ref m14, .int wr])), aJ G m1 560 mw, aZ G m2 2 ik, aI G m3 20 zs, aI G m4 20 cl, aI G m5 20 hs, aI G m6 20 ks, aI G m7 20 wa, aI G m8 20 ne, aI G m9 4 mn, aI G m10 400 tx, aI G m11 6 th, aI G m12 6 od, aI G m13 30 bk, aI G m14 30 bh] H → va_D A [(m0, .inr (8, [.ref m1, .ref m2, .ref m3, .ref m4, .ref m5, .ref m6, .ref m7, .ref m8, .ref m9, .int fu, .int fd, .int fi, .int nu, .int nw, .int nf, .int bf, .int bn, .ref m10, .int ts, .int ap, .int fs, .int ln, .int fo, .int fa, .ref m11, .ref m12, .ref m13, .ref m14, .int wr])), aJ G m1 560 mw, aZ G m2 2 ik, aI G m3 20 zs, aI G m4 20 cl, aI G m5 20 hs, aI G m6 20 ks, aI G m7 20 wa, aI G m8 20 ne, aI G m9 4 mn, aI G m10 400 tx, aI G m11 6 th, aI G m12 6 od, aI G m13 30 bk, aI G m14 30 bh] → va_S A s.heap H locs → lv_has ls 7 [(4, .int y_1), (0, .ref m0), (1, .int x), (2, .int y), (3, .int z)] → W p l e R s m args below meth c H locs 0 0 Q (F0 m 55 ls [.long t0_2, .long ((mw ((x + 10) + y).toNatClampNeg) - (mw (x + z).toNatClampNeg))]) := by
    intro t0_2 H locs ls hi hP hD hS hl
    have hv := hj_19 t0_2 hi
    obtain ⟨hne, hv⟩ := hv
    refine lv_ldiv hx hb dX8_flow_55 hne ?_
    refine lv_topl (fun y_7 ey => ?_)
    have hv := hv y_7 ey
    refine lv_lstore (lv' := [(5, .long y_7), (4, .int y_1), (0, .ref m0), (1, .int x), (2, .int y), (3, .int z)]) hx hb dX8_flow_56 hl (by decide) rfl (fun ls hl => ?_)
    obtain ⟨J90_9, hv, hj_18⟩ := hv
    have K_10 : ∀ (t0_8 : Int64) (H : Heap) (locs : List Loc) (ls : Array Slot), J90_9 t0_8 → va_P G.1 vwCl [(m0, .inr (8, [.ref m1, .ref m2, .ref m3, .ref m4, .ref m5, .ref m6, .ref m7, .ref m8, .ref m9, .int fu, .int fd, .int fi, .int nu, .int nw, .int nf, .int bf, .int bn, .ref m10, .int ts, .int ap, .int fs, .int ln, .int fo, .int fa, .ref m11, .ref m12, .ref m13, .ref m14, .int wr])), aJ G m1 560 mw, aZ G m2 2 ik, aI G m3 20 zs, aI G m4 20 cl, aI G m5 20 hs, aI G m6 20 ks, aI G m7 20 wa, aI G m8 20 ne, aI G m9 4 mn, aI G m10 400 tx, aI G m11 6 th, aI G m12 6 od, aI G m13 30 bk, aI G m14 30 bh] H → va_D A [(m0, .inr (8, [.ref m1, .ref m2, .ref m3, .ref m4, .ref m5, .ref m6, .ref m7, .ref m8, .ref m9, .int fu, .int fd, .int fi, .int nu, .int nw, .int nf, .int bf, .int bn, .ref m10, .int ts, .int ap, .int fs, .int ln, .int fo, .int fa, .ref m11, .ref m12, .ref m13, .ref m14, .int wr])), aJ G m1 560 mw, aZ G m2 2 ik, aI G m3 20 zs, aI G m4 20 cl, aI G m5 20 hs, aI G m6 20 ks, aI G m7 20 wa, aI G m8 20 ne, aI G m9 4 mn, aI G m10 400 tx, aI G m11 6 th, aI G m12 6 od, aI G m13 30 bk, aI G m14 30 bh] → va_S A s.heap H locs → lv_has ls 7 [(5, .long y_7), (4, .int y_1), (0, .ref m0), (1, .int x), (2, .int y), (3, .int z)] → W p l e R s m args below meth c H locs 0 0 Q (F0 m 90 ls [.long t0_8]) := by
      intro t0_8 H locs ls hi hP hD hS hl
      have hv := hj_18 t0_8 hi
      refine lv_lstore (lv' := [(5, .long t0_8), (4, .int y_1), (0, .ref m0), (1, .int x), (2, .int y), (3, .int z)]) hx hb dX8_flow_90 hl (by decide) rfl (fun ls hl => ?_)
      refine lv_lload hx hb dX8_flow_92 (lv_at hl 0 rfl) ?_
      refine lv_aload_n hx hb dX8_flow_94 rfl (lv_at hl 2 rfl) ?_
      refine va_get (D := G.1) (ci := 8) (v := .ref m3) (C := RX8) (T := TX8) (N := 29) hx hb hts hinX8 hown hKK.1 hP 0 rfl rfl 2 (by decide) kl17 (fun _ h9 => h9) rfl dX8_flow_95 ?_
      refine lv_iload_n hx hb dX8_flow_98 rfl (lv_at hl 5 rfl) ?_
      obtain ⟨hin, hv⟩ := hv
      refine va_iald hx hb hKK.1 hP 3 0 rfl rfl hin dX8_flow_99 ?_
      refine lv_i2l hx hb dX8_flow_100 rfl ?_
      refine lv_aload_n hx hb dX8_flow_101 rfl (lv_at hl 2 rfl) ?_
      refine va_get (D := G.1) (ci := 8) (v := .ref m1) (C := RX8) (T := TX8) (N := 29) hx hb hts hinX8 hown hKK.1 hP 0 rfl rfl 0 (by decide) kl7 (fun _ h9 => h9) rfl dX8_flow_102 ?_
      refine lv_iload_n hx hb dX8_flow_105 rfl (lv_at hl 3 rfl) ?_
      refine lv_iload_n hx hb dX8_flow_106 rfl (lv_at hl 5 rfl) ?_
      refine lv_iadd hx hb dX8_flow_107 ?_
      obtain ⟨hin, hv⟩ := hv
      refine va_lald hx hb hKK.1 hP 1 2 rfl rfl hin dX8_flow_108 ?_
      refine lv_lsub hx hb dX8_flow_109 ?_
      refine x_calllR (x_runS (As := [.long t0_8, .long ((zs z.toNatClampNeg).toInt64 - (mw (x + z).toNatClampNeg))]) (rest := []) (n := 2) ⟨hx, hb, hml, hown, hts⟩ (k_X8_less l G  _ t0_8 ((zs z.toNatClampNeg).toInt64 - (mw (x + z).toNatClampNeg))) gX8_flow_X8_less rfl (by decide +kernel) ⟨Nat.le_trans (Nat.le_of_ble_eq_true rfl) hRf, Nat.le_trans (Nat.le_of_ble_eq_true rfl) hRl⟩ hKK hSS hS hA hP hD [] (by decide) rfl rfl hl.1 rfl (Nat.le_of_ble_eq_true rfl) dX8_flow_110) hP hD hS hA [] rfl (fun r_17 _ H locs hw hP hS => ?_)
      replace hw := hw.symm; subst hw
      exact x_lret (v := (if t0_8 < ((zs z.toNatClampNeg).toInt64 - (mw (x + z).toNatClampNeg)) then t0_8 else ((zs z.toNatClampNeg).toInt64 - (mw (x + z).toNatClampNeg)))) () hQ hx hb hr hlocks hS dX8_flow_113 hv hP hD
    refine lv_iload hx hb dX8_flow_58 (lv_at hl 1 rfl) ?_
    refine lv_iconst (v := 2) hx hb dX8_flow_60 (by decide) ?_
    refine lv_icmp_ne (tgt := 71) hx hb dX8_flow_61 (by decide) (fun hc_11 => ?_) (fun hc_11 => ?_)
    · have hv := hv.1 hc_11
      refine lv_iload hx hb dX8_flow_71 (lv_at hl 1 rfl) ?_
      refine lv_iconst (v := 3) hx hb dX8_flow_73 (by decide) ?_
      refine lv_icmp_ne (tgt := 88) hx hb dX8_flow_74 (by decide) (fun hc_12 => ?_) (fun hc_12 => ?_)
      · have hv := hv.1 hc_12
        refine lv_lload hx hb dX8_flow_88 (lv_at hl 0 rfl) ?_
        exact K_10 _ _ _ _ hv hP hD hS hl
      · have hv := hv.2 hc_12
        refine lv_lload hx hb dX8_flow_77 (lv_at hl 0 rfl) ?_
        refine lv_lconst (v := 0) hx hb dX8_flow_79 (by decide) ?_
        refine W.lcmp hx hb dX8_flow_80 ?_
        refine lv_if_ge (tgt := 88) hx hb dX8_flow_81 (by decide) (fun hc_13 => ?_) (fun hc_13 => ?_)
        · have hv := hv.1 ((lg_cmp_ge _ _).mp hc_13)
          refine lv_lload hx hb dX8_flow_88 (lv_at hl 0 rfl) ?_
          exact K_10 _ _ _ _ hv hP hD hS hl
        · have hv := hv.2 (fun h => hc_13 ((lg_cmp_ge _ _).mpr h))
          refine lv_lconst (v := 0) hx hb dX8_flow_84 (by decide) ?_
          refine lv_goto (tgt := 90) hx hb dX8_flow_85 (by decide) ?_
          exact K_10 _ _ _ _ hv hP hD hS hl
    · have hv := hv.2 hc_11
      refine lv_lload hx hb dX8_flow_64 (lv_at hl 0 rfl) ?_
      refine lv_lconst (v := 0) hx hb dX8_flow_66 (by decide) ?_
      refine W.lcmp hx hb dX8_flow_67 ?_
      refine lv_if_gt (tgt := 84) hx hb dX8_flow_68 (by decide) (fun hc_14 => ?_) (fun hc_14 => ?_)
      · have hv := hv.1 ((lg_cmp_gt _ _).mp hc_14)
        refine lv_lconst (v := 0) hx hb dX8_flow_84 (by decide) ?_
        refine lv_goto (tgt := 90) hx hb dX8_flow_85 (by decide) ?_
        exact K_10 _ _ _ _ hv hP hD hS hl
      · have hv := hv.2 (fun h => hc_14 ((lg_cmp_gt _ _).mpr h))
        refine lv_iload hx hb dX8_flow_71 (lv_at hl 1 rfl) ?_
        refine lv_iconst (v := 3) hx hb dX8_flow_73 (by decide) ?_
        refine lv_icmp_ne (tgt := 88) hx hb dX8_flow_74 (by decide) (fun hc_15 => ?_) (fun hc_15 => ?_)
        · have hv := hv.1 hc_15
          refine lv_lload hx hb dX8_flow_88 (lv_at hl 0 rfl) ?_
          exact K_10 _ _ _ _ hv hP hD hS hl
        · have hv := hv.2 hc_15
          refine lv_lload hx hb dX8_flow_77 (lv_at hl 0 rfl) ?_
          refine lv_lconst (v := 0) hx hb dX8_flow_79 (by decide) ?_
          refine W.lcmp hx hb dX8_flow_80 ?_
          refine lv_if_ge (tgt := 88) hx hb dX8_flow_81 (by decide) (fun hc_16 => ?_) (fun hc_16 => ?_)
          · have hv := hv.1 ((lg_cmp_ge _ _).mp hc_16)
            refine lv_lload hx hb dX8_flow_88 (lv_at hl 0 rfl) ?_
            exact K_10 _ _ _ _ hv hP hD hS hl
          · have hv := hv.2 (fun h => hc_16 ((lg_cmp_ge _ _).mpr h))
            refine lv_lconst (v := 0) hx hb dX8_flow_84 (by decide) ?_
            refine lv_goto (tgt := 90) hx hb dX8_flow_85 (by decide) ?_
            exact K_10 _ _ _ _ hv hP hD hS hl
  refine lv_iload hx hb dX8_flow_28 (lv_at hl 0 rfl) ?_
  refine lv_iconst (v := 1) hx hb dX8_flow_30 (by decide) ?_
  refine lv_icmp_ne (tgt := 40) hx hb dX8_flow_31 (by decide) (fun hc_5 => ?_) (fun hc_5 => ?_)
  · have hv := hv.1 hc_5
    refine lv_iload hx hb dX8_flow_40 (lv_at hl 0 rfl) ?_
    refine lv_iconst (v := 3) hx hb dX8_flow_42 (by decide) ?_
    refine lv_icmp_ne (tgt := 52) hx hb dX8_flow_43 (by decide) (fun hc_6 => ?_) (fun hc_6 => ?_)
    · have hv := hv.1 hc_6
      refine lv_ldc2 (v := 8) hx hb hown kl67 dX8_flow_52 ?_
      exact K_4 _ _ _ _ hv hP hD hS hl
    · have hv := hv.2 hc_6
      refine lv_ldc2 (v := 2) hx hb hown kl173 dX8_flow_46 ?_
      refine lv_goto (tgt := 55) hx hb dX8_flow_49 (by decide) ?_
      exact K_4 _ _ _ _ hv hP hD hS hl
  · have hv := hv.2 hc_5
    refine lv_ldc2 (v := 4) hx hb hown kl171 dX8_flow_34 ?_
    refine lv_goto (tgt := 55) hx hb dX8_flow_37 (by decide) ?_
    exact K_4 _ _ _ _ hv hP hD hS hl
theorem v_X8_flow (l : Launch) (G : Gt) (m0 m1 m2 m3 m4 m5 m6 m7 m8 m9 m10 m11 m12 m13 m14 : Nat) (sz : Nat) (mw : Nat → Int64) (ik : Nat → Int32) (zs : Nat → Int32) (cl : Nat → Int32) (hs : Nat → Int32) (ks : Nat → Int32) (wa : Nat → Int32) (ne : Nat → Int32) (mn : Nat → Int32) (tx : Nat → Int32) (th : Nat → Int32) (od : Nat → Int32) (bk : Nat → Int32) (bh : Nat → Int32) (fu : Int32) (fd : Int32) (fi : Int32) (nu : Int32) (nw : Int32) (nf : Int32) (bf : Int32) (bn : Int32) (ts : Int32) (ap : Int32) (fs : Int32) (ln : Int32) (fo : Int32) (fa : Int32) (wr : Int32) (x : Int32) (y : Int32) (z : Int32) (T : Nat → Nat → Int) (Ns : Nat) (Np : Nat) (X : Nat) (v : Nat → Int) (kk : Nat → Int) (M : Int) (ip : Nat) (ib : Nat) (hp : TOK T Ns Np ∧ MT T Ns Np fu fd fi zs cl ks ne mn ∧ x = nI X ∧ X + 140 ≤ 560 ∧ MR X mw v ∧ NOK T Ns Np kk M v ∧ y = nI ip ∧ ip < Np ∧ z = nI ib ∧ ib < Ns) : (vp_in y 20) ∧ (∀ (y_1 : Int32), (y_1 = (ks y.toNatClampNeg)) → ((vp_in ((x + 10) + y) 560) ∧ ((vp_in (x + z) 560) ∧ (∃ (J55_3 : Int64 → Prop), ((¬ y_1 = 1 → (¬ y_1 = 3 → J55_3 8) ∧ (y_1 = 3 → J55_3 2)) ∧ (y_1 = 1 → J55_3 4)) ∧ (∀ (t0_2 : Int64), J55_3 t0_2 → (¬ t0_2 = 0) ∧ (∀ (y_7 : Int64), (y_7 = (((mw ((x + 10) + y).toNatClampNeg) - (mw (x + z).toNatClampNeg)) / t0_2)) → (∃ (J90_9 : Int64 → Prop), ((¬ y_1 = 2 → (¬ y_1 = 3 → J90_9 y_7) ∧ (y_1 = 3 → (0 ≤ y_7 → J90_9 y_7) ∧ (¬ (0 ≤ y_7) → J90_9 0))) ∧ (y_1 = 2 → (0 < y_7 → J90_9 0) ∧ (¬ (0 < y_7) → (¬ y_1 = 3 → J90_9 y_7) ∧ (y_1 = 3 → (0 ≤ y_7 → J90_9 y_7) ∧ (¬ (0 ≤ y_7) → J90_9 0))))) ∧ (∀ (t0_8 : Int64), J90_9 t0_8 → (vp_in z 20) ∧ ((vp_in (x + z) 560) ∧ (((if t0_8 < ((zs z.toNatClampNeg).toInt64 - (mw (x + z).toNatClampNeg)) then t0_8 else ((zs z.toNatClampNeg).toInt64 - (mw (x + z).toNatClampNeg))) : Int64).toInt = flowZ (T 2 ip) (T 0 ib) (v (10 + ip)) (v ib))))))))))) := by
  obtain ⟨hT, hC, rfl, hX, hR, hO, rfl, h1, rfl, h2⟩ := hp
  have t1 := hT.1
  have t2 := hT.2.1
  have e10 : nI X + 10 + nI ip = nI (X + (10 + ip)) := ix2 X 10 ip
  have c10 : (nI (X + (10 + ip))).toNatClampNeg = X + (10 + ip) := nI_clamp (by omega)
  have e0 : nI X + nI ib = nI (X + ib) := ix1 X ib
  have c0 : (nI (X + ib)).toNatClampNeg = X + ib := nI_clamp (by omega)
  have cp : (nI ip).toNatClampNeg = ip := nI_clamp (by omega)
  have cb : (nI ib).toNatClampNeg = ib := nI_clamp (by omega)
  simp only [e10, c10, e0, c0, cp, cb]
  have a1 := hO.1 ib h2
  have a2 := (hO.2.1 ip h1).1
  have a3 := hT.2.2.1 ib h2
  have ew := hR (10 + ip) (by omega)
  have eh := hR ib (by omega)
  have hk := (hC.2.2.2.1 ip h1).1
  have hz := (hC.2.2.1 ib h2).1
  have v20 : vp_in (nI ip) 20 := vp_in_nI (by omega) (by omega)
  have v20b : vp_in (nI ib) 20 := vp_in_nI (by omega) (by omega)
  have vw : vp_in (nI (X + (10 + ip))) 560 := vp_in_nI (by omega) (by omega)
  have vh : vp_in (nI (X + ib)) 560 := vp_in_nI (by omega) (by omega)
  refine ⟨v20, fun k0 ek0 => ⟨vw, vh, fun t => t.toInt = resZ (T 2 ip), ?_, fun t ht => ?_⟩⟩
  · subst ek0
    have k1 : ks ip = 1 ↔ T 2 ip = 1 := i_eq hk rfl
    have k3 : ks ip = 3 ↔ T 2 ip = 3 := i_eq hk rfl
    refine ⟨fun q1 => ⟨fun q3 => ?_, fun q3 => ?_⟩, fun q1 => ?_⟩
    · unfold resZ; rw [if_neg (fun z => q1 (k1.mpr z)), if_neg (fun z => q3 (k3.mpr z))]; rfl
    · unfold resZ; rw [if_neg (fun z => q1 (k1.mpr z)), if_pos (k3.mp q3)]; rfl
    · unfold resZ; rw [if_pos (k1.mp q1)]; rfl
  · subst ek0
    have hne : ¬ t = 0 := fun z => by
      rw [z] at ht
      have := resZ_pos (T 2 ip)
      rw [← ht] at this
      exact absurd this (by decide)
    refine ⟨hne, fun y ey => ?_⟩
    have eyv : y.toInt = dvZ (v (10 + ip) - v ib) (resZ (T 2 ip)) := by rw [ey]; exact l_div (l_sub ew eh (by omega) (by omega)) ht (resZ_pos _)
    generalize hd : dvZ (v (10 + ip) - v ib) (resZ (T 2 ip)) = d at eyv
    have k2 : ks ip = 2 ↔ T 2 ip = 2 := i_eq hk rfl
    have k3 : ks ip = 3 ↔ T 2 ip = 3 := i_eq hk rfl
    have p0 : 0 ≤ y ↔ 0 ≤ d := l_le rfl eyv
    have p1 : 0 < y ↔ 0 < d := l_lt rfl eyv
    have z64 : (0 : Int64).toInt = 0 := rfl
    refine ⟨fun t => t.toInt = if (T 2 ip = 2 ∧ 0 < d) ∨ (T 2 ip = 3 ∧ d < 0) then 0 else d, ?_, fun t2 ht2 => ⟨v20b, vh, ?_⟩⟩
    · simp only [k2, k3, p0, p1, eyv, z64]
      refine ⟨fun q2 => ⟨fun q3 => ?_, fun q3 => ⟨fun q => ?_, fun q => ?_⟩⟩, fun q2 => ⟨fun q => ?_, fun q => ⟨fun q3 => ?_, fun q3 => ⟨fun q4 => ?_, fun q4 => ?_⟩⟩⟩⟩ <;> (split <;> omega)
    · have ez : ((zs ib).toInt64 - mw (X + ib)).toInt = T 0 ib - v ib := l_sub (i_l hz) eh (by omega) (by omega)
      unfold flowZ
      rw [hd]
      dsimp only
      rw [← ht2, l_if (l_lt rfl ez) rfl ez]
      split <;> split <;> omega
theorem k_X8_flow (l : Launch) (G : Gt) (m0 m1 m2 m3 m4 m5 m6 m7 m8 m9 m10 m11 m12 m13 m14 : Nat) (sz : Nat) (mw : Nat → Int64) (ik : Nat → Int32) (zs : Nat → Int32) (cl : Nat → Int32) (hs : Nat → Int32) (ks : Nat → Int32) (wa : Nat → Int32) (ne : Nat → Int32) (mn : Nat → Int32) (tx : Nat → Int32) (th : Nat → Int32) (od : Nat → Int32) (bk : Nat → Int32) (bh : Nat → Int32) (fu : Int32) (fd : Int32) (fi : Int32) (nu : Int32) (nw : Int32) (nf : Int32) (bf : Int32) (bn : Int32) (ts : Int32) (ap : Int32) (fs : Int32) (ln : Int32) (fo : Int32) (fa : Int32) (wr : Int32) (x : Int32) (y : Int32) (z : Int32) (T : Nat → Nat → Int) (Ns : Nat) (Np : Nat) (X : Nat) (v : Nat → Int) (kk : Nat → Int) (M : Int) (ip : Nat) (ib : Nat) (hp : TOK T Ns Np ∧ MT T Ns Np fu fd fi zs cl ks ne mn ∧ x = nI X ∧ X + 140 ≤ 560 ∧ MR X mw v ∧ NOK T Ns Np kk M v ∧ y = nI ip ∧ ip < Np ∧ z = nI ib ∧ ib < Ns) : MetL l yX8_flow wsX8_flow 1 23 G [.ref m0, .int x, .int y, .int z] [(m0, .inr (8, [.ref m1, .ref m2, .ref m3, .ref m4, .ref m5, .ref m6, .ref m7, .ref m8, .ref m9, .int fu, .int fd, .int fi, .int nu, .int nw, .int nf, .int bf, .int bn, .ref m10, .int ts, .int ap, .int fs, .int ln, .int fo, .int fa, .ref m11, .ref m12, .ref m13, .ref m14, .int wr])), aJ G m1 560 mw, aZ G m2 2 ik, aI G m3 20 zs, aI G m4 20 cl, aI G m5 20 hs, aI G m6 20 ks, aI G m7 20 wa, aI G m8 20 ne, aI G m9 4 mn, aI G m10 400 tx, aI G m11 6 th, aI G m12 6 od, aI G m13 30 bk, aI G m14 30 bh] sz (fun (r : Int64) (_ : Unit) => r.toInt = flowZ (T 2 ip) (T 0 ib) (v (10 + ip)) (v ib)) (fun (_ : Unit) => [(m0, .inr (8, [.ref m1, .ref m2, .ref m3, .ref m4, .ref m5, .ref m6, .ref m7, .ref m8, .ref m9, .int fu, .int fd, .int fi, .int nu, .int nw, .int nf, .int bf, .int bn, .ref m10, .int ts, .int ap, .int fs, .int ln, .int fo, .int fa, .ref m11, .ref m12, .ref m13, .ref m14, .int wr])), aJ G m1 560 mw, aZ G m2 2 ik, aI G m3 20 zs, aI G m4 20 cl, aI G m5 20 hs, aI G m6 20 ks, aI G m7 20 wa, aI G m8 20 ne, aI G m9 4 mn, aI G m10 400 tx, aI G m11 6 th, aI G m12 6 od, aI G m13 30 bk, aI G m14 30 bh]) :=
  c_X8_flow l G m0 m1 m2 m3 m4 m5 m6 m7 m8 m9 m10 m11 m12 m13 m14 sz mw ik zs cl hs ks wa ne mn tx th od bk bh fu fd fi nu nw nf bf bn ts ap fs ln fo fa wr x y z T Ns Np X v kk M ip ib (v_X8_flow l G m0 m1 m2 m3 m4 m5 m6 m7 m8 m9 m10 m11 m12 m13 m14 sz mw ik zs cl hs ks wa ne mn tx th od bk bh fu fd fi nu nw nf bf bn ts ap fs ln fo fa wr x y z T Ns Np X v kk M ip ib hp)

set_option maxHeartbeats 4000000 in
set_option maxRecDepth 100000 in
theorem c_X8_sitOn (l : Launch) (G : Gt) (m0 m1 m2 m3 m4 m5 m6 m7 m8 m9 m10 m11 m12 m13 m14 : Nat) (sz : Nat) (mw : Nat → Int64) (ik : Nat → Int32) (zs : Nat → Int32) (cl : Nat → Int32) (hs : Nat → Int32) (ks : Nat → Int32) (wa : Nat → Int32) (ne : Nat → Int32) (mn : Nat → Int32) (tx : Nat → Int32) (th : Nat → Int32) (od : Nat → Int32) (bk : Nat → Int32) (bh : Nat → Int32) (fu : Int32) (fd : Int32) (fi : Int32) (nu : Int32) (nw : Int32) (nf : Int32) (bf : Int32) (bn : Int32) (ts : Int32) (ap : Int32) (fs : Int32) (ln : Int32) (fo : Int32) (fa : Int32) (wr : Int32) (x : Int32) (y : Int32) (z : Int32) (T : Nat → Nat → Int) (Ns : Nat) (Np : Nat) (X : Nat) (v : Nat → Int) (kk : Nat → Int) (M : Int) (ip : Nat) (ib : Nat) (hv : ∃ (gT_1 : Nat → Nat → Int) (gNs_2 : Nat) (gNp_3 : Nat) (gX_4 : Nat) (gv_5 : Nat → Int) (gkk_6 : Nat → Int) (gM_7 : Int) (gip_8 : Nat) (gib_9 : Nat), ((TOK gT_1 gNs_2 gNp_3 ∧ MT gT_1 gNs_2 gNp_3 fu fd fi zs cl ks ne mn ∧ x = nI gX_4 ∧ gX_4 + 140 ≤ 560 ∧ MR gX_4 mw gv_5 ∧ NOK gT_1 gNs_2 gNp_3 gkk_6 gM_7 gv_5 ∧ y = nI gip_8 ∧ gip_8 < gNp_3 ∧ z = nI gib_9 ∧ gib_9 < gNs_2) ∧ (∀ (r_10 : Int64), (r_10.toInt = flowZ (gT_1 2 gip_8) (gT_1 0 gib_9) (gv_5 (10 + gip_8)) (gv_5 gib_9)) → ((vp_in (x + z) 560) ∧ ((vp_in (x + z) 560) ∧ (∀ (fm1_11 : (Nat → Int64)), (fm1_11 = (vp_updL mw ((x + z).toNatClampNeg) ((mw (x + z).toNatClampNeg) + r_10))) → ((vp_in ((x + 10) + y) 560) ∧ ((vp_in ((x + 10) + y) 560) ∧ (∀ (fm1_12 : (Nat → Int64)), (fm1_12 = (vp_updL fm1_11 (((x + 10) + y).toNatClampNeg) ((fm1_11 ((x + 10) + y).toNatClampNeg) - r_10))) → (∀ (y_13 : Int32), (y_13 = ((60 + (9 * y)) + z)) → ((vp_in (x + y_13) 560) ∧ (((fm1_12 (x + y_13).toNatClampNeg) ≤ 0 → (vp_in ((x + 40) + y) 560) ∧ ((vp_in ((x + 40) + y) 560) ∧ (∀ (fm1_15 : (Nat → Int64)), (fm1_15 = (vp_updL fm1_12 (((x + 40) + y).toNatClampNeg) ((fm1_12 ((x + 40) + y).toNatClampNeg) + 1))) → (MR X fm1_15 (zOwn ip ib (zSit T ip ib v)) ∧ MF X mw fm1_15)))) ∧ (¬ ((fm1_12 (x + y_13).toNatClampNeg) ≤ 0) → (vp_in (x + y_13) 560) ∧ ((vp_in (x + y_13) 560) ∧ (∀ (fm1_16 : (Nat → Int64)), (fm1_16 = (vp_updL fm1_12 ((x + y_13).toNatClampNeg) ((fm1_12 (x + y_13).toNatClampNeg) - 1))) → (MR X fm1_16 (zOwn ip ib (zSit T ip ib v)) ∧ MF X mw fm1_16)))))))))))))))) : MetV l yX8_sitOn wsX8_sitOn 2 49 G [.ref m0, .int x, .int y, .int z] [(m0, .inr (8, [.ref m1, .ref m2, .ref m3, .ref m4, .ref m5, .ref m6, .ref m7, .ref m8, .ref m9, .int fu, .int fd, .int fi, .int nu, .int nw, .int nf, .int bf, .int bn, .ref m10, .int ts, .int ap, .int fs, .int ln, .int fo, .int fa, .ref m11, .ref m12, .ref m13, .ref m14, .int wr])), aJ G m1 560 mw, aZ G m2 2 ik, aI G m3 20 zs, aI G m4 20 cl, aI G m5 20 hs, aI G m6 20 ks, aI G m7 20 wa, aI G m8 20 ne, aI G m9 4 mn, aI G m10 400 tx, aI G m11 6 th, aI G m12 6 od, aI G m13 30 bk, aI G m14 30 bh] sz (fun (u : (Nat → Int64)) => MR X u (zOwn ip ib (zSit T ip ib v)) ∧ MF X mw u) (fun (u : (Nat → Int64)) => [(m0, .inr (8, [.ref m1, .ref m2, .ref m3, .ref m4, .ref m5, .ref m6, .ref m7, .ref m8, .ref m9, .int fu, .int fd, .int fi, .int nu, .int nw, .int nf, .int bf, .int bn, .ref m10, .int ts, .int ap, .int fs, .int ln, .int fo, .int fa, .ref m11, .ref m12, .ref m13, .ref m14, .int wr])), aJ G m1 560 u, aZ G m2 2 ik, aI G m3 20 zs, aI G m4 20 cl, aI G m5 20 hs, aI G m6 20 ks, aI G m7 20 wa, aI G m8 20 ne, aI G m9 4 mn, aI G m10 400 tx, aI G m11 6 th, aI G m12 6 od, aI G m13 30 bk, aI G m14 30 bh]) := by
  refine x_startV (cc := cX8_sitOn) (maxL := 7) (ret := none) (by decide) rfl (Nat.le_of_ble_eq_true rfl) ?_
  intro p e s m args below meth c A R Q ls hRf hRl hQ C hP hD hS hA hSS hl
  obtain ⟨hx, hb, hr, hml, hown, hts, hlocks, hKK⟩ := C
  have hown : s.vm.findClass RX8 = some m.cls := hown
  have hl : lv_has ls 7 [(0, .ref m0), (1, .int x), (2, .int y), (3, .int z)] := hl
  have hinX8 : ∀ w ∈ u_ws RX8 TX8 29, w ∈ wsX8_sitOn := by decide +kernel
  have kl7 := hts (.fieldLink RX8 7 "WarmStonesModel" "w" "[J") (by decide +kernel)
  refine lv_aload_n hx hb dX8_sitOn_0 rfl (lv_at hl 0 rfl) ?_
  refine lv_iload_n hx hb dX8_sitOn_1 rfl (lv_at hl 1 rfl) ?_
  refine lv_iload_n hx hb dX8_sitOn_2 rfl (lv_at hl 2 rfl) ?_
  refine lv_iload_n hx hb dX8_sitOn_3 rfl (lv_at hl 3 rfl) ?_
  obtain ⟨gT_1, gNs_2, gNp_3, gX_4, gv_5, gkk_6, gM_7, gip_8, gib_9, hv⟩ := hv
  obtain ⟨hp, hv⟩ := hv
  refine x_calllR (x_runV (As := [.int x, .int y, .int z]) (rest := []) (n := 3) (C := RX8) (ci := 8) ⟨hx, hb, hml, hown, hts⟩ (k_X8_flow l G m0 m1 m2 m3 m4 m5 m6 m7 m8 m9 m10 m11 m12 m13 m14 _ mw ik zs cl hs ks wa ne mn tx th od bk bh fu fd fi nu nw nf bf bn ts ap fs ln fo fa wr x y z gT_1 gNs_2 gNp_3 gX_4 gv_5 gkk_6 gM_7 gip_8 gib_9 hp) gX8_sitOn_X8_flow rfl (by decide +kernel) ⟨Nat.le_trans (Nat.le_of_ble_eq_true rfl) hRf, Nat.le_trans (Nat.le_of_ble_eq_true rfl) hRl⟩ hKK hSS hS hA hP hD [0, 1, 2, 3, 4, 5, 6, 7, 8, 9, 10, 11, 12, 13, 14] (by decide) rfl rfl rfl 0 rfl rfl hl.1 rfl (Nat.le_of_ble_eq_true rfl) dX8_sitOn_4) hP hD hS hA [0, 1, 2, 3, 4, 5, 6, 7, 8, 9, 10, 11, 12, 13, 14] rfl (fun r_10 _ H locs hw hP hS => ?_)
  have hv := hv r_10 hw
  refine lv_lstore (lv' := [(4, .long r_10), (0, .ref m0), (1, .int x), (2, .int y), (3, .int z)]) hx hb dX8_sitOn_7 hl (by decide) rfl (fun ls hl => ?_)
  refine lv_aload_n hx hb dX8_sitOn_9 rfl (lv_at hl 1 rfl) ?_
  refine va_get (D := G.1) (ci := 8) (v := .ref m1) (C := RX8) (T := TX8) (N := 29) hx hb hts hinX8 hown hKK.1 hP 0 rfl rfl 0 (by decide) kl7 (fun _ h9 => h9) rfl dX8_sitOn_10 ?_
  refine lv_iload_n hx hb dX8_sitOn_13 rfl (lv_at hl 2 rfl) ?_
  refine lv_iload_n hx hb dX8_sitOn_14 rfl (lv_at hl 4 rfl) ?_
  refine lv_iadd hx hb dX8_sitOn_15 ?_
  refine lv_dup2_11 hx hb dX8_sitOn_16 rfl rfl ?_
  obtain ⟨hin, hv⟩ := hv
  refine va_lald hx hb hKK.1 hP 1 2 rfl rfl hin dX8_sitOn_17 ?_
  refine lv_lload hx hb dX8_sitOn_18 (lv_at hl 0 rfl) ?_
  refine lv_ladd hx hb dX8_sitOn_20 ?_
  obtain ⟨hin, hv⟩ := hv
  refine va_last hx hb hKK.1 hP hD hS 1 2 rfl rfl hin dX8_sitOn_21 (fun H locs hP hD hS => ?_)
  obtain ⟨fm1_11, ef⟩ : ∃ z9_, z9_ = (vp_updL mw ((x + z).toNatClampNeg) ((mw (x + z).toNatClampNeg) + r_10)) := ⟨_, rfl⟩
  have hP : va_P G.1 vwCl [(m0, .inr (8, [.ref m1, .ref m2, .ref m3, .ref m4, .ref m5, .ref m6, .ref m7, .ref m8, .ref m9, .int fu, .int fd, .int fi, .int nu, .int nw, .int nf, .int bf, .int bn, .ref m10, .int ts, .int ap, .int fs, .int ln, .int fo, .int fa, .ref m11, .ref m12, .ref m13, .ref m14, .int wr])), aJ G m1 560 fm1_11, aZ G m2 2 ik, aI G m3 20 zs, aI G m4 20 cl, aI G m5 20 hs, aI G m6 20 ks, aI G m7 20 wa, aI G m8 20 ne, aI G m9 4 mn, aI G m10 400 tx, aI G m11 6 th, aI G m12 6 od, aI G m13 30 bk, aI G m14 30 bh] H := by rw [ef]; exact hP
  have hD : va_D A [(m0, .inr (8, [.ref m1, .ref m2, .ref m3, .ref m4, .ref m5, .ref m6, .ref m7, .ref m8, .ref m9, .int fu, .int fd, .int fi, .int nu, .int nw, .int nf, .int bf, .int bn, .ref m10, .int ts, .int ap, .int fs, .int ln, .int fo, .int fa, .ref m11, .ref m12, .ref m13, .ref m14, .int wr])), aJ G m1 560 fm1_11, aZ G m2 2 ik, aI G m3 20 zs, aI G m4 20 cl, aI G m5 20 hs, aI G m6 20 ks, aI G m7 20 wa, aI G m8 20 ne, aI G m9 4 mn, aI G m10 400 tx, aI G m11 6 th, aI G m12 6 od, aI G m13 30 bk, aI G m14 30 bh] := by rw [ef]; exact hD
  have hv := hv fm1_11 ef
  refine lv_aload_n hx hb dX8_sitOn_22 rfl (lv_at hl 1 rfl) ?_
  refine va_get (D := G.1) (ci := 8) (v := .ref m1) (C := RX8) (T := TX8) (N := 29) hx hb hts hinX8 hown hKK.1 hP 0 rfl rfl 0 (by decide) kl7 (fun _ h9 => h9) rfl dX8_sitOn_23 ?_
  refine lv_iload_n hx hb dX8_sitOn_26 rfl (lv_at hl 2 rfl) ?_
  refine lv_bipush (v := 10) hx hb dX8_sitOn_27 (by decide) ?_
  refine lv_iadd hx hb dX8_sitOn_29 ?_
  refine lv_iload_n hx hb dX8_sitOn_30 rfl (lv_at hl 3 rfl) ?_
  refine lv_iadd hx hb dX8_sitOn_31 ?_
  refine lv_dup2_11 hx hb dX8_sitOn_32 rfl rfl ?_
  obtain ⟨hin, hv⟩ := hv
  refine va_lald hx hb hKK.1 hP 1 2 rfl rfl hin dX8_sitOn_33 ?_
  refine lv_lload hx hb dX8_sitOn_34 (lv_at hl 0 rfl) ?_
  refine lv_lsub hx hb dX8_sitOn_36 ?_
  obtain ⟨hin, hv⟩ := hv
  refine va_last hx hb hKK.1 hP hD hS 1 2 rfl rfl hin dX8_sitOn_37 (fun H locs hP hD hS => ?_)
  obtain ⟨fm1_12, ef⟩ : ∃ z9_, z9_ = (vp_updL fm1_11 (((x + 10) + y).toNatClampNeg) ((fm1_11 ((x + 10) + y).toNatClampNeg) - r_10)) := ⟨_, rfl⟩
  have hP : va_P G.1 vwCl [(m0, .inr (8, [.ref m1, .ref m2, .ref m3, .ref m4, .ref m5, .ref m6, .ref m7, .ref m8, .ref m9, .int fu, .int fd, .int fi, .int nu, .int nw, .int nf, .int bf, .int bn, .ref m10, .int ts, .int ap, .int fs, .int ln, .int fo, .int fa, .ref m11, .ref m12, .ref m13, .ref m14, .int wr])), aJ G m1 560 fm1_12, aZ G m2 2 ik, aI G m3 20 zs, aI G m4 20 cl, aI G m5 20 hs, aI G m6 20 ks, aI G m7 20 wa, aI G m8 20 ne, aI G m9 4 mn, aI G m10 400 tx, aI G m11 6 th, aI G m12 6 od, aI G m13 30 bk, aI G m14 30 bh] H := by rw [ef]; exact hP
  have hD : va_D A [(m0, .inr (8, [.ref m1, .ref m2, .ref m3, .ref m4, .ref m5, .ref m6, .ref m7, .ref m8, .ref m9, .int fu, .int fd, .int fi, .int nu, .int nw, .int nf, .int bf, .int bn, .ref m10, .int ts, .int ap, .int fs, .int ln, .int fo, .int fa, .ref m11, .ref m12, .ref m13, .ref m14, .int wr])), aJ G m1 560 fm1_12, aZ G m2 2 ik, aI G m3 20 zs, aI G m4 20 cl, aI G m5 20 hs, aI G m6 20 ks, aI G m7 20 wa, aI G m8 20 ne, aI G m9 4 mn, aI G m10 400 tx, aI G m11 6 th, aI G m12 6 od, aI G m13 30 bk, aI G m14 30 bh] := by rw [ef]; exact hD
  have hv := hv fm1_12 ef
  refine lv_bipush (v := 60) hx hb dX8_sitOn_38 (by decide) ?_
  refine lv_bipush (v := 9) hx hb dX8_sitOn_40 (by decide) ?_
  refine lv_iload_n hx hb dX8_sitOn_42 rfl (lv_at hl 3 rfl) ?_
  refine lv_imul hx hb dX8_sitOn_43 ?_
  refine lv_iadd hx hb dX8_sitOn_44 ?_
  refine lv_iload_n hx hb dX8_sitOn_45 rfl (lv_at hl 4 rfl) ?_
  refine lv_iadd hx hb dX8_sitOn_46 ?_
  refine lv_topi (fun y_13 ey => ?_)
  have hv := hv y_13 ey
  refine lv_istore (lv' := [(6, .int y_13), (4, .long r_10), (0, .ref m0), (1, .int x), (2, .int y), (3, .int z)]) hx hb dX8_sitOn_47 hl (by decide) rfl (fun ls hl => ?_)
  refine lv_aload_n hx hb dX8_sitOn_49 rfl (lv_at hl 2 rfl) ?_
  refine va_get (D := G.1) (ci := 8) (v := .ref m1) (C := RX8) (T := TX8) (N := 29) hx hb hts hinX8 hown hKK.1 hP 0 rfl rfl 0 (by decide) kl7 (fun _ h9 => h9) rfl dX8_sitOn_50 ?_
  refine lv_iload_n hx hb dX8_sitOn_53 rfl (lv_at hl 3 rfl) ?_
  refine lv_iload hx hb dX8_sitOn_54 (lv_at hl 0 rfl) ?_
  refine lv_iadd hx hb dX8_sitOn_56 ?_
  obtain ⟨hin, hv⟩ := hv
  refine va_lald hx hb hKK.1 hP 1 2 rfl rfl hin dX8_sitOn_57 ?_
  refine lv_lconst (v := 0) hx hb dX8_sitOn_58 (by decide) ?_
  refine W.lcmp hx hb dX8_sitOn_59 ?_
  refine lv_if_le (tgt := 79) hx hb dX8_sitOn_60 (by decide) (fun hc_14 => ?_) (fun hc_14 => ?_)
  · have hv := hv.1 ((lg_cmp_le _ _).mp hc_14)
    refine lv_aload_n hx hb dX8_sitOn_79 rfl (lv_at hl 2 rfl) ?_
    refine va_get (D := G.1) (ci := 8) (v := .ref m1) (C := RX8) (T := TX8) (N := 29) hx hb hts hinX8 hown hKK.1 hP 0 rfl rfl 0 (by decide) kl7 (fun _ h9 => h9) rfl dX8_sitOn_80 ?_
    refine lv_iload_n hx hb dX8_sitOn_83 rfl (lv_at hl 3 rfl) ?_
    refine lv_bipush (v := 40) hx hb dX8_sitOn_84 (by decide) ?_
    refine lv_iadd hx hb dX8_sitOn_86 ?_
    refine lv_iload_n hx hb dX8_sitOn_87 rfl (lv_at hl 4 rfl) ?_
    refine lv_iadd hx hb dX8_sitOn_88 ?_
    refine lv_dup2_11 hx hb dX8_sitOn_89 rfl rfl ?_
    obtain ⟨hin, hv⟩ := hv
    refine va_lald hx hb hKK.1 hP 1 2 rfl rfl hin dX8_sitOn_90 ?_
    refine lv_lconst (v := 1) hx hb dX8_sitOn_91 (by decide) ?_
    refine lv_ladd hx hb dX8_sitOn_92 ?_
    obtain ⟨hin, hv⟩ := hv
    refine va_last hx hb hKK.1 hP hD hS 1 2 rfl rfl hin dX8_sitOn_93 (fun H locs hP hD hS => ?_)
    obtain ⟨fm1_15, ef⟩ : ∃ z9_, z9_ = (vp_updL fm1_12 (((x + 40) + y).toNatClampNeg) ((fm1_12 ((x + 40) + y).toNatClampNeg) + 1)) := ⟨_, rfl⟩
    have hP : va_P G.1 vwCl [(m0, .inr (8, [.ref m1, .ref m2, .ref m3, .ref m4, .ref m5, .ref m6, .ref m7, .ref m8, .ref m9, .int fu, .int fd, .int fi, .int nu, .int nw, .int nf, .int bf, .int bn, .ref m10, .int ts, .int ap, .int fs, .int ln, .int fo, .int fa, .ref m11, .ref m12, .ref m13, .ref m14, .int wr])), aJ G m1 560 fm1_15, aZ G m2 2 ik, aI G m3 20 zs, aI G m4 20 cl, aI G m5 20 hs, aI G m6 20 ks, aI G m7 20 wa, aI G m8 20 ne, aI G m9 4 mn, aI G m10 400 tx, aI G m11 6 th, aI G m12 6 od, aI G m13 30 bk, aI G m14 30 bh] H := by rw [ef]; exact hP
    have hD : va_D A [(m0, .inr (8, [.ref m1, .ref m2, .ref m3, .ref m4, .ref m5, .ref m6, .ref m7, .ref m8, .ref m9, .int fu, .int fd, .int fi, .int nu, .int nw, .int nf, .int bf, .int bn, .ref m10, .int ts, .int ap, .int fs, .int ln, .int fo, .int fa, .ref m11, .ref m12, .ref m13, .ref m14, .int wr])), aJ G m1 560 fm1_15, aZ G m2 2 ik, aI G m3 20 zs, aI G m4 20 cl, aI G m5 20 hs, aI G m6 20 ks, aI G m7 20 wa, aI G m8 20 ne, aI G m9 4 mn, aI G m10 400 tx, aI G m11 6 th, aI G m12 6 od, aI G m13 30 bk, aI G m14 30 bh] := by rw [ef]; exact hD
    have hv := hv fm1_15 ef
    exact x_vret fm1_15 hQ hx hb hr hlocks hS dX8_sitOn_94 hv hP hD
  · have hv := hv.2 (fun h => hc_14 ((lg_cmp_le _ _).mpr h))
    refine lv_aload_n hx hb dX8_sitOn_63 rfl (lv_at hl 2 rfl) ?_
    refine va_get (D := G.1) (ci := 8) (v := .ref m1) (C := RX8) (T := TX8) (N := 29) hx hb hts hinX8 hown hKK.1 hP 0 rfl rfl 0 (by decide) kl7 (fun _ h9 => h9) rfl dX8_sitOn_64 ?_
    refine lv_iload_n hx hb dX8_sitOn_67 rfl (lv_at hl 3 rfl) ?_
    refine lv_iload hx hb dX8_sitOn_68 (lv_at hl 0 rfl) ?_
    refine lv_iadd hx hb dX8_sitOn_70 ?_
    refine lv_dup2_11 hx hb dX8_sitOn_71 rfl rfl ?_
    obtain ⟨hin, hv⟩ := hv
    refine va_lald hx hb hKK.1 hP 1 2 rfl rfl hin dX8_sitOn_72 ?_
    refine lv_lconst (v := 1) hx hb dX8_sitOn_73 (by decide) ?_
    refine lv_lsub hx hb dX8_sitOn_74 ?_
    obtain ⟨hin, hv⟩ := hv
    refine va_last hx hb hKK.1 hP hD hS 1 2 rfl rfl hin dX8_sitOn_75 (fun H locs hP hD hS => ?_)
    obtain ⟨fm1_16, ef⟩ : ∃ z9_, z9_ = (vp_updL fm1_12 ((x + y_13).toNatClampNeg) ((fm1_12 (x + y_13).toNatClampNeg) - 1)) := ⟨_, rfl⟩
    have hP : va_P G.1 vwCl [(m0, .inr (8, [.ref m1, .ref m2, .ref m3, .ref m4, .ref m5, .ref m6, .ref m7, .ref m8, .ref m9, .int fu, .int fd, .int fi, .int nu, .int nw, .int nf, .int bf, .int bn, .ref m10, .int ts, .int ap, .int fs, .int ln, .int fo, .int fa, .ref m11, .ref m12, .ref m13, .ref m14, .int wr])), aJ G m1 560 fm1_16, aZ G m2 2 ik, aI G m3 20 zs, aI G m4 20 cl, aI G m5 20 hs, aI G m6 20 ks, aI G m7 20 wa, aI G m8 20 ne, aI G m9 4 mn, aI G m10 400 tx, aI G m11 6 th, aI G m12 6 od, aI G m13 30 bk, aI G m14 30 bh] H := by rw [ef]; exact hP
    have hD : va_D A [(m0, .inr (8, [.ref m1, .ref m2, .ref m3, .ref m4, .ref m5, .ref m6, .ref m7, .ref m8, .ref m9, .int fu, .int fd, .int fi, .int nu, .int nw, .int nf, .int bf, .int bn, .ref m10, .int ts, .int ap, .int fs, .int ln, .int fo, .int fa, .ref m11, .ref m12, .ref m13, .ref m14, .int wr])), aJ G m1 560 fm1_16, aZ G m2 2 ik, aI G m3 20 zs, aI G m4 20 cl, aI G m5 20 hs, aI G m6 20 ks, aI G m7 20 wa, aI G m8 20 ne, aI G m9 4 mn, aI G m10 400 tx, aI G m11 6 th, aI G m12 6 od, aI G m13 30 bk, aI G m14 30 bh] := by rw [ef]; exact hD
    have hv := hv fm1_16 ef
    refine lv_goto (tgt := 94) hx hb dX8_sitOn_76 (by decide) ?_
    exact x_vret fm1_16 hQ hx hb hr hlocks hS dX8_sitOn_94 hv hP hD
theorem v_X8_sitOn (l : Launch) (G : Gt) (m0 m1 m2 m3 m4 m5 m6 m7 m8 m9 m10 m11 m12 m13 m14 : Nat) (sz : Nat) (mw : Nat → Int64) (ik : Nat → Int32) (zs : Nat → Int32) (cl : Nat → Int32) (hs : Nat → Int32) (ks : Nat → Int32) (wa : Nat → Int32) (ne : Nat → Int32) (mn : Nat → Int32) (tx : Nat → Int32) (th : Nat → Int32) (od : Nat → Int32) (bk : Nat → Int32) (bh : Nat → Int32) (fu : Int32) (fd : Int32) (fi : Int32) (nu : Int32) (nw : Int32) (nf : Int32) (bf : Int32) (bn : Int32) (ts : Int32) (ap : Int32) (fs : Int32) (ln : Int32) (fo : Int32) (fa : Int32) (wr : Int32) (x : Int32) (y : Int32) (z : Int32) (T : Nat → Nat → Int) (Ns : Nat) (Np : Nat) (X : Nat) (v : Nat → Int) (kk : Nat → Int) (M : Int) (ip : Nat) (ib : Nat) (hp : TOK T Ns Np ∧ MT T Ns Np fu fd fi zs cl ks ne mn ∧ x = nI X ∧ X + 140 ≤ 560 ∧ MR X mw v ∧ NOK T Ns Np kk M v ∧ NB kk M ∧ y = nI ip ∧ ip < Np ∧ z = nI ib ∧ ib < Ns) : ∃ (gT_1 : Nat → Nat → Int) (gNs_2 : Nat) (gNp_3 : Nat) (gX_4 : Nat) (gv_5 : Nat → Int) (gkk_6 : Nat → Int) (gM_7 : Int) (gip_8 : Nat) (gib_9 : Nat), ((TOK gT_1 gNs_2 gNp_3 ∧ MT gT_1 gNs_2 gNp_3 fu fd fi zs cl ks ne mn ∧ x = nI gX_4 ∧ gX_4 + 140 ≤ 560 ∧ MR gX_4 mw gv_5 ∧ NOK gT_1 gNs_2 gNp_3 gkk_6 gM_7 gv_5 ∧ y = nI gip_8 ∧ gip_8 < gNp_3 ∧ z = nI gib_9 ∧ gib_9 < gNs_2) ∧ (∀ (r_10 : Int64), (r_10.toInt = flowZ (gT_1 2 gip_8) (gT_1 0 gib_9) (gv_5 (10 + gip_8)) (gv_5 gib_9)) → ((vp_in (x + z) 560) ∧ ((vp_in (x + z) 560) ∧ (∀ (fm1_11 : (Nat → Int64)), (fm1_11 = (vp_updL mw ((x + z).toNatClampNeg) ((mw (x + z).toNatClampNeg) + r_10))) → ((vp_in ((x + 10) + y) 560) ∧ ((vp_in ((x + 10) + y) 560) ∧ (∀ (fm1_12 : (Nat → Int64)), (fm1_12 = (vp_updL fm1_11 (((x + 10) + y).toNatClampNeg) ((fm1_11 ((x + 10) + y).toNatClampNeg) - r_10))) → (∀ (y_13 : Int32), (y_13 = ((60 + (9 * y)) + z)) → ((vp_in (x + y_13) 560) ∧ (((fm1_12 (x + y_13).toNatClampNeg) ≤ 0 → (vp_in ((x + 40) + y) 560) ∧ ((vp_in ((x + 40) + y) 560) ∧ (∀ (fm1_15 : (Nat → Int64)), (fm1_15 = (vp_updL fm1_12 (((x + 40) + y).toNatClampNeg) ((fm1_12 ((x + 40) + y).toNatClampNeg) + 1))) → (MR X fm1_15 (zOwn ip ib (zSit T ip ib v)) ∧ MF X mw fm1_15)))) ∧ (¬ ((fm1_12 (x + y_13).toNatClampNeg) ≤ 0) → (vp_in (x + y_13) 560) ∧ ((vp_in (x + y_13) 560) ∧ (∀ (fm1_16 : (Nat → Int64)), (fm1_16 = (vp_updL fm1_12 ((x + y_13).toNatClampNeg) ((fm1_12 (x + y_13).toNatClampNeg) - 1))) → (MR X fm1_16 (zOwn ip ib (zSit T ip ib v)) ∧ MF X mw fm1_16))))))))))))))) := by
  obtain ⟨hT, hC, rfl, hX, hR, hO, hB, rfl, h1, rfl, h2⟩ := hp
  have t1 := hT.1
  have t2 := hT.2.1
  refine ⟨T, Ns, Np, X, v, kk, M, ip, ib, ⟨hT, hC, rfl, hX, hR, hO, rfl, h1, rfl, h2⟩, fun r hr => ?_⟩
  have e10 : nI X + 10 + nI ip = nI (X + (10 + ip)) := ix2 X 10 ip
  have c10 : (nI (X + (10 + ip))).toNatClampNeg = X + (10 + ip) := nI_clamp (by omega)
  have e40 : nI X + 40 + nI ip = nI (X + (40 + ip)) := ix2 X 40 ip
  have c40 : (nI (X + (40 + ip))).toNatClampNeg = X + (40 + ip) := nI_clamp (by omega)
  have e0 : nI X + nI ib = nI (X + ib) := ix1 X ib
  have c0 : (nI (X + ib)).toNatClampNeg = X + ib := nI_clamp (by omega)
  have e60 : nI X + nI (60 + (9 * ip + ib)) = nI (X + (60 + (9 * ip + ib))) := ix1 X _
  have c60 : (nI (X + (60 + (9 * ip + ib)))).toNatClampNeg = X + (60 + (9 * ip + ib)) := nI_clamp (by omega)
  simp only [e10, c10, e40, c40, e0, c0]
  have vw : vp_in (nI (X + (10 + ip))) 560 := vp_in_nI (by omega) (by omega)
  have vh : vp_in (nI (X + ib)) 560 := vp_in_nI (by omega) (by omega)
  have vs : vp_in (nI (X + (40 + ip))) 560 := vp_in_nI (by omega) (by omega)
  have vo : vp_in (nI (X + (60 + (9 * ip + ib)))) 560 := vp_in_nI (by omega) (by omega)
  have a1 := hO.1 ib h2
  have a2 := (hO.2.1 ip h1).1
  have a3 := hT.2.2.1 ib h2
  have fb := flowZ_bd (k := T 2 ip) a2.1 a2.2 a1.1 a1.2 a3.2.1
  have ew := hR (10 + ip) (by omega)
  have eh := hR ib (by omega)
  have hO1 := zSit_ok hT hO h1 h2
  have b1 := (hO1.2.1 ip h1).2.2.2.1
  have b2 := hO1.2.2.2.1 ip ib h1 h2
  have b3 := hB.1 ip
  refine ⟨vh, vh, fun w1 ew1 => ⟨vw, vw, fun w2 ew2 y ey => ?_⟩⟩
  have hR1 : MR X w1 (uz v ib (v ib + flowZ (T 2 ip) (T 0 ib) (v (10 + ip)) (v ib))) := by rw [ew1]; exact hR.up (l_add eh hr (by omega) (by omega))
  have hF1 : MF X mw w1 := by rw [ew1]; exact (MF.rf X mw).up (by omega)
  have hR2 : MR X w2 (zSit T ip ib v) := by
    rw [ew2]
    refine hR1.up (l_sub ?_ hr (by omega) (by omega))
    rw [hR1 (10 + ip) (by omega), uz_ne (by omega)]
  have hF2 : MF X mw w2 := by rw [ew2]; exact hF1.up (by omega)
  have ey2 : y = nI (60 + (9 * ip + ib)) := by rw [ey, show (9 : Int32) = nI 9 from rfl, show (60 : Int32) = nI 60 from rfl, pk_mul, nI_add, nI_add, Nat.add_assoc]
  subst ey2
  simp only [e60, c60]
  have eo := hR2 (60 + (9 * ip + ib)) (by omega)
  have es := hR2 (40 + ip) (by omega)
  refine ⟨vo, fun q => ⟨vs, vs, fun w3 ew3 => ?_⟩, fun q => ⟨vo, vo, fun w3 ew3 => ?_⟩⟩
  · have q' : ¬ 0 < zSit T ip ib v (60 + (9 * ip + ib)) := by have := (l_le eo (show (0 : Int64).toInt = 0 from rfl)).mp q; omega
    unfold zOwn
    rw [if_neg q', ew3]
    exact ⟨hR2.up (l_add es (show (1 : Int64).toInt = 1 from rfl) (by omega) (by omega)), hF2.up (by omega)⟩
  · have q' : 0 < zSit T ip ib v (60 + (9 * ip + ib)) := by
      have := mt (l_le eo (show (0 : Int64).toInt = 0 from rfl)).mpr q
      omega
    unfold zOwn
    rw [if_pos q', ew3]
    exact ⟨hR2.up (l_sub eo (show (1 : Int64).toInt = 1 from rfl) (by omega) (by omega)), hF2.up (by omega)⟩
theorem k_X8_sitOn (l : Launch) (G : Gt) (m0 m1 m2 m3 m4 m5 m6 m7 m8 m9 m10 m11 m12 m13 m14 : Nat) (sz : Nat) (mw : Nat → Int64) (ik : Nat → Int32) (zs : Nat → Int32) (cl : Nat → Int32) (hs : Nat → Int32) (ks : Nat → Int32) (wa : Nat → Int32) (ne : Nat → Int32) (mn : Nat → Int32) (tx : Nat → Int32) (th : Nat → Int32) (od : Nat → Int32) (bk : Nat → Int32) (bh : Nat → Int32) (fu : Int32) (fd : Int32) (fi : Int32) (nu : Int32) (nw : Int32) (nf : Int32) (bf : Int32) (bn : Int32) (ts : Int32) (ap : Int32) (fs : Int32) (ln : Int32) (fo : Int32) (fa : Int32) (wr : Int32) (x : Int32) (y : Int32) (z : Int32) (T : Nat → Nat → Int) (Ns : Nat) (Np : Nat) (X : Nat) (v : Nat → Int) (kk : Nat → Int) (M : Int) (ip : Nat) (ib : Nat) (hp : TOK T Ns Np ∧ MT T Ns Np fu fd fi zs cl ks ne mn ∧ x = nI X ∧ X + 140 ≤ 560 ∧ MR X mw v ∧ NOK T Ns Np kk M v ∧ NB kk M ∧ y = nI ip ∧ ip < Np ∧ z = nI ib ∧ ib < Ns) : MetV l yX8_sitOn wsX8_sitOn 2 49 G [.ref m0, .int x, .int y, .int z] [(m0, .inr (8, [.ref m1, .ref m2, .ref m3, .ref m4, .ref m5, .ref m6, .ref m7, .ref m8, .ref m9, .int fu, .int fd, .int fi, .int nu, .int nw, .int nf, .int bf, .int bn, .ref m10, .int ts, .int ap, .int fs, .int ln, .int fo, .int fa, .ref m11, .ref m12, .ref m13, .ref m14, .int wr])), aJ G m1 560 mw, aZ G m2 2 ik, aI G m3 20 zs, aI G m4 20 cl, aI G m5 20 hs, aI G m6 20 ks, aI G m7 20 wa, aI G m8 20 ne, aI G m9 4 mn, aI G m10 400 tx, aI G m11 6 th, aI G m12 6 od, aI G m13 30 bk, aI G m14 30 bh] sz (fun (u : (Nat → Int64)) => MR X u (zOwn ip ib (zSit T ip ib v)) ∧ MF X mw u) (fun (u : (Nat → Int64)) => [(m0, .inr (8, [.ref m1, .ref m2, .ref m3, .ref m4, .ref m5, .ref m6, .ref m7, .ref m8, .ref m9, .int fu, .int fd, .int fi, .int nu, .int nw, .int nf, .int bf, .int bn, .ref m10, .int ts, .int ap, .int fs, .int ln, .int fo, .int fa, .ref m11, .ref m12, .ref m13, .ref m14, .int wr])), aJ G m1 560 u, aZ G m2 2 ik, aI G m3 20 zs, aI G m4 20 cl, aI G m5 20 hs, aI G m6 20 ks, aI G m7 20 wa, aI G m8 20 ne, aI G m9 4 mn, aI G m10 400 tx, aI G m11 6 th, aI G m12 6 od, aI G m13 30 bk, aI G m14 30 bh]) :=
  c_X8_sitOn l G m0 m1 m2 m3 m4 m5 m6 m7 m8 m9 m10 m11 m12 m13 m14 sz mw ik zs cl hs ks wa ne mn tx th od bk bh fu fd fi nu nw nf bf bn ts ap fs ln fo fa wr x y z T Ns Np X v kk M ip ib (v_X8_sitOn l G m0 m1 m2 m3 m4 m5 m6 m7 m8 m9 m10 m11 m12 m13 m14 sz mw ik zs cl hs ks wa ne mn tx th od bk bh fu fd fi nu nw nf bf bn ts ap fs ln fo fa wr x y z T Ns Np X v kk M ip ib hp)

set_option maxHeartbeats 4000000 in
set_option maxRecDepth 100000 in
theorem c_X8_isCold (l : Launch) (G : Gt) (m0 m1 m2 m3 m4 m5 m6 m7 m8 m9 m10 m11 m12 m13 m14 : Nat) (sz : Nat) (mw : Nat → Int64) (ik : Nat → Int32) (zs : Nat → Int32) (cl : Nat → Int32) (hs : Nat → Int32) (ks : Nat → Int32) (wa : Nat → Int32) (ne : Nat → Int32) (mn : Nat → Int32) (tx : Nat → Int32) (th : Nat → Int32) (od : Nat → Int32) (bk : Nat → Int32) (bh : Nat → Int32) (fu : Int32) (fd : Int32) (fi : Int32) (nu : Int32) (nw : Int32) (nf : Int32) (bf : Int32) (bn : Int32) (ts : Int32) (ap : Int32) (fs : Int32) (ln : Int32) (fo : Int32) (fa : Int32) (wr : Int32) (x : Int32) (y : Int32) (T : Nat → Nat → Int) (Ns : Nat) (Np : Nat) (X : Nat) (v : Nat → Int) (ip : Nat) (hv : (vp_in ((x + 10) + y) 560) ∧ ((vp_in y 20) ∧ (((ne y.toNatClampNeg).toInt64 ≤ (mw ((x + 10) + y).toNatClampNeg) → (0 : Int32) = if v (10 + ip) < T 3 ip then 1 else 0) ∧ (¬ ((ne y.toNatClampNeg).toInt64 ≤ (mw ((x + 10) + y).toNatClampNeg)) → (1 : Int32) = if v (10 + ip) < T 3 ip then 1 else 0)))) : MetI l yX8_isCold wsX8_isCold 0 0 G [.ref m0, .int x, .int y] [(m0, .inr (8, [.ref m1, .ref m2, .ref m3, .ref m4, .ref m5, .ref m6, .ref m7, .ref m8, .ref m9, .int fu, .int fd, .int fi, .int nu, .int nw, .int nf, .int bf, .int bn, .ref m10, .int ts, .int ap, .int fs, .int ln, .int fo, .int fa, .ref m11, .ref m12, .ref m13, .ref m14, .int wr])), aJ G m1 560 mw, aZ G m2 2 ik, aI G m3 20 zs, aI G m4 20 cl, aI G m5 20 hs, aI G m6 20 ks, aI G m7 20 wa, aI G m8 20 ne, aI G m9 4 mn, aI G m10 400 tx, aI G m11 6 th, aI G m12 6 od, aI G m13 30 bk, aI G m14 30 bh] sz (fun (r : Int32) (_ : Unit) => r = if v (10 + ip) < T 3 ip then 1 else 0) (fun (_ : Unit) => [(m0, .inr (8, [.ref m1, .ref m2, .ref m3, .ref m4, .ref m5, .ref m6, .ref m7, .ref m8, .ref m9, .int fu, .int fd, .int fi, .int nu, .int nw, .int nf, .int bf, .int bn, .ref m10, .int ts, .int ap, .int fs, .int ln, .int fo, .int fa, .ref m11, .ref m12, .ref m13, .ref m14, .int wr])), aJ G m1 560 mw, aZ G m2 2 ik, aI G m3 20 zs, aI G m4 20 cl, aI G m5 20 hs, aI G m6 20 ks, aI G m7 20 wa, aI G m8 20 ne, aI G m9 4 mn, aI G m10 400 tx, aI G m11 6 th, aI G m12 6 od, aI G m13 30 bk, aI G m14 30 bh]) := by
  refine x_startI (cc := cX8_isCold) (maxL := 3) (ret := (some .boolean)) (by decide) rfl (Nat.le_of_ble_eq_true rfl) ?_
  intro p e s m args below meth c A R Q ls hRf hRl hQ C hP hD hS hA hSS hl
  obtain ⟨hx, hb, hr, hml, hown, hts, hlocks, hKK⟩ := C
  have hown : s.vm.findClass RX8 = some m.cls := hown
  have hl : lv_has ls 3 [(0, .ref m0), (1, .int x), (2, .int y)] := hl
  have hinX8 : ∀ w ∈ u_ws RX8 TX8 29, w ∈ wsX8_isCold := by decide +kernel
  have kl33 := hts (.fieldLink RX8 33 "WarmStonesModel" "needs" "[I") (by decide +kernel)
  have kl7 := hts (.fieldLink RX8 7 "WarmStonesModel" "w" "[J") (by decide +kernel)
  refine lv_aload_n hx hb dX8_isCold_0 rfl (lv_at hl 0 rfl) ?_
  refine va_get (D := G.1) (ci := 8) (v := .ref m1) (C := RX8) (T := TX8) (N := 29) hx hb hts hinX8 hown hKK.1 hP 0 rfl rfl 0 (by decide) kl7 (fun _ h9 => h9) rfl dX8_isCold_1 ?_
  refine lv_iload_n hx hb dX8_isCold_4 rfl (lv_at hl 1 rfl) ?_
  refine lv_bipush (v := 10) hx hb dX8_isCold_5 (by decide) ?_
  refine lv_iadd hx hb dX8_isCold_7 ?_
  refine lv_iload_n hx hb dX8_isCold_8 rfl (lv_at hl 2 rfl) ?_
  refine lv_iadd hx hb dX8_isCold_9 ?_
  obtain ⟨hin, hv⟩ := hv
  refine va_lald hx hb hKK.1 hP 1 2 rfl rfl hin dX8_isCold_10 ?_
  refine lv_aload_n hx hb dX8_isCold_11 rfl (lv_at hl 0 rfl) ?_
  refine va_get (D := G.1) (ci := 8) (v := .ref m8) (C := RX8) (T := TX8) (N := 29) hx hb hts hinX8 hown hKK.1 hP 0 rfl rfl 7 (by decide) kl33 (fun _ h9 => h9) rfl dX8_isCold_12 ?_
  refine lv_iload_n hx hb dX8_isCold_15 rfl (lv_at hl 2 rfl) ?_
  obtain ⟨hin, hv⟩ := hv
  refine va_iald hx hb hKK.1 hP 8 0 rfl rfl hin dX8_isCold_16 ?_
  refine lv_i2l hx hb dX8_isCold_17 rfl ?_
  refine W.lcmp hx hb dX8_isCold_18 ?_
  refine lv_if_ge (tgt := 26) hx hb dX8_isCold_19 (by decide) (fun hc_1 => ?_) (fun hc_1 => ?_)
  · have hv := hv.1 ((lg_cmp_ge _ _).mp hc_1)
    refine lv_iconst (v := 0) hx hb dX8_isCold_26 (by decide) ?_
    exact x_zret (v := 0) () hQ hx hb hr hlocks hS dX8_isCold_27 rfl hv hP hD
  · have hv := hv.2 (fun h => hc_1 ((lg_cmp_ge _ _).mpr h))
    refine lv_iconst (v := 1) hx hb dX8_isCold_22 (by decide) ?_
    refine lv_goto (tgt := 27) hx hb dX8_isCold_23 (by decide) ?_
    exact x_zret (v := 1) () hQ hx hb hr hlocks hS dX8_isCold_27 rfl hv hP hD
theorem v_X8_isCold (l : Launch) (G : Gt) (m0 m1 m2 m3 m4 m5 m6 m7 m8 m9 m10 m11 m12 m13 m14 : Nat) (sz : Nat) (mw : Nat → Int64) (ik : Nat → Int32) (zs : Nat → Int32) (cl : Nat → Int32) (hs : Nat → Int32) (ks : Nat → Int32) (wa : Nat → Int32) (ne : Nat → Int32) (mn : Nat → Int32) (tx : Nat → Int32) (th : Nat → Int32) (od : Nat → Int32) (bk : Nat → Int32) (bh : Nat → Int32) (fu : Int32) (fd : Int32) (fi : Int32) (nu : Int32) (nw : Int32) (nf : Int32) (bf : Int32) (bn : Int32) (ts : Int32) (ap : Int32) (fs : Int32) (ln : Int32) (fo : Int32) (fa : Int32) (wr : Int32) (x : Int32) (y : Int32) (T : Nat → Nat → Int) (Ns : Nat) (Np : Nat) (X : Nat) (v : Nat → Int) (ip : Nat) (hp : TOK T Ns Np ∧ MT T Ns Np fu fd fi zs cl ks ne mn ∧ x = nI X ∧ X + 140 ≤ 560 ∧ MR X mw v ∧ y = nI ip ∧ ip < Np) : (vp_in ((x + 10) + y) 560) ∧ ((vp_in y 20) ∧ (((ne y.toNatClampNeg).toInt64 ≤ (mw ((x + 10) + y).toNatClampNeg) → (0 : Int32) = if v (10 + ip) < T 3 ip then 1 else 0) ∧ (¬ ((ne y.toNatClampNeg).toInt64 ≤ (mw ((x + 10) + y).toNatClampNeg)) → (1 : Int32) = if v (10 + ip) < T 3 ip then 1 else 0))) := by
  obtain ⟨hT, hC, rfl, hX, hR, rfl, h1⟩ := hp
  have t2 := hT.2.1
  have e10 : nI X + 10 + nI ip = nI (X + (10 + ip)) := ix2 X 10 ip
  have c10 : (nI (X + (10 + ip))).toNatClampNeg = X + (10 + ip) := nI_clamp (by omega)
  have cp : (nI ip).toNatClampNeg = ip := nI_clamp (by omega)
  simp only [e10, c10, cp]
  have hc : (ne ip).toInt64 ≤ mw (X + (10 + ip)) ↔ T 3 ip ≤ v (10 + ip) := l_le (i_l (hC.2.2.2.1 ip h1).2) (hR (10 + ip) (by omega))
  refine ⟨vp_in_nI (by omega) (by omega), vp_in_nI (by omega) (by omega), fun q => ?_, fun q => ?_⟩
  · rw [if_neg (by have := hc.mp q; omega)]
  · rw [if_pos (by have := mt hc.mpr q; omega)]
theorem k_X8_isCold (l : Launch) (G : Gt) (m0 m1 m2 m3 m4 m5 m6 m7 m8 m9 m10 m11 m12 m13 m14 : Nat) (sz : Nat) (mw : Nat → Int64) (ik : Nat → Int32) (zs : Nat → Int32) (cl : Nat → Int32) (hs : Nat → Int32) (ks : Nat → Int32) (wa : Nat → Int32) (ne : Nat → Int32) (mn : Nat → Int32) (tx : Nat → Int32) (th : Nat → Int32) (od : Nat → Int32) (bk : Nat → Int32) (bh : Nat → Int32) (fu : Int32) (fd : Int32) (fi : Int32) (nu : Int32) (nw : Int32) (nf : Int32) (bf : Int32) (bn : Int32) (ts : Int32) (ap : Int32) (fs : Int32) (ln : Int32) (fo : Int32) (fa : Int32) (wr : Int32) (x : Int32) (y : Int32) (T : Nat → Nat → Int) (Ns : Nat) (Np : Nat) (X : Nat) (v : Nat → Int) (ip : Nat) (hp : TOK T Ns Np ∧ MT T Ns Np fu fd fi zs cl ks ne mn ∧ x = nI X ∧ X + 140 ≤ 560 ∧ MR X mw v ∧ y = nI ip ∧ ip < Np) : MetI l yX8_isCold wsX8_isCold 0 0 G [.ref m0, .int x, .int y] [(m0, .inr (8, [.ref m1, .ref m2, .ref m3, .ref m4, .ref m5, .ref m6, .ref m7, .ref m8, .ref m9, .int fu, .int fd, .int fi, .int nu, .int nw, .int nf, .int bf, .int bn, .ref m10, .int ts, .int ap, .int fs, .int ln, .int fo, .int fa, .ref m11, .ref m12, .ref m13, .ref m14, .int wr])), aJ G m1 560 mw, aZ G m2 2 ik, aI G m3 20 zs, aI G m4 20 cl, aI G m5 20 hs, aI G m6 20 ks, aI G m7 20 wa, aI G m8 20 ne, aI G m9 4 mn, aI G m10 400 tx, aI G m11 6 th, aI G m12 6 od, aI G m13 30 bk, aI G m14 30 bh] sz (fun (r : Int32) (_ : Unit) => r = if v (10 + ip) < T 3 ip then 1 else 0) (fun (_ : Unit) => [(m0, .inr (8, [.ref m1, .ref m2, .ref m3, .ref m4, .ref m5, .ref m6, .ref m7, .ref m8, .ref m9, .int fu, .int fd, .int fi, .int nu, .int nw, .int nf, .int bf, .int bn, .ref m10, .int ts, .int ap, .int fs, .int ln, .int fo, .int fa, .ref m11, .ref m12, .ref m13, .ref m14, .int wr])), aJ G m1 560 mw, aZ G m2 2 ik, aI G m3 20 zs, aI G m4 20 cl, aI G m5 20 hs, aI G m6 20 ks, aI G m7 20 wa, aI G m8 20 ne, aI G m9 4 mn, aI G m10 400 tx, aI G m11 6 th, aI G m12 6 od, aI G m13 30 bk, aI G m14 30 bh]) :=
  c_X8_isCold l G m0 m1 m2 m3 m4 m5 m6 m7 m8 m9 m10 m11 m12 m13 m14 sz mw ik zs cl hs ks wa ne mn tx th od bk bh fu fd fi nu nw nf bf bn ts ap fs ln fo fa wr x y T Ns Np X v ip (v_X8_isCold l G m0 m1 m2 m3 m4 m5 m6 m7 m8 m9 m10 m11 m12 m13 m14 sz mw ik zs cl hs ks wa ne mn tx th od bk bh fu fd fi nu nw nf bf bn ts ap fs ln fo fa wr x y T Ns Np X v ip hp)

set_option maxHeartbeats 4000000 in
set_option maxRecDepth 100000 in
theorem c_X8_pass (l : Launch) (G : Gt) (m0 m1 m2 m3 m4 m5 m6 m7 m8 m9 m10 m11 m12 m13 m14 : Nat) (sz : Nat) (mw : Nat → Int64) (ik : Nat → Int32) (zs : Nat → Int32) (cl : Nat → Int32) (hs : Nat → Int32) (ks : Nat → Int32) (wa : Nat → Int32) (ne : Nat → Int32) (mn : Nat → Int32) (tx : Nat → Int32) (th : Nat → Int32) (od : Nat → Int32) (bk : Nat → Int32) (bh : Nat → Int32) (fu : Int32) (fd : Int32) (fi : Int32) (nu : Int32) (nw : Int32) (nf : Int32) (bf : Int32) (bn : Int32) (ts : Int32) (ap : Int32) (fs : Int32) (ln : Int32) (fo : Int32) (fa : Int32) (wr : Int32) (x : Int32) (T : Nat → Nat → Int) (Ns : Nat) (Np : Nat) (X : Nat) (v : Nat → Int) (M : Int) (hv : (vp_in (x + 132) 560) ∧ ((vp_in (x + 132) 560) ∧ (∀ (fm1_1 : (Nat → Int64)), (fm1_1 = (vp_updL mw ((x + 132).toNatClampNeg) ((mw (x + 132).toNatClampNeg) + 1))) → (∃ (I18_5 : (Nat → Int64) → Int32 → Int32 → Prop) (μ18_6 : (Nat → Int64) → Int32 → Int32 → Nat), I18_5 fm1_1 0 0 ∧ (∀ (fm1_2 : (Nat → Int64)) (x2_3 : Int32) (x3_4 : Int32), I18_5 fm1_2 x2_3 x3_4 → ((mn 1) ≤ x3_4 → ∃ (I227_12 : (Nat → Int64) → Int32 → Prop) (μ227_13 : (Nat → Int64) → Int32 → Nat), I227_12 fm1_2 0 ∧ (∀ (fm1_10 : (Nat → Int64)) (x3_11 : Int32), I227_12 fm1_10 x3_11 → ((mn 0) ≤ x3_11 → x2_3 = nI (zCs T (zPass T Ns Np v) Np) ∧ MR X fm1_10 (zPass T Ns Np v) ∧ MF X mw fm1_10) ∧ (¬ ((mn 0) ≤ x3_11) → ∃ (gT_17 : Nat → Nat → Int) (gNs_18 : Nat) (gNp_19 : Nat) (gX_20 : Nat) (gv_21 : Nat → Int) (gib_22 : Nat), ((TOK gT_17 gNs_18 gNp_19 ∧ MT gT_17 gNs_18 gNp_19 fu fd fi zs cl ks ne mn ∧ x = nI gX_20 ∧ gX_20 + 140 ≤ 560 ∧ MR gX_20 fm1_10 gv_21 ∧ x3_11 = nI gib_22 ∧ gib_22 < 9) ∧ (∀ (r_23 : Int32), ((r_23 < 0 ↔ zEmpty gv_21 gib_22 gNp_19) ∧ r_23 = zSitter gv_21 gib_22 gNp_19) → ((0 ≤ r_23 → I227_12 fm1_10 (x3_11 + 1) ∧ μ227_13 fm1_10 (x3_11 + 1) < μ227_13 fm1_10 x3_11) ∧ (¬ (0 ≤ r_23) → (vp_in (x + x3_11) 560) ∧ (((fm1_10 (x + x3_11).toNatClampNeg) ≤ 0 → I227_12 fm1_10 (x3_11 + 1) ∧ μ227_13 fm1_10 (x3_11 + 1) < μ227_13 fm1_10 x3_11) ∧ (¬ ((fm1_10 (x + x3_11).toNatClampNeg) ≤ 0) → (vp_in (x + x3_11) 560) ∧ ((vp_in x3_11 20) ∧ ((¬ (cl x3_11.toNatClampNeg).toInt64 = 0) ∧ (∀ (y_27 : Int64), (y_27 = (if ((fm1_10 (x + x3_11).toNatClampNeg) / (cl x3_11.toNatClampNeg).toInt64) < 1 then 1 else ((fm1_10 (x + x3_11).toNatClampNeg) / (cl x3_11.toNatClampNeg).toInt64))) → ((vp_in (x + x3_11) 560) ∧ ((vp_in (x + x3_11) 560) ∧ (∀ (fm1_28 : (Nat → Int64)), (fm1_28 = (vp_updL fm1_10 ((x + x3_11).toNatClampNeg) ((fm1_10 (x + x3_11).toNatClampNeg) - y_27))) → ((vp_in (x + 134) 560) ∧ ((vp_in (x + 134) 560) ∧ (∀ (fm1_29 : (Nat → Int64)), (fm1_29 = (vp_updL fm1_28 ((x + 134).toNatClampNeg) ((fm1_28 (x + 134).toNatClampNeg) + y_27))) → (I227_12 fm1_29 (x3_11 + 1) ∧ μ227_13 fm1_29 (x3_11 + 1) < μ227_13 fm1_10 x3_11))))))))))))))))))) ∧ (¬ ((mn 1) ≤ x3_4) → (vp_in ((x + 20) + x3_4) 560) ∧ (((fm1_2 ((x + 20) + x3_4).toNatClampNeg) < 0 → (vp_in ((x + 50) + x3_4) 560) ∧ ((vp_in ((x + 50) + x3_4) 560) ∧ (∀ (fm1_35 : (Nat → Int64)), (fm1_35 = (vp_updL fm1_2 (((x + 50) + x3_4).toNatClampNeg) ((fm1_2 ((x + 50) + x3_4).toNatClampNeg) + fi.toInt64))) → ((vp_in x3_4 20) ∧ ((¬ (ks x3_4.toNatClampNeg) = 4 → (vp_in ((x + 10) + x3_4) 560) ∧ (∀ (y_39 : Int64), (y_39 = (if fu.toInt64 < (fm1_35 ((x + 10) + x3_4).toNatClampNeg) then fu.toInt64 else (fm1_35 ((x + 10) + x3_4).toNatClampNeg))) → ((vp_in ((x + 10) + x3_4) 560) ∧ ((vp_in ((x + 10) + x3_4) 560) ∧ (∀ (fm1_40 : (Nat → Int64)), (fm1_40 = (vp_updL fm1_35 (((x + 10) + x3_4).toNatClampNeg) ((fm1_35 ((x + 10) + x3_4).toNatClampNeg) - y_39))) → ((vp_in (x + 134) 560) ∧ ((vp_in (x + 134) 560) ∧ (∀ (fm1_41 : (Nat → Int64)), (fm1_41 = (vp_updL fm1_40 ((x + 134).toNatClampNeg) ((fm1_40 (x + 134).toNatClampNeg) + y_39))) → ((vp_in ((x + 30) + x3_4) 560) ∧ (∃ (gT_42 : Nat → Nat → Int) (gNs_43 : Nat) (gNp_44 : Nat) (gX_45 : Nat) (gv_46 : Nat → Int) (gip_47 : Nat), ((TOK gT_42 gNs_43 gNp_44 ∧ MT gT_42 gNs_43 gNp_44 fu fd fi zs cl ks ne mn ∧ x = nI gX_45 ∧ gX_45 + 140 ≤ 560 ∧ MR gX_45 fm1_41 gv_46 ∧ x3_4 = nI gip_47 ∧ gip_47 < gNp_44) ∧ (∀ (r_48 : Int32), (r_48 = if gv_46 (10 + gip_47) < gT_42 3 gip_47 then 1 else 0) → ((vp_in ((x + 30) + x3_4) 560) ∧ (∀ (fm1_50 : (Nat → Int64)), (fm1_50 = (vp_updL fm1_41 (((x + 30) + x3_4).toNatClampNeg) ((fm1_41 ((x + 30) + x3_4).toNatClampNeg) + ((if r_48 = 0 then 0 else 1) : Int32).toInt64))) → (∃ (gT_51 : Nat → Nat → Int) (gNs_52 : Nat) (gNp_53 : Nat) (gX_54 : Nat) (gv_55 : Nat → Int) (gip_56 : Nat), ((TOK gT_51 gNs_52 gNp_53 ∧ MT gT_51 gNs_52 gNp_53 fu fd fi zs cl ks ne mn ∧ x = nI gX_54 ∧ gX_54 + 140 ≤ 560 ∧ MR gX_54 fm1_50 gv_55 ∧ x3_4 = nI gip_56 ∧ gip_56 < gNp_53) ∧ (∀ (r_57 : Int32), (r_57 = if gv_55 (10 + gip_56) < gT_51 3 gip_56 then 1 else 0) → (∀ (y_59 : Int32), (y_59 = (x2_3 ||| (((if r_57 = 0 then 0 else 1) : Int32) <<< (x3_4 &&& 31)))) → (I18_5 fm1_50 y_59 (x3_4 + 1) ∧ μ18_6 fm1_50 y_59 (x3_4 + 1) < μ18_6 fm1_2 x2_3 x3_4))))))))))))))))))) ∧ ((ks x3_4.toNatClampNeg) = 4 → (vp_in ((x + 10) + x3_4) 560) ∧ (∀ (y_61 : Int64), (y_61 = (if ((fu / 2).toInt64) < (fm1_35 ((x + 10) + x3_4).toNatClampNeg) then ((fu / 2).toInt64) else (fm1_35 ((x + 10) + x3_4).toNatClampNeg))) → ((vp_in ((x + 10) + x3_4) 560) ∧ ((vp_in ((x + 10) + x3_4) 560) ∧ (∀ (fm1_62 : (Nat → Int64)), (fm1_62 = (vp_updL fm1_35 (((x + 10) + x3_4).toNatClampNeg) ((fm1_35 ((x + 10) + x3_4).toNatClampNeg) - y_61))) → ((vp_in (x + 134) 560) ∧ ((vp_in (x + 134) 560) ∧ (∀ (fm1_63 : (Nat → Int64)), (fm1_63 = (vp_updL fm1_62 ((x + 134).toNatClampNeg) ((fm1_62 (x + 134).toNatClampNeg) + y_61))) → ((vp_in ((x + 30) + x3_4) 560) ∧ (∃ (gT_64 : Nat → Nat → Int) (gNs_65 : Nat) (gNp_66 : Nat) (gX_67 : Nat) (gv_68 : Nat → Int) (gip_69 : Nat), ((TOK gT_64 gNs_65 gNp_66 ∧ MT gT_64 gNs_65 gNp_66 fu fd fi zs cl ks ne mn ∧ x = nI gX_67 ∧ gX_67 + 140 ≤ 560 ∧ MR gX_67 fm1_63 gv_68 ∧ x3_4 = nI gip_69 ∧ gip_69 < gNp_66) ∧ (∀ (r_70 : Int32), (r_70 = if gv_68 (10 + gip_69) < gT_64 3 gip_69 then 1 else 0) → ((vp_in ((x + 30) + x3_4) 560) ∧ (∀ (fm1_72 : (Nat → Int64)), (fm1_72 = (vp_updL fm1_63 (((x + 30) + x3_4).toNatClampNeg) ((fm1_63 ((x + 30) + x3_4).toNatClampNeg) + ((if r_70 = 0 then 0 else 1) : Int32).toInt64))) → (∃ (gT_73 : Nat → Nat → Int) (gNs_74 : Nat) (gNp_75 : Nat) (gX_76 : Nat) (gv_77 : Nat → Int) (gip_78 : Nat), ((TOK gT_73 gNs_74 gNp_75 ∧ MT gT_73 gNs_74 gNp_75 fu fd fi zs cl ks ne mn ∧ x = nI gX_76 ∧ gX_76 + 140 ≤ 560 ∧ MR gX_76 fm1_72 gv_77 ∧ x3_4 = nI gip_78 ∧ gip_78 < gNp_75) ∧ (∀ (r_79 : Int32), (r_79 = if gv_77 (10 + gip_78) < gT_73 3 gip_78 then 1 else 0) → (∀ (y_81 : Int32), (y_81 = (x2_3 ||| (((if r_79 = 0 then 0 else 1) : Int32) <<< (x3_4 &&& 31)))) → (I18_5 fm1_72 y_81 (x3_4 + 1) ∧ μ18_6 fm1_72 y_81 (x3_4 + 1) < μ18_6 fm1_2 x2_3 x3_4)))))))))))))))))))))))) ∧ (¬ ((fm1_2 ((x + 20) + x3_4).toNatClampNeg) < 0) → (vp_in ((x + 20) + x3_4) 560) ∧ (∃ (gT_83 : Nat → Nat → Int) (gNs_84 : Nat) (gNp_85 : Nat) (gX_86 : Nat) (gv_87 : Nat → Int) (gkk_88 : Nat → Int) (gM_89 : Int) (gip_90 : Nat) (gib_91 : Nat), ((TOK gT_83 gNs_84 gNp_85 ∧ MT gT_83 gNs_84 gNp_85 fu fd fi zs cl ks ne mn ∧ x = nI gX_86 ∧ gX_86 + 140 ≤ 560 ∧ MR gX_86 fm1_2 gv_87 ∧ NOK gT_83 gNs_84 gNp_85 gkk_88 gM_89 gv_87 ∧ NB gkk_88 gM_89 ∧ x3_4 = nI gip_90 ∧ gip_90 < gNp_85 ∧ ((fm1_2 ((x + 20) + x3_4).toNatClampNeg).toInt32) = nI gib_91 ∧ gib_91 < gNs_84) ∧ (∀ (mw2_93 : Nat → Int64), (MR gX_86 mw2_93 (zOwn gip_90 gib_91 (zSit gT_83 gip_90 gib_91 gv_87)) ∧ MF gX_86 fm1_2 mw2_93) → ((vp_in x3_4 20) ∧ ((¬ (ks x3_4.toNatClampNeg) = 4 → (vp_in ((x + 10) + x3_4) 560) ∧ (∀ (y_97 : Int64), (y_97 = (if fd.toInt64 < (mw2_93 ((x + 10) + x3_4).toNatClampNeg) then fd.toInt64 else (mw2_93 ((x + 10) + x3_4).toNatClampNeg))) → ((vp_in ((x + 10) + x3_4) 560) ∧ ((vp_in ((x + 10) + x3_4) 560) ∧ (∀ (fm1_98 : (Nat → Int64)), (fm1_98 = (vp_updL mw2_93 (((x + 10) + x3_4).toNatClampNeg) ((mw2_93 ((x + 10) + x3_4).toNatClampNeg) - y_97))) → ((vp_in (x + 134) 560) ∧ ((vp_in (x + 134) 560) ∧ (∀ (fm1_99 : (Nat → Int64)), (fm1_99 = (vp_updL fm1_98 ((x + 134).toNatClampNeg) ((fm1_98 (x + 134).toNatClampNeg) + y_97))) → ((vp_in ((x + 30) + x3_4) 560) ∧ (∃ (gT_100 : Nat → Nat → Int) (gNs_101 : Nat) (gNp_102 : Nat) (gX_103 : Nat) (gv_104 : Nat → Int) (gip_105 : Nat), ((TOK gT_100 gNs_101 gNp_102 ∧ MT gT_100 gNs_101 gNp_102 fu fd fi zs cl ks ne mn ∧ x = nI gX_103 ∧ gX_103 + 140 ≤ 560 ∧ MR gX_103 fm1_99 gv_104 ∧ x3_4 = nI gip_105 ∧ gip_105 < gNp_102) ∧ (∀ (r_106 : Int32), (r_106 = if gv_104 (10 + gip_105) < gT_100 3 gip_105 then 1 else 0) → ((vp_in ((x + 30) + x3_4) 560) ∧ (∀ (fm1_108 : (Nat → Int64)), (fm1_108 = (vp_updL fm1_99 (((x + 30) + x3_4).toNatClampNeg) ((fm1_99 ((x + 30) + x3_4).toNatClampNeg) + ((if r_106 = 0 then 0 else 1) : Int32).toInt64))) → (∃ (gT_109 : Nat → Nat → Int) (gNs_110 : Nat) (gNp_111 : Nat) (gX_112 : Nat) (gv_113 : Nat → Int) (gip_114 : Nat), ((TOK gT_109 gNs_110 gNp_111 ∧ MT gT_109 gNs_110 gNp_111 fu fd fi zs cl ks ne mn ∧ x = nI gX_112 ∧ gX_112 + 140 ≤ 560 ∧ MR gX_112 fm1_108 gv_113 ∧ x3_4 = nI gip_114 ∧ gip_114 < gNp_111) ∧ (∀ (r_115 : Int32), (r_115 = if gv_113 (10 + gip_114) < gT_109 3 gip_114 then 1 else 0) → (∀ (y_117 : Int32), (y_117 = (x2_3 ||| (((if r_115 = 0 then 0 else 1) : Int32) <<< (x3_4 &&& 31)))) → (I18_5 fm1_108 y_117 (x3_4 + 1) ∧ μ18_6 fm1_108 y_117 (x3_4 + 1) < μ18_6 fm1_2 x2_3 x3_4))))))))))))))))))) ∧ ((ks x3_4.toNatClampNeg) = 4 → (vp_in ((x + 10) + x3_4) 560) ∧ (∀ (y_119 : Int64), (y_119 = (if ((fu / 2).toInt64) < (mw2_93 ((x + 10) + x3_4).toNatClampNeg) then ((fu / 2).toInt64) else (mw2_93 ((x + 10) + x3_4).toNatClampNeg))) → ((vp_in ((x + 10) + x3_4) 560) ∧ ((vp_in ((x + 10) + x3_4) 560) ∧ (∀ (fm1_120 : (Nat → Int64)), (fm1_120 = (vp_updL mw2_93 (((x + 10) + x3_4).toNatClampNeg) ((mw2_93 ((x + 10) + x3_4).toNatClampNeg) - y_119))) → ((vp_in (x + 134) 560) ∧ ((vp_in (x + 134) 560) ∧ (∀ (fm1_121 : (Nat → Int64)), (fm1_121 = (vp_updL fm1_120 ((x + 134).toNatClampNeg) ((fm1_120 (x + 134).toNatClampNeg) + y_119))) → ((vp_in ((x + 30) + x3_4) 560) ∧ (∃ (gT_122 : Nat → Nat → Int) (gNs_123 : Nat) (gNp_124 : Nat) (gX_125 : Nat) (gv_126 : Nat → Int) (gip_127 : Nat), ((TOK gT_122 gNs_123 gNp_124 ∧ MT gT_122 gNs_123 gNp_124 fu fd fi zs cl ks ne mn ∧ x = nI gX_125 ∧ gX_125 + 140 ≤ 560 ∧ MR gX_125 fm1_121 gv_126 ∧ x3_4 = nI gip_127 ∧ gip_127 < gNp_124) ∧ (∀ (r_128 : Int32), (r_128 = if gv_126 (10 + gip_127) < gT_122 3 gip_127 then 1 else 0) → ((vp_in ((x + 30) + x3_4) 560) ∧ (∀ (fm1_130 : (Nat → Int64)), (fm1_130 = (vp_updL fm1_121 (((x + 30) + x3_4).toNatClampNeg) ((fm1_121 ((x + 30) + x3_4).toNatClampNeg) + ((if r_128 = 0 then 0 else 1) : Int32).toInt64))) → (∃ (gT_131 : Nat → Nat → Int) (gNs_132 : Nat) (gNp_133 : Nat) (gX_134 : Nat) (gv_135 : Nat → Int) (gip_136 : Nat), ((TOK gT_131 gNs_132 gNp_133 ∧ MT gT_131 gNs_132 gNp_133 fu fd fi zs cl ks ne mn ∧ x = nI gX_134 ∧ gX_134 + 140 ≤ 560 ∧ MR gX_134 fm1_130 gv_135 ∧ x3_4 = nI gip_136 ∧ gip_136 < gNp_133) ∧ (∀ (r_137 : Int32), (r_137 = if gv_135 (10 + gip_136) < gT_131 3 gip_136 then 1 else 0) → (∀ (y_139 : Int32), (y_139 = (x2_3 ||| (((if r_137 = 0 then 0 else 1) : Int32) <<< (x3_4 &&& 31)))) → (I18_5 fm1_130 y_139 (x3_4 + 1) ∧ μ18_6 fm1_130 y_139 (x3_4 + 1) < μ18_6 fm1_2 x2_3 x3_4)))))))))))))))))))))))))))))))) : MetI l yX8_pass wsX8_pass 3 75 G [.ref m0, .int x] [(m0, .inr (8, [.ref m1, .ref m2, .ref m3, .ref m4, .ref m5, .ref m6, .ref m7, .ref m8, .ref m9, .int fu, .int fd, .int fi, .int nu, .int nw, .int nf, .int bf, .int bn, .ref m10, .int ts, .int ap, .int fs, .int ln, .int fo, .int fa, .ref m11, .ref m12, .ref m13, .ref m14, .int wr])), aJ G m1 560 mw, aZ G m2 2 ik, aI G m3 20 zs, aI G m4 20 cl, aI G m5 20 hs, aI G m6 20 ks, aI G m7 20 wa, aI G m8 20 ne, aI G m9 4 mn, aI G m10 400 tx, aI G m11 6 th, aI G m12 6 od, aI G m13 30 bk, aI G m14 30 bh] sz (fun (r : Int32) (u : (Nat → Int64)) => r = nI (zCs T (zPass T Ns Np v) Np) ∧ MR X u (zPass T Ns Np v) ∧ MF X mw u) (fun (u : (Nat → Int64)) => [(m0, .inr (8, [.ref m1, .ref m2, .ref m3, .ref m4, .ref m5, .ref m6, .ref m7, .ref m8, .ref m9, .int fu, .int fd, .int fi, .int nu, .int nw, .int nf, .int bf, .int bn, .ref m10, .int ts, .int ap, .int fs, .int ln, .int fo, .int fa, .ref m11, .ref m12, .ref m13, .ref m14, .int wr])), aJ G m1 560 u, aZ G m2 2 ik, aI G m3 20 zs, aI G m4 20 cl, aI G m5 20 hs, aI G m6 20 ks, aI G m7 20 wa, aI G m8 20 ne, aI G m9 4 mn, aI G m10 400 tx, aI G m11 6 th, aI G m12 6 od, aI G m13 30 bk, aI G m14 30 bh]) := by
  refine x_startI (cc := cX8_pass) (maxL := 7) (ret := (some .int)) (by decide) rfl (Nat.le_of_ble_eq_true rfl) ?_
  intro p e s m args below meth c A R Q ls hRf hRl hQ C hP hD hS hA hSS hl
  obtain ⟨hx, hb, hr, hml, hown, hts, hlocks, hKK⟩ := C
  have hown : s.vm.findClass RX8 = some m.cls := hown
  have hl : lv_has ls 7 [(0, .ref m0), (1, .int x)] := hl
  have hinX8 : ∀ w ∈ u_ws RX8 TX8 29, w ∈ wsX8_pass := by decide +kernel
  have kl146 := hts (.fieldLink RX8 146 "WarmStonesModel" "fine" "I") (by decide +kernel)
  have kl21 := hts (.fieldLink RX8 21 "WarmStonesModel" "coolings" "[I") (by decide +kernel)
  have kl27 := hts (.fieldLink RX8 27 "WarmStonesModel" "kinds" "[I") (by decide +kernel)
  have kl36 := hts (.fieldLink RX8 36 "WarmStonesModel" "many" "[I") (by decide +kernel)
  have kl39 := hts (.fieldLink RX8 39 "WarmStonesModel" "frostUp" "I") (by decide +kernel)
  have kl43 := hts (.fieldLink RX8 43 "WarmStonesModel" "frostDown" "I") (by decide +kernel)
  have kl7 := hts (.fieldLink RX8 7 "WarmStonesModel" "w" "[J") (by decide +kernel)
  refine lv_iconst (v := 0) hx hb dX8_pass_0 (by decide) ?_
  refine lv_istore_n (lv' := [(2, .int 0), (0, .ref m0), (1, .int x)]) hx hb dX8_pass_1 rfl hl (by decide) rfl (fun ls hl => ?_)
  refine lv_aload_n hx hb dX8_pass_2 rfl (lv_at hl 1 rfl) ?_
  refine va_get (D := G.1) (ci := 8) (v := .ref m1) (C := RX8) (T := TX8) (N := 29) hx hb hts hinX8 hown hKK.1 hP 0 rfl rfl 0 (by decide) kl7 (fun _ h9 => h9) rfl dX8_pass_3 ?_
  refine lv_iload_n hx hb dX8_pass_6 rfl (lv_at hl 2 rfl) ?_
  refine lv_sipush (v := 132) hx hb dX8_pass_7 (by decide) ?_
  refine lv_iadd hx hb dX8_pass_10 ?_
  refine lv_dup2_11 hx hb dX8_pass_11 rfl rfl ?_
  obtain ⟨hin, hv⟩ := hv
  refine va_lald hx hb hKK.1 hP 1 2 rfl rfl hin dX8_pass_12 ?_
  refine lv_lconst (v := 1) hx hb dX8_pass_13 (by decide) ?_
  refine lv_ladd hx hb dX8_pass_14 ?_
  obtain ⟨hin, hv⟩ := hv
  refine va_last hx hb hKK.1 hP hD hS 1 2 rfl rfl hin dX8_pass_15 (fun H locs hP hD hS => ?_)
  obtain ⟨fm1_1, ef⟩ : ∃ z9_, z9_ = (vp_updL mw ((x + 132).toNatClampNeg) ((mw (x + 132).toNatClampNeg) + 1)) := ⟨_, rfl⟩
  have hP : va_P G.1 vwCl [(m0, .inr (8, [.ref m1, .ref m2, .ref m3, .ref m4, .ref m5, .ref m6, .ref m7, .ref m8, .ref m9, .int fu, .int fd, .int fi, .int nu, .int nw, .int nf, .int bf, .int bn, .ref m10, .int ts, .int ap, .int fs, .int ln, .int fo, .int fa, .ref m11, .ref m12, .ref m13, .ref m14, .int wr])), aJ G m1 560 fm1_1, aZ G m2 2 ik, aI G m3 20 zs, aI G m4 20 cl, aI G m5 20 hs, aI G m6 20 ks, aI G m7 20 wa, aI G m8 20 ne, aI G m9 4 mn, aI G m10 400 tx, aI G m11 6 th, aI G m12 6 od, aI G m13 30 bk, aI G m14 30 bh] H := by rw [ef]; exact hP
  have hD : va_D A [(m0, .inr (8, [.ref m1, .ref m2, .ref m3, .ref m4, .ref m5, .ref m6, .ref m7, .ref m8, .ref m9, .int fu, .int fd, .int fi, .int nu, .int nw, .int nf, .int bf, .int bn, .ref m10, .int ts, .int ap, .int fs, .int ln, .int fo, .int fa, .ref m11, .ref m12, .ref m13, .ref m14, .int wr])), aJ G m1 560 fm1_1, aZ G m2 2 ik, aI G m3 20 zs, aI G m4 20 cl, aI G m5 20 hs, aI G m6 20 ks, aI G m7 20 wa, aI G m8 20 ne, aI G m9 4 mn, aI G m10 400 tx, aI G m11 6 th, aI G m12 6 od, aI G m13 30 bk, aI G m14 30 bh] := by rw [ef]; exact hD
  have hv := hv fm1_1 ef
  refine lv_iconst (v := 0) hx hb dX8_pass_16 (by decide) ?_
  refine lv_istore_n (lv' := [(3, .int 0), (2, .int 0), (0, .ref m0), (1, .int x)]) hx hb dX8_pass_17 rfl hl (by decide) rfl (fun ls hl => ?_)
  obtain ⟨I18_5, μ18_6, hi0, hs_140⟩ := hv
  have Lm_142 : ∀ (n_141 : Nat) (fm1_2 : (Nat → Int64)) (x2_3 : Int32) (x3_4 : Int32) (H : Heap) (locs : List Loc) (ls : Array Slot), μ18_6 fm1_2 x2_3 x3_4 < n_141 → I18_5 fm1_2 x2_3 x3_4 → va_P G.1 vwCl [(m0, .inr (8, [.ref m1, .ref m2, .ref m3, .ref m4, .ref m5, .ref m6, .ref m7, .ref m8, .ref m9, .int fu, .int fd, .int fi, .int nu, .int nw, .int nf, .int bf, .int bn, .ref m10, .int ts, .int ap, .int fs, .int ln, .int fo, .int fa, .ref m11, .ref m12, .ref m13, .ref m14, .int wr])), aJ G m1 560 fm1_2, aZ G m2 2 ik, aI G m3 20 zs, aI G m4 20 cl, aI G m5 20 hs, aI G m6 20 ks, aI G m7 20 wa, aI G m8 20 ne, aI G m9 4 mn, aI G m10 400 tx, aI G m11 6 th, aI G m12 6 od, aI G m13 30 bk, aI G m14 30 bh] H → va_D A [(m0, .inr (8, [.ref m1, .ref m2, .ref m3, .ref m4, .ref m5, .ref m6, .ref m7, .ref m8, .ref m9, .int fu, .int fd, .int fi, .int nu, .int nw, .int nf, .int bf, .int bn, .ref m10, .int ts, .int ap, .int fs, .int ln, .int fo, .int fa, .ref m11, .ref m12, .ref m13, .ref m14, .int wr])), aJ G m1 560 fm1_2, aZ G m2 2 ik, aI G m3 20 zs, aI G m4 20 cl, aI G m5 20 hs, aI G m6 20 ks, aI G m7 20 wa, aI G m8 20 ne, aI G m9 4 mn, aI G m10 400 tx, aI G m11 6 th, aI G m12 6 od, aI G m13 30 bk, aI G m14 30 bh] → va_S A s.heap H locs → lv_has ls 7 [(3, .int x3_4), (2, .int x2_3), (0, .ref m0), (1, .int x)] → W p l e R s m args below meth c H locs 0 0 Q (F0 m 18 ls []) := by
    intro n_141
    induction n_141 with
    | zero => intro fm1_2 x2_3 x3_4 H locs ls hm; exact absurd hm (Nat.not_lt_zero _)
    | succ n_141 ih_7 =>
      intro fm1_2 x2_3 x3_4 H locs ls hI_8 hi hP hD hS hl
      have hv := hs_140 fm1_2 x2_3 x3_4 hi
      refine lv_iload_n hx hb dX8_pass_18 rfl (lv_at hl 0 rfl) ?_
      refine lv_aload_n hx hb dX8_pass_19 rfl (lv_at hl 2 rfl) ?_
      refine va_get (D := G.1) (ci := 8) (v := .ref m9) (C := RX8) (T := TX8) (N := 29) hx hb hts hinX8 hown hKK.1 hP 0 rfl rfl 8 (by decide) kl36 (fun _ h9 => h9) rfl dX8_pass_20 ?_
      refine lv_iconst (v := 1) hx hb dX8_pass_23 (by decide) ?_
      refine va_iald hx hb hKK.1 hP 9 0 rfl rfl (by unfold vp_in; decide) dX8_pass_24 ?_
      refine lv_icmp_ge (tgt := 225) hx hb dX8_pass_25 (by decide) (fun hc_9 => ?_) (fun hc_9 => ?_)
      · have hv := hv.1 hc_9
        refine lv_iconst (v := 0) hx hb dX8_pass_225 (by decide) ?_
        refine lv_istore_n (lv' := [(3, .int 0), (2, .int x2_3), (0, .ref m0), (1, .int x)]) hx hb dX8_pass_226 rfl hl (by decide) rfl (fun ls hl => ?_)
        obtain ⟨I227_12, μ227_13, hi0, hs_30⟩ := hv
        have Lm_32 : ∀ (n_31 : Nat) (fm1_10 : (Nat → Int64)) (x3_11 : Int32) (H : Heap) (locs : List Loc) (ls : Array Slot), μ227_13 fm1_10 x3_11 < n_31 → I227_12 fm1_10 x3_11 → va_P G.1 vwCl [(m0, .inr (8, [.ref m1, .ref m2, .ref m3, .ref m4, .ref m5, .ref m6, .ref m7, .ref m8, .ref m9, .int fu, .int fd, .int fi, .int nu, .int nw, .int nf, .int bf, .int bn, .ref m10, .int ts, .int ap, .int fs, .int ln, .int fo, .int fa, .ref m11, .ref m12, .ref m13, .ref m14, .int wr])), aJ G m1 560 fm1_10, aZ G m2 2 ik, aI G m3 20 zs, aI G m4 20 cl, aI G m5 20 hs, aI G m6 20 ks, aI G m7 20 wa, aI G m8 20 ne, aI G m9 4 mn, aI G m10 400 tx, aI G m11 6 th, aI G m12 6 od, aI G m13 30 bk, aI G m14 30 bh] H → va_D A [(m0, .inr (8, [.ref m1, .ref m2, .ref m3, .ref m4, .ref m5, .ref m6, .ref m7, .ref m8, .ref m9, .int fu, .int fd, .int fi, .int nu, .int nw, .int nf, .int bf, .int bn, .ref m10, .int ts, .int ap, .int fs, .int ln, .int fo, .int fa, .ref m11, .ref m12, .ref m13, .ref m14, .int wr])), aJ G m1 560 fm1_10, aZ G m2 2 ik, aI G m3 20 zs, aI G m4 20 cl, aI G m5 20 hs, aI G m6 20 ks, aI G m7 20 wa, aI G m8 20 ne, aI G m9 4 mn, aI G m10 400 tx, aI G m11 6 th, aI G m12 6 od, aI G m13 30 bk, aI G m14 30 bh] → va_S A s.heap H locs → lv_has ls 7 [(3, .int x3_11), (2, .int x2_3), (0, .ref m0), (1, .int x)] → W p l e R s m args below meth c H locs 0 0 Q (F0 m 227 ls []) := by
          intro n_31
          induction n_31 with
          | zero => intro fm1_10 x3_11 H locs ls hm; exact absurd hm (Nat.not_lt_zero _)
          | succ n_31 ih_14 =>
            intro fm1_10 x3_11 H locs ls hI_15 hi hP hD hS hl
            have hv := hs_30 fm1_10 x3_11 hi
            refine lv_iload_n hx hb dX8_pass_227 rfl (lv_at hl 0 rfl) ?_
            refine lv_aload_n hx hb dX8_pass_228 rfl (lv_at hl 2 rfl) ?_
            refine va_get (D := G.1) (ci := 8) (v := .ref m9) (C := RX8) (T := TX8) (N := 29) hx hb hts hinX8 hown hKK.1 hP 0 rfl rfl 8 (by decide) kl36 (fun _ h9 => h9) rfl dX8_pass_229 ?_
            refine lv_iconst (v := 0) hx hb dX8_pass_232 (by decide) ?_
            refine va_iald hx hb hKK.1 hP 9 0 rfl rfl (by unfold vp_in; decide) dX8_pass_233 ?_
            refine lv_icmp_ge (tgt := 315) hx hb dX8_pass_234 (by decide) (fun hc_16 => ?_) (fun hc_16 => ?_)
            · have hv := hv.1 hc_16
              refine lv_iload_n hx hb dX8_pass_315 rfl (lv_at hl 1 rfl) ?_
              exact x_iret (v := x2_3) fm1_10 hQ hx hb hr hlocks hS dX8_pass_316 hv hP hD
            · have hv := hv.2 hc_16
              refine lv_aload_n hx hb dX8_pass_237 rfl (lv_at hl 2 rfl) ?_
              refine lv_iload_n hx hb dX8_pass_238 rfl (lv_at hl 3 rfl) ?_
              refine lv_iload_n hx hb dX8_pass_239 rfl (lv_at hl 0 rfl) ?_
              obtain ⟨gT_17, gNs_18, gNp_19, gX_20, gv_21, gib_22, hv⟩ := hv
              obtain ⟨hp, hv⟩ := hv
              refine x_calliR (x_runV (As := [.int x, .int x3_11]) (rest := []) (n := 2) (C := RX8) (ci := 8) ⟨hx, hb, hml, hown, hts⟩ (k_X8_sitter l G m0 m1 m2 m3 m4 m5 m6 m7 m8 m9 m10 m11 m12 m13 m14 _ fm1_10 ik zs cl hs ks wa ne mn tx th od bk bh fu fd fi nu nw nf bf bn ts ap fs ln fo fa wr x x3_11 gT_17 gNs_18 gNp_19 gX_20 gv_21 gib_22 hp) gX8_pass_X8_sitter rfl (by decide +kernel) ⟨Nat.le_trans (Nat.le_of_ble_eq_true rfl) hRf, Nat.le_trans (Nat.le_of_ble_eq_true rfl) hRl⟩ hKK hSS hS hA hP hD [0, 1, 2, 3, 4, 5, 6, 7, 8, 9, 10, 11, 12, 13, 14] (by decide) rfl rfl rfl 0 rfl rfl hl.1 rfl (Nat.le_of_ble_eq_true rfl) dX8_pass_240) hP hD hS hA [0, 1, 2, 3, 4, 5, 6, 7, 8, 9, 10, 11, 12, 13, 14] rfl (fun r_23 _ H locs hw hP hS => ?_)
              have hv := hv r_23 hw
              refine lv_if_ge (tgt := 309) hx hb dX8_pass_243 (by decide) (fun hc_24 => ?_) (fun hc_24 => ?_)
              · have hv := hv.1 hc_24
                refine lv_iinc (v := (x3_11 + 1)) (lv' := [(3, .int (x3_11 + 1)), (2, .int x2_3), (0, .ref m0), (1, .int x)]) hx hb dX8_pass_309 hl (k := 0) rfl rfl (by decide) rfl (fun ls hl => ?_)
                refine lv_goto (tgt := 227) hx hb dX8_pass_312 (by decide) ?_
                exact ih_14 _ _ _ _ _ (Nat.lt_of_lt_of_le hv.2 (Nat.le_of_lt_succ hI_15)) hv.1 hP hD hS hl
              · have hv := hv.2 hc_24
                refine lv_aload_n hx hb dX8_pass_246 rfl (lv_at hl 2 rfl) ?_
                refine va_get (D := G.1) (ci := 8) (v := .ref m1) (C := RX8) (T := TX8) (N := 29) hx hb hts hinX8 hown hKK.1 hP 0 rfl rfl 0 (by decide) kl7 (fun _ h9 => h9) rfl dX8_pass_247 ?_
                refine lv_iload_n hx hb dX8_pass_250 rfl (lv_at hl 3 rfl) ?_
                refine lv_iload_n hx hb dX8_pass_251 rfl (lv_at hl 0 rfl) ?_
                refine lv_iadd hx hb dX8_pass_252 ?_
                obtain ⟨hin, hv⟩ := hv
                refine va_lald hx hb hKK.1 hP 1 2 rfl rfl hin dX8_pass_253 ?_
                refine lv_lconst (v := 0) hx hb dX8_pass_254 (by decide) ?_
                refine W.lcmp hx hb dX8_pass_255 ?_
                refine lv_if_le (tgt := 309) hx hb dX8_pass_256 (by decide) (fun hc_25 => ?_) (fun hc_25 => ?_)
                · have hv := hv.1 ((lg_cmp_le _ _).mp hc_25)
                  refine lv_iinc (v := (x3_11 + 1)) (lv' := [(3, .int (x3_11 + 1)), (2, .int x2_3), (0, .ref m0), (1, .int x)]) hx hb dX8_pass_309 hl (k := 0) rfl rfl (by decide) rfl (fun ls hl => ?_)
                  refine lv_goto (tgt := 227) hx hb dX8_pass_312 (by decide) ?_
                  exact ih_14 _ _ _ _ _ (Nat.lt_of_lt_of_le hv.2 (Nat.le_of_lt_succ hI_15)) hv.1 hP hD hS hl
                · have hv := hv.2 (fun h => hc_25 ((lg_cmp_le _ _).mpr h))
                  refine lv_lconst (v := 1) hx hb dX8_pass_259 (by decide) ?_
                  refine lv_aload_n hx hb dX8_pass_260 rfl (lv_at hl 2 rfl) ?_
                  refine va_get (D := G.1) (ci := 8) (v := .ref m1) (C := RX8) (T := TX8) (N := 29) hx hb hts hinX8 hown hKK.1 hP 0 rfl rfl 0 (by decide) kl7 (fun _ h9 => h9) rfl dX8_pass_261 ?_
                  refine lv_iload_n hx hb dX8_pass_264 rfl (lv_at hl 3 rfl) ?_
                  refine lv_iload_n hx hb dX8_pass_265 rfl (lv_at hl 0 rfl) ?_
                  refine lv_iadd hx hb dX8_pass_266 ?_
                  obtain ⟨hin, hv⟩ := hv
                  refine va_lald hx hb hKK.1 hP 1 2 rfl rfl hin dX8_pass_267 ?_
                  refine lv_aload_n hx hb dX8_pass_268 rfl (lv_at hl 2 rfl) ?_
                  refine va_get (D := G.1) (ci := 8) (v := .ref m4) (C := RX8) (T := TX8) (N := 29) hx hb hts hinX8 hown hKK.1 hP 0 rfl rfl 3 (by decide) kl21 (fun _ h9 => h9) rfl dX8_pass_269 ?_
                  refine lv_iload_n hx hb dX8_pass_272 rfl (lv_at hl 0 rfl) ?_
                  obtain ⟨hin, hv⟩ := hv
                  refine va_iald hx hb hKK.1 hP 4 0 rfl rfl hin dX8_pass_273 ?_
                  refine lv_i2l hx hb dX8_pass_274 rfl ?_
                  obtain ⟨hne, hv⟩ := hv
                  refine lv_ldiv hx hb dX8_pass_275 hne ?_
                  refine x_calllR (x_runS (As := [.long 1, .long ((fm1_10 (x + x3_11).toNatClampNeg) / (cl x3_11.toNatClampNeg).toInt64)]) (rest := []) (n := 2) ⟨hx, hb, hml, hown, hts⟩ (k_X8_greater l G  _ 1 ((fm1_10 (x + x3_11).toNatClampNeg) / (cl x3_11.toNatClampNeg).toInt64)) gX8_pass_X8_greater rfl (by decide +kernel) ⟨Nat.le_trans (Nat.le_of_ble_eq_true rfl) hRf, Nat.le_trans (Nat.le_of_ble_eq_true rfl) hRl⟩ hKK hSS hS hA hP hD [] (by decide) rfl rfl hl.1 rfl (Nat.le_of_ble_eq_true rfl) dX8_pass_276) hP hD hS hA [] rfl (fun r_26 _ H locs hw hP hS => ?_)
                  replace hw := hw.symm; subst hw
                  refine lv_topl (fun y_27 ey => ?_)
                  have hv := hv y_27 ey
                  refine lv_lstore (lv' := [(4, .long y_27), (3, .int x3_11), (2, .int x2_3), (0, .ref m0), (1, .int x)]) hx hb dX8_pass_279 hl (by decide) rfl (fun ls hl => ?_)
                  refine lv_aload_n hx hb dX8_pass_281 rfl (lv_at hl 3 rfl) ?_
                  refine va_get (D := G.1) (ci := 8) (v := .ref m1) (C := RX8) (T := TX8) (N := 29) hx hb hts hinX8 hown hKK.1 hP 0 rfl rfl 0 (by decide) kl7 (fun _ h9 => h9) rfl dX8_pass_282 ?_
                  refine lv_iload_n hx hb dX8_pass_285 rfl (lv_at hl 4 rfl) ?_
                  refine lv_iload_n hx hb dX8_pass_286 rfl (lv_at hl 1 rfl) ?_
                  refine lv_iadd hx hb dX8_pass_287 ?_
                  refine lv_dup2_11 hx hb dX8_pass_288 rfl rfl ?_
                  obtain ⟨hin, hv⟩ := hv
                  refine va_lald hx hb hKK.1 hP 1 2 rfl rfl hin dX8_pass_289 ?_
                  refine lv_lload hx hb dX8_pass_290 (lv_at hl 0 rfl) ?_
                  refine lv_lsub hx hb dX8_pass_292 ?_
                  obtain ⟨hin, hv⟩ := hv
                  refine va_last hx hb hKK.1 hP hD hS 1 2 rfl rfl hin dX8_pass_293 (fun H locs hP hD hS => ?_)
                  obtain ⟨fm1_28, ef⟩ : ∃ z9_, z9_ = (vp_updL fm1_10 ((x + x3_11).toNatClampNeg) ((fm1_10 (x + x3_11).toNatClampNeg) - y_27)) := ⟨_, rfl⟩
                  have hP : va_P G.1 vwCl [(m0, .inr (8, [.ref m1, .ref m2, .ref m3, .ref m4, .ref m5, .ref m6, .ref m7, .ref m8, .ref m9, .int fu, .int fd, .int fi, .int nu, .int nw, .int nf, .int bf, .int bn, .ref m10, .int ts, .int ap, .int fs, .int ln, .int fo, .int fa, .ref m11, .ref m12, .ref m13, .ref m14, .int wr])), aJ G m1 560 fm1_28, aZ G m2 2 ik, aI G m3 20 zs, aI G m4 20 cl, aI G m5 20 hs, aI G m6 20 ks, aI G m7 20 wa, aI G m8 20 ne, aI G m9 4 mn, aI G m10 400 tx, aI G m11 6 th, aI G m12 6 od, aI G m13 30 bk, aI G m14 30 bh] H := by rw [ef]; exact hP
                  have hD : va_D A [(m0, .inr (8, [.ref m1, .ref m2, .ref m3, .ref m4, .ref m5, .ref m6, .ref m7, .ref m8, .ref m9, .int fu, .int fd, .int fi, .int nu, .int nw, .int nf, .int bf, .int bn, .ref m10, .int ts, .int ap, .int fs, .int ln, .int fo, .int fa, .ref m11, .ref m12, .ref m13, .ref m14, .int wr])), aJ G m1 560 fm1_28, aZ G m2 2 ik, aI G m3 20 zs, aI G m4 20 cl, aI G m5 20 hs, aI G m6 20 ks, aI G m7 20 wa, aI G m8 20 ne, aI G m9 4 mn, aI G m10 400 tx, aI G m11 6 th, aI G m12 6 od, aI G m13 30 bk, aI G m14 30 bh] := by rw [ef]; exact hD
                  have hv := hv fm1_28 ef
                  refine lv_aload_n hx hb dX8_pass_294 rfl (lv_at hl 3 rfl) ?_
                  refine va_get (D := G.1) (ci := 8) (v := .ref m1) (C := RX8) (T := TX8) (N := 29) hx hb hts hinX8 hown hKK.1 hP 0 rfl rfl 0 (by decide) kl7 (fun _ h9 => h9) rfl dX8_pass_295 ?_
                  refine lv_iload_n hx hb dX8_pass_298 rfl (lv_at hl 4 rfl) ?_
                  refine lv_sipush (v := 134) hx hb dX8_pass_299 (by decide) ?_
                  refine lv_iadd hx hb dX8_pass_302 ?_
                  refine lv_dup2_11 hx hb dX8_pass_303 rfl rfl ?_
                  obtain ⟨hin, hv⟩ := hv
                  refine va_lald hx hb hKK.1 hP 1 2 rfl rfl hin dX8_pass_304 ?_
                  refine lv_lload hx hb dX8_pass_305 (lv_at hl 0 rfl) ?_
                  refine lv_ladd hx hb dX8_pass_307 ?_
                  obtain ⟨hin, hv⟩ := hv
                  refine va_last hx hb hKK.1 hP hD hS 1 2 rfl rfl hin dX8_pass_308 (fun H locs hP hD hS => ?_)
                  obtain ⟨fm1_29, ef⟩ : ∃ z9_, z9_ = (vp_updL fm1_28 ((x + 134).toNatClampNeg) ((fm1_28 (x + 134).toNatClampNeg) + y_27)) := ⟨_, rfl⟩
                  have hP : va_P G.1 vwCl [(m0, .inr (8, [.ref m1, .ref m2, .ref m3, .ref m4, .ref m5, .ref m6, .ref m7, .ref m8, .ref m9, .int fu, .int fd, .int fi, .int nu, .int nw, .int nf, .int bf, .int bn, .ref m10, .int ts, .int ap, .int fs, .int ln, .int fo, .int fa, .ref m11, .ref m12, .ref m13, .ref m14, .int wr])), aJ G m1 560 fm1_29, aZ G m2 2 ik, aI G m3 20 zs, aI G m4 20 cl, aI G m5 20 hs, aI G m6 20 ks, aI G m7 20 wa, aI G m8 20 ne, aI G m9 4 mn, aI G m10 400 tx, aI G m11 6 th, aI G m12 6 od, aI G m13 30 bk, aI G m14 30 bh] H := by rw [ef]; exact hP
                  have hD : va_D A [(m0, .inr (8, [.ref m1, .ref m2, .ref m3, .ref m4, .ref m5, .ref m6, .ref m7, .ref m8, .ref m9, .int fu, .int fd, .int fi, .int nu, .int nw, .int nf, .int bf, .int bn, .ref m10, .int ts, .int ap, .int fs, .int ln, .int fo, .int fa, .ref m11, .ref m12, .ref m13, .ref m14, .int wr])), aJ G m1 560 fm1_29, aZ G m2 2 ik, aI G m3 20 zs, aI G m4 20 cl, aI G m5 20 hs, aI G m6 20 ks, aI G m7 20 wa, aI G m8 20 ne, aI G m9 4 mn, aI G m10 400 tx, aI G m11 6 th, aI G m12 6 od, aI G m13 30 bk, aI G m14 30 bh] := by rw [ef]; exact hD
                  have hv := hv fm1_29 ef
                  refine lv_iinc (v := (x3_11 + 1)) (lv' := [(3, .int (x3_11 + 1)), (4, .long y_27), (2, .int x2_3), (0, .ref m0), (1, .int x)]) hx hb dX8_pass_309 hl (k := 1) rfl rfl (by decide) rfl (fun ls hl => ?_)
                  refine lv_goto (tgt := 227) hx hb dX8_pass_312 (by decide) ?_
                  exact ih_14 _ _ _ _ _ (Nat.lt_of_lt_of_le hv.2 (Nat.le_of_lt_succ hI_15)) hv.1 hP hD hS (lv_sub hl [0, 2, 3, 4] rfl)
        exact Lm_32 _ _ _ _ _ _ (Nat.lt_succ_self _) hi0 hP hD hS hl
      · have hv := hv.2 hc_9
        refine lv_aload_n hx hb dX8_pass_28 rfl (lv_at hl 2 rfl) ?_
        refine va_get (D := G.1) (ci := 8) (v := .ref m1) (C := RX8) (T := TX8) (N := 29) hx hb hts hinX8 hown hKK.1 hP 0 rfl rfl 0 (by decide) kl7 (fun _ h9 => h9) rfl dX8_pass_29 ?_
        refine lv_iload_n hx hb dX8_pass_32 rfl (lv_at hl 3 rfl) ?_
        refine lv_bipush (v := 20) hx hb dX8_pass_33 (by decide) ?_
        refine lv_iadd hx hb dX8_pass_35 ?_
        refine lv_iload_n hx hb dX8_pass_36 rfl (lv_at hl 0 rfl) ?_
        refine lv_iadd hx hb dX8_pass_37 ?_
        obtain ⟨hin, hv⟩ := hv
        refine va_lald hx hb hKK.1 hP 1 2 rfl rfl hin dX8_pass_38 ?_
        refine lv_lconst (v := 0) hx hb dX8_pass_39 (by decide) ?_
        refine W.lcmp hx hb dX8_pass_40 ?_
        refine lv_if_lt (tgt := 48) hx hb dX8_pass_41 (by decide) (fun hc_33 => ?_) (fun hc_33 => ?_)
        · have hv := hv.1 ((lg_cmp_lt _ _).mp hc_33)
          refine lv_iconst (v := 0) hx hb dX8_pass_48 (by decide) ?_
          refine lv_istore (lv' := [(4, .int 0), (3, .int x3_4), (2, .int x2_3), (0, .ref m0), (1, .int x)]) hx hb dX8_pass_49 hl (by decide) rfl (fun ls hl => ?_)
          refine lv_iload hx hb dX8_pass_51 (lv_at hl 0 rfl) ?_
          refine lv_if_eq (tgt := 77) hx hb dX8_pass_53 (by decide) (fun hc_34 => ?_) (fun hc_34 => absurd (by decide) hc_34)
          refine lv_aload_n hx hb dX8_pass_77 rfl (lv_at hl 3 rfl) ?_
          refine va_get (D := G.1) (ci := 8) (v := .ref m1) (C := RX8) (T := TX8) (N := 29) hx hb hts hinX8 hown hKK.1 hP 0 rfl rfl 0 (by decide) kl7 (fun _ h9 => h9) rfl dX8_pass_78 ?_
          refine lv_iload_n hx hb dX8_pass_81 rfl (lv_at hl 4 rfl) ?_
          refine lv_bipush (v := 50) hx hb dX8_pass_82 (by decide) ?_
          refine lv_iadd hx hb dX8_pass_84 ?_
          refine lv_iload_n hx hb dX8_pass_85 rfl (lv_at hl 1 rfl) ?_
          refine lv_iadd hx hb dX8_pass_86 ?_
          refine lv_dup2_11 hx hb dX8_pass_87 rfl rfl ?_
          obtain ⟨hin, hv⟩ := hv
          refine va_lald hx hb hKK.1 hP 1 2 rfl rfl hin dX8_pass_88 ?_
          refine lv_aload_n hx hb dX8_pass_89 rfl (lv_at hl 3 rfl) ?_
          refine va_get (D := G.1) (ci := 8) (v := .int fi) (C := RX8) (T := TX8) (N := 29) hx hb hts hinX8 hown hKK.1 hP 0 rfl rfl 11 (by decide) kl146 (fun _ h9 => h9) rfl dX8_pass_90 ?_
          refine lv_i2l hx hb dX8_pass_93 rfl ?_
          refine lv_ladd hx hb dX8_pass_94 ?_
          obtain ⟨hin, hv⟩ := hv
          refine va_last hx hb hKK.1 hP hD hS 1 2 rfl rfl hin dX8_pass_95 (fun H locs hP hD hS => ?_)
          obtain ⟨fm1_35, ef⟩ : ∃ z9_, z9_ = (vp_updL fm1_2 (((x + 50) + x3_4).toNatClampNeg) ((fm1_2 ((x + 50) + x3_4).toNatClampNeg) + fi.toInt64)) := ⟨_, rfl⟩
          have hP : va_P G.1 vwCl [(m0, .inr (8, [.ref m1, .ref m2, .ref m3, .ref m4, .ref m5, .ref m6, .ref m7, .ref m8, .ref m9, .int fu, .int fd, .int fi, .int nu, .int nw, .int nf, .int bf, .int bn, .ref m10, .int ts, .int ap, .int fs, .int ln, .int fo, .int fa, .ref m11, .ref m12, .ref m13, .ref m14, .int wr])), aJ G m1 560 fm1_35, aZ G m2 2 ik, aI G m3 20 zs, aI G m4 20 cl, aI G m5 20 hs, aI G m6 20 ks, aI G m7 20 wa, aI G m8 20 ne, aI G m9 4 mn, aI G m10 400 tx, aI G m11 6 th, aI G m12 6 od, aI G m13 30 bk, aI G m14 30 bh] H := by rw [ef]; exact hP
          have hD : va_D A [(m0, .inr (8, [.ref m1, .ref m2, .ref m3, .ref m4, .ref m5, .ref m6, .ref m7, .ref m8, .ref m9, .int fu, .int fd, .int fi, .int nu, .int nw, .int nf, .int bf, .int bn, .ref m10, .int ts, .int ap, .int fs, .int ln, .int fo, .int fa, .ref m11, .ref m12, .ref m13, .ref m14, .int wr])), aJ G m1 560 fm1_35, aZ G m2 2 ik, aI G m3 20 zs, aI G m4 20 cl, aI G m5 20 hs, aI G m6 20 ks, aI G m7 20 wa, aI G m8 20 ne, aI G m9 4 mn, aI G m10 400 tx, aI G m11 6 th, aI G m12 6 od, aI G m13 30 bk, aI G m14 30 bh] := by rw [ef]; exact hD
          have hv := hv fm1_35 ef
          refine lv_aload_n hx hb dX8_pass_96 rfl (lv_at hl 3 rfl) ?_
          refine va_get (D := G.1) (ci := 8) (v := .ref m6) (C := RX8) (T := TX8) (N := 29) hx hb hts hinX8 hown hKK.1 hP 0 rfl rfl 5 (by decide) kl27 (fun _ h9 => h9) rfl dX8_pass_97 ?_
          refine lv_iload_n hx hb dX8_pass_100 rfl (lv_at hl 1 rfl) ?_
          obtain ⟨hin, hv⟩ := hv
          refine va_iald hx hb hKK.1 hP 6 0 rfl rfl hin dX8_pass_101 ?_
          refine lv_iconst (v := 4) hx hb dX8_pass_102 (by decide) ?_
          refine lv_icmp_ne (tgt := 116) hx hb dX8_pass_103 (by decide) (fun hc_36 => ?_) (fun hc_36 => ?_)
          · have hv := hv.1 hc_36
            refine lv_iload hx hb dX8_pass_116 (lv_at hl 0 rfl) ?_
            refine lv_if_eq (tgt := 129) hx hb dX8_pass_118 (by decide) (fun hc_37 => ?_) (fun hc_37 => absurd (by decide) hc_37)
            refine lv_aload_n hx hb dX8_pass_129 rfl (lv_at hl 3 rfl) ?_
            refine va_get (D := G.1) (ci := 8) (v := .int fu) (C := RX8) (T := TX8) (N := 29) hx hb hts hinX8 hown hKK.1 hP 0 rfl rfl 9 (by decide) kl39 (fun _ h9 => h9) rfl dX8_pass_130 ?_
            refine lv_i2l hx hb dX8_pass_133 rfl ?_
            refine lv_aload_n hx hb dX8_pass_134 rfl (lv_at hl 3 rfl) ?_
            refine va_get (D := G.1) (ci := 8) (v := .ref m1) (C := RX8) (T := TX8) (N := 29) hx hb hts hinX8 hown hKK.1 hP 0 rfl rfl 0 (by decide) kl7 (fun _ h9 => h9) rfl dX8_pass_135 ?_
            refine lv_iload_n hx hb dX8_pass_138 rfl (lv_at hl 4 rfl) ?_
            refine lv_bipush (v := 10) hx hb dX8_pass_139 (by decide) ?_
            refine lv_iadd hx hb dX8_pass_141 ?_
            refine lv_iload_n hx hb dX8_pass_142 rfl (lv_at hl 1 rfl) ?_
            refine lv_iadd hx hb dX8_pass_143 ?_
            obtain ⟨hin, hv⟩ := hv
            refine va_lald hx hb hKK.1 hP 1 2 rfl rfl hin dX8_pass_144 ?_
            refine x_calllR (x_runS (As := [.long fu.toInt64, .long (fm1_35 ((x + 10) + x3_4).toNatClampNeg)]) (rest := []) (n := 2) ⟨hx, hb, hml, hown, hts⟩ (k_X8_less l G  _ fu.toInt64 (fm1_35 ((x + 10) + x3_4).toNatClampNeg)) gX8_pass_X8_less rfl (by decide +kernel) ⟨Nat.le_trans (Nat.le_of_ble_eq_true rfl) hRf, Nat.le_trans (Nat.le_of_ble_eq_true rfl) hRl⟩ hKK hSS hS hA hP hD [] (by decide) rfl rfl hl.1 rfl (Nat.le_of_ble_eq_true rfl) dX8_pass_145) hP hD hS hA [] rfl (fun r_38 _ H locs hw hP hS => ?_)
            replace hw := hw.symm; subst hw
            refine lv_topl (fun y_39 ey => ?_)
            have hv := hv y_39 ey
            refine lv_lstore (lv' := [(5, .long y_39), (4, .int 0), (3, .int x3_4), (2, .int x2_3), (0, .ref m0), (1, .int x)]) hx hb dX8_pass_148 hl (by decide) rfl (fun ls hl => ?_)
            refine lv_aload_n hx hb dX8_pass_150 rfl (lv_at hl 4 rfl) ?_
            refine va_get (D := G.1) (ci := 8) (v := .ref m1) (C := RX8) (T := TX8) (N := 29) hx hb hts hinX8 hown hKK.1 hP 0 rfl rfl 0 (by decide) kl7 (fun _ h9 => h9) rfl dX8_pass_151 ?_
            refine lv_iload_n hx hb dX8_pass_154 rfl (lv_at hl 5 rfl) ?_
            refine lv_bipush (v := 10) hx hb dX8_pass_155 (by decide) ?_
            refine lv_iadd hx hb dX8_pass_157 ?_
            refine lv_iload_n hx hb dX8_pass_158 rfl (lv_at hl 2 rfl) ?_
            refine lv_iadd hx hb dX8_pass_159 ?_
            refine lv_dup2_11 hx hb dX8_pass_160 rfl rfl ?_
            obtain ⟨hin, hv⟩ := hv
            refine va_lald hx hb hKK.1 hP 1 2 rfl rfl hin dX8_pass_161 ?_
            refine lv_lload hx hb dX8_pass_162 (lv_at hl 0 rfl) ?_
            refine lv_lsub hx hb dX8_pass_164 ?_
            obtain ⟨hin, hv⟩ := hv
            refine va_last hx hb hKK.1 hP hD hS 1 2 rfl rfl hin dX8_pass_165 (fun H locs hP hD hS => ?_)
            obtain ⟨fm1_40, ef⟩ : ∃ z9_, z9_ = (vp_updL fm1_35 (((x + 10) + x3_4).toNatClampNeg) ((fm1_35 ((x + 10) + x3_4).toNatClampNeg) - y_39)) := ⟨_, rfl⟩
            have hP : va_P G.1 vwCl [(m0, .inr (8, [.ref m1, .ref m2, .ref m3, .ref m4, .ref m5, .ref m6, .ref m7, .ref m8, .ref m9, .int fu, .int fd, .int fi, .int nu, .int nw, .int nf, .int bf, .int bn, .ref m10, .int ts, .int ap, .int fs, .int ln, .int fo, .int fa, .ref m11, .ref m12, .ref m13, .ref m14, .int wr])), aJ G m1 560 fm1_40, aZ G m2 2 ik, aI G m3 20 zs, aI G m4 20 cl, aI G m5 20 hs, aI G m6 20 ks, aI G m7 20 wa, aI G m8 20 ne, aI G m9 4 mn, aI G m10 400 tx, aI G m11 6 th, aI G m12 6 od, aI G m13 30 bk, aI G m14 30 bh] H := by rw [ef]; exact hP
            have hD : va_D A [(m0, .inr (8, [.ref m1, .ref m2, .ref m3, .ref m4, .ref m5, .ref m6, .ref m7, .ref m8, .ref m9, .int fu, .int fd, .int fi, .int nu, .int nw, .int nf, .int bf, .int bn, .ref m10, .int ts, .int ap, .int fs, .int ln, .int fo, .int fa, .ref m11, .ref m12, .ref m13, .ref m14, .int wr])), aJ G m1 560 fm1_40, aZ G m2 2 ik, aI G m3 20 zs, aI G m4 20 cl, aI G m5 20 hs, aI G m6 20 ks, aI G m7 20 wa, aI G m8 20 ne, aI G m9 4 mn, aI G m10 400 tx, aI G m11 6 th, aI G m12 6 od, aI G m13 30 bk, aI G m14 30 bh] := by rw [ef]; exact hD
            have hv := hv fm1_40 ef
            refine lv_aload_n hx hb dX8_pass_166 rfl (lv_at hl 4 rfl) ?_
            refine va_get (D := G.1) (ci := 8) (v := .ref m1) (C := RX8) (T := TX8) (N := 29) hx hb hts hinX8 hown hKK.1 hP 0 rfl rfl 0 (by decide) kl7 (fun _ h9 => h9) rfl dX8_pass_167 ?_
            refine lv_iload_n hx hb dX8_pass_170 rfl (lv_at hl 5 rfl) ?_
            refine lv_sipush (v := 134) hx hb dX8_pass_171 (by decide) ?_
            refine lv_iadd hx hb dX8_pass_174 ?_
            refine lv_dup2_11 hx hb dX8_pass_175 rfl rfl ?_
            obtain ⟨hin, hv⟩ := hv
            refine va_lald hx hb hKK.1 hP 1 2 rfl rfl hin dX8_pass_176 ?_
            refine lv_lload hx hb dX8_pass_177 (lv_at hl 0 rfl) ?_
            refine lv_ladd hx hb dX8_pass_179 ?_
            obtain ⟨hin, hv⟩ := hv
            refine va_last hx hb hKK.1 hP hD hS 1 2 rfl rfl hin dX8_pass_180 (fun H locs hP hD hS => ?_)
            obtain ⟨fm1_41, ef⟩ : ∃ z9_, z9_ = (vp_updL fm1_40 ((x + 134).toNatClampNeg) ((fm1_40 (x + 134).toNatClampNeg) + y_39)) := ⟨_, rfl⟩
            have hP : va_P G.1 vwCl [(m0, .inr (8, [.ref m1, .ref m2, .ref m3, .ref m4, .ref m5, .ref m6, .ref m7, .ref m8, .ref m9, .int fu, .int fd, .int fi, .int nu, .int nw, .int nf, .int bf, .int bn, .ref m10, .int ts, .int ap, .int fs, .int ln, .int fo, .int fa, .ref m11, .ref m12, .ref m13, .ref m14, .int wr])), aJ G m1 560 fm1_41, aZ G m2 2 ik, aI G m3 20 zs, aI G m4 20 cl, aI G m5 20 hs, aI G m6 20 ks, aI G m7 20 wa, aI G m8 20 ne, aI G m9 4 mn, aI G m10 400 tx, aI G m11 6 th, aI G m12 6 od, aI G m13 30 bk, aI G m14 30 bh] H := by rw [ef]; exact hP
            have hD : va_D A [(m0, .inr (8, [.ref m1, .ref m2, .ref m3, .ref m4, .ref m5, .ref m6, .ref m7, .ref m8, .ref m9, .int fu, .int fd, .int fi, .int nu, .int nw, .int nf, .int bf, .int bn, .ref m10, .int ts, .int ap, .int fs, .int ln, .int fo, .int fa, .ref m11, .ref m12, .ref m13, .ref m14, .int wr])), aJ G m1 560 fm1_41, aZ G m2 2 ik, aI G m3 20 zs, aI G m4 20 cl, aI G m5 20 hs, aI G m6 20 ks, aI G m7 20 wa, aI G m8 20 ne, aI G m9 4 mn, aI G m10 400 tx, aI G m11 6 th, aI G m12 6 od, aI G m13 30 bk, aI G m14 30 bh] := by rw [ef]; exact hD
            have hv := hv fm1_41 ef
            refine lv_aload_n hx hb dX8_pass_181 rfl (lv_at hl 4 rfl) ?_
            refine va_get (D := G.1) (ci := 8) (v := .ref m1) (C := RX8) (T := TX8) (N := 29) hx hb hts hinX8 hown hKK.1 hP 0 rfl rfl 0 (by decide) kl7 (fun _ h9 => h9) rfl dX8_pass_182 ?_
            refine lv_iload_n hx hb dX8_pass_185 rfl (lv_at hl 5 rfl) ?_
            refine lv_bipush (v := 30) hx hb dX8_pass_186 (by decide) ?_
            refine lv_iadd hx hb dX8_pass_188 ?_
            refine lv_iload_n hx hb dX8_pass_189 rfl (lv_at hl 2 rfl) ?_
            refine lv_iadd hx hb dX8_pass_190 ?_
            refine lv_dup2_11 hx hb dX8_pass_191 rfl rfl ?_
            obtain ⟨hin, hv⟩ := hv
            refine va_lald hx hb hKK.1 hP 1 2 rfl rfl hin dX8_pass_192 ?_
            refine lv_aload_n hx hb dX8_pass_193 rfl (lv_at hl 4 rfl) ?_
            refine lv_iload_n hx hb dX8_pass_194 rfl (lv_at hl 5 rfl) ?_
            refine lv_iload_n hx hb dX8_pass_195 rfl (lv_at hl 2 rfl) ?_
            obtain ⟨gT_42, gNs_43, gNp_44, gX_45, gv_46, gip_47, hv⟩ := hv
            obtain ⟨hp, hv⟩ := hv
            refine x_calliR (x_runV (As := [.int x, .int x3_4]) (rest := [.long (fm1_41 ((x + 30) + x3_4).toNatClampNeg), .int ((x + 30) + x3_4), .ref m1]) (n := 2) (C := RX8) (ci := 8) ⟨hx, hb, hml, hown, hts⟩ (k_X8_isCold l G m0 m1 m2 m3 m4 m5 m6 m7 m8 m9 m10 m11 m12 m13 m14 _ fm1_41 ik zs cl hs ks wa ne mn tx th od bk bh fu fd fi nu nw nf bf bn ts ap fs ln fo fa wr x x3_4 gT_42 gNs_43 gNp_44 gX_45 gv_46 gip_47 hp) gX8_pass_X8_isCold rfl (by decide +kernel) ⟨Nat.le_trans (Nat.le_of_ble_eq_true rfl) hRf, Nat.le_trans (Nat.le_of_ble_eq_true rfl) hRl⟩ hKK hSS hS hA hP hD [0, 1, 2, 3, 4, 5, 6, 7, 8, 9, 10, 11, 12, 13, 14] (by decide) rfl rfl rfl 0 rfl rfl hl.1 rfl (Nat.le_of_ble_eq_true rfl) dX8_pass_196) hP hD hS hA [0, 1, 2, 3, 4, 5, 6, 7, 8, 9, 10, 11, 12, 13, 14] rfl (fun r_48 _ H locs hw hP hS => ?_)
            have hv := hv r_48 hw
            refine x_calliR (x_runS (As := [.int r_48]) (rest := [.long (fm1_41 ((x + 30) + x3_4).toNatClampNeg), .int ((x + 30) + x3_4), .ref m1]) (n := 1) ⟨hx, hb, hml, hown, hts⟩ (k_X8_one l G  _ r_48) gX8_pass_X8_one rfl (by decide +kernel) ⟨Nat.le_trans (Nat.le_of_ble_eq_true rfl) hRf, Nat.le_trans (Nat.le_of_ble_eq_true rfl) hRl⟩ hKK hSS hS hA hP hD [] (by decide) rfl rfl hl.1 rfl (Nat.le_of_ble_eq_true rfl) dX8_pass_199) hP hD hS hA [] rfl (fun r_49 _ H locs hw hP hS => ?_)
            replace hw := hw.symm; subst hw
            refine lv_i2l hx hb dX8_pass_202 rfl ?_
            refine lv_ladd hx hb dX8_pass_203 ?_
            obtain ⟨hin, hv⟩ := hv
            refine va_last hx hb hKK.1 hP hD hS 1 2 rfl rfl hin dX8_pass_204 (fun H locs hP hD hS => ?_)
            obtain ⟨fm1_50, ef⟩ : ∃ z9_, z9_ = (vp_updL fm1_41 (((x + 30) + x3_4).toNatClampNeg) ((fm1_41 ((x + 30) + x3_4).toNatClampNeg) + ((if r_48 = 0 then 0 else 1) : Int32).toInt64)) := ⟨_, rfl⟩
            have hP : va_P G.1 vwCl [(m0, .inr (8, [.ref m1, .ref m2, .ref m3, .ref m4, .ref m5, .ref m6, .ref m7, .ref m8, .ref m9, .int fu, .int fd, .int fi, .int nu, .int nw, .int nf, .int bf, .int bn, .ref m10, .int ts, .int ap, .int fs, .int ln, .int fo, .int fa, .ref m11, .ref m12, .ref m13, .ref m14, .int wr])), aJ G m1 560 fm1_50, aZ G m2 2 ik, aI G m3 20 zs, aI G m4 20 cl, aI G m5 20 hs, aI G m6 20 ks, aI G m7 20 wa, aI G m8 20 ne, aI G m9 4 mn, aI G m10 400 tx, aI G m11 6 th, aI G m12 6 od, aI G m13 30 bk, aI G m14 30 bh] H := by rw [ef]; exact hP
            have hD : va_D A [(m0, .inr (8, [.ref m1, .ref m2, .ref m3, .ref m4, .ref m5, .ref m6, .ref m7, .ref m8, .ref m9, .int fu, .int fd, .int fi, .int nu, .int nw, .int nf, .int bf, .int bn, .ref m10, .int ts, .int ap, .int fs, .int ln, .int fo, .int fa, .ref m11, .ref m12, .ref m13, .ref m14, .int wr])), aJ G m1 560 fm1_50, aZ G m2 2 ik, aI G m3 20 zs, aI G m4 20 cl, aI G m5 20 hs, aI G m6 20 ks, aI G m7 20 wa, aI G m8 20 ne, aI G m9 4 mn, aI G m10 400 tx, aI G m11 6 th, aI G m12 6 od, aI G m13 30 bk, aI G m14 30 bh] := by rw [ef]; exact hD
            have hv := hv fm1_50 ef
            refine lv_iload_n hx hb dX8_pass_205 rfl (lv_at hl 3 rfl) ?_
            refine lv_aload_n hx hb dX8_pass_206 rfl (lv_at hl 4 rfl) ?_
            refine lv_iload_n hx hb dX8_pass_207 rfl (lv_at hl 5 rfl) ?_
            refine lv_iload_n hx hb dX8_pass_208 rfl (lv_at hl 2 rfl) ?_
            obtain ⟨gT_51, gNs_52, gNp_53, gX_54, gv_55, gip_56, hv⟩ := hv
            obtain ⟨hp, hv⟩ := hv
            refine x_calliR (x_runV (As := [.int x, .int x3_4]) (rest := [.int x2_3]) (n := 2) (C := RX8) (ci := 8) ⟨hx, hb, hml, hown, hts⟩ (k_X8_isCold l G m0 m1 m2 m3 m4 m5 m6 m7 m8 m9 m10 m11 m12 m13 m14 _ fm1_50 ik zs cl hs ks wa ne mn tx th od bk bh fu fd fi nu nw nf bf bn ts ap fs ln fo fa wr x x3_4 gT_51 gNs_52 gNp_53 gX_54 gv_55 gip_56 hp) gX8_pass_X8_isCold rfl (by decide +kernel) ⟨Nat.le_trans (Nat.le_of_ble_eq_true rfl) hRf, Nat.le_trans (Nat.le_of_ble_eq_true rfl) hRl⟩ hKK hSS hS hA hP hD [0, 1, 2, 3, 4, 5, 6, 7, 8, 9, 10, 11, 12, 13, 14] (by decide) rfl rfl rfl 0 rfl rfl hl.1 rfl (Nat.le_of_ble_eq_true rfl) dX8_pass_209) hP hD hS hA [0, 1, 2, 3, 4, 5, 6, 7, 8, 9, 10, 11, 12, 13, 14] rfl (fun r_57 _ H locs hw hP hS => ?_)
            have hv := hv r_57 hw
            refine x_calliR (x_runS (As := [.int r_57]) (rest := [.int x2_3]) (n := 1) ⟨hx, hb, hml, hown, hts⟩ (k_X8_one l G  _ r_57) gX8_pass_X8_one rfl (by decide +kernel) ⟨Nat.le_trans (Nat.le_of_ble_eq_true rfl) hRf, Nat.le_trans (Nat.le_of_ble_eq_true rfl) hRl⟩ hKK hSS hS hA hP hD [] (by decide) rfl rfl hl.1 rfl (Nat.le_of_ble_eq_true rfl) dX8_pass_212) hP hD hS hA [] rfl (fun r_58 _ H locs hw hP hS => ?_)
            replace hw := hw.symm; subst hw
            refine lv_iload_n hx hb dX8_pass_215 rfl (lv_at hl 2 rfl) ?_
            refine lv_ishl hx hb dX8_pass_216 ?_
            refine lv_ior hx hb dX8_pass_217 ?_
            refine lv_topi (fun y_59 ey => ?_)
            have hv := hv y_59 ey
            refine lv_istore_n (lv' := [(2, .int y_59), (5, .long y_39), (4, .int 0), (3, .int x3_4), (0, .ref m0), (1, .int x)]) hx hb dX8_pass_218 rfl hl (by decide) rfl (fun ls hl => ?_)
            refine lv_iinc (v := (x3_4 + 1)) (lv' := [(3, .int (x3_4 + 1)), (2, .int y_59), (5, .long y_39), (4, .int 0), (0, .ref m0), (1, .int x)]) hx hb dX8_pass_219 hl (k := 3) rfl rfl (by decide) rfl (fun ls hl => ?_)
            refine lv_goto (tgt := 18) hx hb dX8_pass_222 (by decide) ?_
            exact ih_7 _ _ _ _ _ _ (Nat.lt_of_lt_of_le hv.2 (Nat.le_of_lt_succ hI_8)) hv.1 hP hD hS (lv_sub hl [0, 1, 4, 5] rfl)
          · have hv := hv.2 hc_36
            refine lv_aload_n hx hb dX8_pass_106 rfl (lv_at hl 3 rfl) ?_
            refine va_get (D := G.1) (ci := 8) (v := .int fu) (C := RX8) (T := TX8) (N := 29) hx hb hts hinX8 hown hKK.1 hP 0 rfl rfl 9 (by decide) kl39 (fun _ h9 => h9) rfl dX8_pass_107 ?_
            refine lv_iconst (v := 2) hx hb dX8_pass_110 (by decide) ?_
            refine lv_idiv hx hb dX8_pass_111 (by decide) ?_
            refine lv_i2l hx hb dX8_pass_112 rfl ?_
            refine lv_goto (tgt := 134) hx hb dX8_pass_113 (by decide) ?_
            refine lv_aload_n hx hb dX8_pass_134 rfl (lv_at hl 3 rfl) ?_
            refine va_get (D := G.1) (ci := 8) (v := .ref m1) (C := RX8) (T := TX8) (N := 29) hx hb hts hinX8 hown hKK.1 hP 0 rfl rfl 0 (by decide) kl7 (fun _ h9 => h9) rfl dX8_pass_135 ?_
            refine lv_iload_n hx hb dX8_pass_138 rfl (lv_at hl 4 rfl) ?_
            refine lv_bipush (v := 10) hx hb dX8_pass_139 (by decide) ?_
            refine lv_iadd hx hb dX8_pass_141 ?_
            refine lv_iload_n hx hb dX8_pass_142 rfl (lv_at hl 1 rfl) ?_
            refine lv_iadd hx hb dX8_pass_143 ?_
            obtain ⟨hin, hv⟩ := hv
            refine va_lald hx hb hKK.1 hP 1 2 rfl rfl hin dX8_pass_144 ?_
            refine x_calllR (x_runS (As := [.long ((fu / 2).toInt64), .long (fm1_35 ((x + 10) + x3_4).toNatClampNeg)]) (rest := []) (n := 2) ⟨hx, hb, hml, hown, hts⟩ (k_X8_less l G  _ ((fu / 2).toInt64) (fm1_35 ((x + 10) + x3_4).toNatClampNeg)) gX8_pass_X8_less rfl (by decide +kernel) ⟨Nat.le_trans (Nat.le_of_ble_eq_true rfl) hRf, Nat.le_trans (Nat.le_of_ble_eq_true rfl) hRl⟩ hKK hSS hS hA hP hD [] (by decide) rfl rfl hl.1 rfl (Nat.le_of_ble_eq_true rfl) dX8_pass_145) hP hD hS hA [] rfl (fun r_60 _ H locs hw hP hS => ?_)
            replace hw := hw.symm; subst hw
            refine lv_topl (fun y_61 ey => ?_)
            have hv := hv y_61 ey
            refine lv_lstore (lv' := [(5, .long y_61), (4, .int 0), (3, .int x3_4), (2, .int x2_3), (0, .ref m0), (1, .int x)]) hx hb dX8_pass_148 hl (by decide) rfl (fun ls hl => ?_)
            refine lv_aload_n hx hb dX8_pass_150 rfl (lv_at hl 4 rfl) ?_
            refine va_get (D := G.1) (ci := 8) (v := .ref m1) (C := RX8) (T := TX8) (N := 29) hx hb hts hinX8 hown hKK.1 hP 0 rfl rfl 0 (by decide) kl7 (fun _ h9 => h9) rfl dX8_pass_151 ?_
            refine lv_iload_n hx hb dX8_pass_154 rfl (lv_at hl 5 rfl) ?_
            refine lv_bipush (v := 10) hx hb dX8_pass_155 (by decide) ?_
            refine lv_iadd hx hb dX8_pass_157 ?_
            refine lv_iload_n hx hb dX8_pass_158 rfl (lv_at hl 2 rfl) ?_
            refine lv_iadd hx hb dX8_pass_159 ?_
            refine lv_dup2_11 hx hb dX8_pass_160 rfl rfl ?_
            obtain ⟨hin, hv⟩ := hv
            refine va_lald hx hb hKK.1 hP 1 2 rfl rfl hin dX8_pass_161 ?_
            refine lv_lload hx hb dX8_pass_162 (lv_at hl 0 rfl) ?_
            refine lv_lsub hx hb dX8_pass_164 ?_
            obtain ⟨hin, hv⟩ := hv
            refine va_last hx hb hKK.1 hP hD hS 1 2 rfl rfl hin dX8_pass_165 (fun H locs hP hD hS => ?_)
            obtain ⟨fm1_62, ef⟩ : ∃ z9_, z9_ = (vp_updL fm1_35 (((x + 10) + x3_4).toNatClampNeg) ((fm1_35 ((x + 10) + x3_4).toNatClampNeg) - y_61)) := ⟨_, rfl⟩
            have hP : va_P G.1 vwCl [(m0, .inr (8, [.ref m1, .ref m2, .ref m3, .ref m4, .ref m5, .ref m6, .ref m7, .ref m8, .ref m9, .int fu, .int fd, .int fi, .int nu, .int nw, .int nf, .int bf, .int bn, .ref m10, .int ts, .int ap, .int fs, .int ln, .int fo, .int fa, .ref m11, .ref m12, .ref m13, .ref m14, .int wr])), aJ G m1 560 fm1_62, aZ G m2 2 ik, aI G m3 20 zs, aI G m4 20 cl, aI G m5 20 hs, aI G m6 20 ks, aI G m7 20 wa, aI G m8 20 ne, aI G m9 4 mn, aI G m10 400 tx, aI G m11 6 th, aI G m12 6 od, aI G m13 30 bk, aI G m14 30 bh] H := by rw [ef]; exact hP
            have hD : va_D A [(m0, .inr (8, [.ref m1, .ref m2, .ref m3, .ref m4, .ref m5, .ref m6, .ref m7, .ref m8, .ref m9, .int fu, .int fd, .int fi, .int nu, .int nw, .int nf, .int bf, .int bn, .ref m10, .int ts, .int ap, .int fs, .int ln, .int fo, .int fa, .ref m11, .ref m12, .ref m13, .ref m14, .int wr])), aJ G m1 560 fm1_62, aZ G m2 2 ik, aI G m3 20 zs, aI G m4 20 cl, aI G m5 20 hs, aI G m6 20 ks, aI G m7 20 wa, aI G m8 20 ne, aI G m9 4 mn, aI G m10 400 tx, aI G m11 6 th, aI G m12 6 od, aI G m13 30 bk, aI G m14 30 bh] := by rw [ef]; exact hD
            have hv := hv fm1_62 ef
            refine lv_aload_n hx hb dX8_pass_166 rfl (lv_at hl 4 rfl) ?_
            refine va_get (D := G.1) (ci := 8) (v := .ref m1) (C := RX8) (T := TX8) (N := 29) hx hb hts hinX8 hown hKK.1 hP 0 rfl rfl 0 (by decide) kl7 (fun _ h9 => h9) rfl dX8_pass_167 ?_
            refine lv_iload_n hx hb dX8_pass_170 rfl (lv_at hl 5 rfl) ?_
            refine lv_sipush (v := 134) hx hb dX8_pass_171 (by decide) ?_
            refine lv_iadd hx hb dX8_pass_174 ?_
            refine lv_dup2_11 hx hb dX8_pass_175 rfl rfl ?_
            obtain ⟨hin, hv⟩ := hv
            refine va_lald hx hb hKK.1 hP 1 2 rfl rfl hin dX8_pass_176 ?_
            refine lv_lload hx hb dX8_pass_177 (lv_at hl 0 rfl) ?_
            refine lv_ladd hx hb dX8_pass_179 ?_
            obtain ⟨hin, hv⟩ := hv
            refine va_last hx hb hKK.1 hP hD hS 1 2 rfl rfl hin dX8_pass_180 (fun H locs hP hD hS => ?_)
            obtain ⟨fm1_63, ef⟩ : ∃ z9_, z9_ = (vp_updL fm1_62 ((x + 134).toNatClampNeg) ((fm1_62 (x + 134).toNatClampNeg) + y_61)) := ⟨_, rfl⟩
            have hP : va_P G.1 vwCl [(m0, .inr (8, [.ref m1, .ref m2, .ref m3, .ref m4, .ref m5, .ref m6, .ref m7, .ref m8, .ref m9, .int fu, .int fd, .int fi, .int nu, .int nw, .int nf, .int bf, .int bn, .ref m10, .int ts, .int ap, .int fs, .int ln, .int fo, .int fa, .ref m11, .ref m12, .ref m13, .ref m14, .int wr])), aJ G m1 560 fm1_63, aZ G m2 2 ik, aI G m3 20 zs, aI G m4 20 cl, aI G m5 20 hs, aI G m6 20 ks, aI G m7 20 wa, aI G m8 20 ne, aI G m9 4 mn, aI G m10 400 tx, aI G m11 6 th, aI G m12 6 od, aI G m13 30 bk, aI G m14 30 bh] H := by rw [ef]; exact hP
            have hD : va_D A [(m0, .inr (8, [.ref m1, .ref m2, .ref m3, .ref m4, .ref m5, .ref m6, .ref m7, .ref m8, .ref m9, .int fu, .int fd, .int fi, .int nu, .int nw, .int nf, .int bf, .int bn, .ref m10, .int ts, .int ap, .int fs, .int ln, .int fo, .int fa, .ref m11, .ref m12, .ref m13, .ref m14, .int wr])), aJ G m1 560 fm1_63, aZ G m2 2 ik, aI G m3 20 zs, aI G m4 20 cl, aI G m5 20 hs, aI G m6 20 ks, aI G m7 20 wa, aI G m8 20 ne, aI G m9 4 mn, aI G m10 400 tx, aI G m11 6 th, aI G m12 6 od, aI G m13 30 bk, aI G m14 30 bh] := by rw [ef]; exact hD
            have hv := hv fm1_63 ef
            refine lv_aload_n hx hb dX8_pass_181 rfl (lv_at hl 4 rfl) ?_
            refine va_get (D := G.1) (ci := 8) (v := .ref m1) (C := RX8) (T := TX8) (N := 29) hx hb hts hinX8 hown hKK.1 hP 0 rfl rfl 0 (by decide) kl7 (fun _ h9 => h9) rfl dX8_pass_182 ?_
            refine lv_iload_n hx hb dX8_pass_185 rfl (lv_at hl 5 rfl) ?_
            refine lv_bipush (v := 30) hx hb dX8_pass_186 (by decide) ?_
            refine lv_iadd hx hb dX8_pass_188 ?_
            refine lv_iload_n hx hb dX8_pass_189 rfl (lv_at hl 2 rfl) ?_
            refine lv_iadd hx hb dX8_pass_190 ?_
            refine lv_dup2_11 hx hb dX8_pass_191 rfl rfl ?_
            obtain ⟨hin, hv⟩ := hv
            refine va_lald hx hb hKK.1 hP 1 2 rfl rfl hin dX8_pass_192 ?_
            refine lv_aload_n hx hb dX8_pass_193 rfl (lv_at hl 4 rfl) ?_
            refine lv_iload_n hx hb dX8_pass_194 rfl (lv_at hl 5 rfl) ?_
            refine lv_iload_n hx hb dX8_pass_195 rfl (lv_at hl 2 rfl) ?_
            obtain ⟨gT_64, gNs_65, gNp_66, gX_67, gv_68, gip_69, hv⟩ := hv
            obtain ⟨hp, hv⟩ := hv
            refine x_calliR (x_runV (As := [.int x, .int x3_4]) (rest := [.long (fm1_63 ((x + 30) + x3_4).toNatClampNeg), .int ((x + 30) + x3_4), .ref m1]) (n := 2) (C := RX8) (ci := 8) ⟨hx, hb, hml, hown, hts⟩ (k_X8_isCold l G m0 m1 m2 m3 m4 m5 m6 m7 m8 m9 m10 m11 m12 m13 m14 _ fm1_63 ik zs cl hs ks wa ne mn tx th od bk bh fu fd fi nu nw nf bf bn ts ap fs ln fo fa wr x x3_4 gT_64 gNs_65 gNp_66 gX_67 gv_68 gip_69 hp) gX8_pass_X8_isCold rfl (by decide +kernel) ⟨Nat.le_trans (Nat.le_of_ble_eq_true rfl) hRf, Nat.le_trans (Nat.le_of_ble_eq_true rfl) hRl⟩ hKK hSS hS hA hP hD [0, 1, 2, 3, 4, 5, 6, 7, 8, 9, 10, 11, 12, 13, 14] (by decide) rfl rfl rfl 0 rfl rfl hl.1 rfl (Nat.le_of_ble_eq_true rfl) dX8_pass_196) hP hD hS hA [0, 1, 2, 3, 4, 5, 6, 7, 8, 9, 10, 11, 12, 13, 14] rfl (fun r_70 _ H locs hw hP hS => ?_)
            have hv := hv r_70 hw
            refine x_calliR (x_runS (As := [.int r_70]) (rest := [.long (fm1_63 ((x + 30) + x3_4).toNatClampNeg), .int ((x + 30) + x3_4), .ref m1]) (n := 1) ⟨hx, hb, hml, hown, hts⟩ (k_X8_one l G  _ r_70) gX8_pass_X8_one rfl (by decide +kernel) ⟨Nat.le_trans (Nat.le_of_ble_eq_true rfl) hRf, Nat.le_trans (Nat.le_of_ble_eq_true rfl) hRl⟩ hKK hSS hS hA hP hD [] (by decide) rfl rfl hl.1 rfl (Nat.le_of_ble_eq_true rfl) dX8_pass_199) hP hD hS hA [] rfl (fun r_71 _ H locs hw hP hS => ?_)
            replace hw := hw.symm; subst hw
            refine lv_i2l hx hb dX8_pass_202 rfl ?_
            refine lv_ladd hx hb dX8_pass_203 ?_
            obtain ⟨hin, hv⟩ := hv
            refine va_last hx hb hKK.1 hP hD hS 1 2 rfl rfl hin dX8_pass_204 (fun H locs hP hD hS => ?_)
            obtain ⟨fm1_72, ef⟩ : ∃ z9_, z9_ = (vp_updL fm1_63 (((x + 30) + x3_4).toNatClampNeg) ((fm1_63 ((x + 30) + x3_4).toNatClampNeg) + ((if r_70 = 0 then 0 else 1) : Int32).toInt64)) := ⟨_, rfl⟩
            have hP : va_P G.1 vwCl [(m0, .inr (8, [.ref m1, .ref m2, .ref m3, .ref m4, .ref m5, .ref m6, .ref m7, .ref m8, .ref m9, .int fu, .int fd, .int fi, .int nu, .int nw, .int nf, .int bf, .int bn, .ref m10, .int ts, .int ap, .int fs, .int ln, .int fo, .int fa, .ref m11, .ref m12, .ref m13, .ref m14, .int wr])), aJ G m1 560 fm1_72, aZ G m2 2 ik, aI G m3 20 zs, aI G m4 20 cl, aI G m5 20 hs, aI G m6 20 ks, aI G m7 20 wa, aI G m8 20 ne, aI G m9 4 mn, aI G m10 400 tx, aI G m11 6 th, aI G m12 6 od, aI G m13 30 bk, aI G m14 30 bh] H := by rw [ef]; exact hP
            have hD : va_D A [(m0, .inr (8, [.ref m1, .ref m2, .ref m3, .ref m4, .ref m5, .ref m6, .ref m7, .ref m8, .ref m9, .int fu, .int fd, .int fi, .int nu, .int nw, .int nf, .int bf, .int bn, .ref m10, .int ts, .int ap, .int fs, .int ln, .int fo, .int fa, .ref m11, .ref m12, .ref m13, .ref m14, .int wr])), aJ G m1 560 fm1_72, aZ G m2 2 ik, aI G m3 20 zs, aI G m4 20 cl, aI G m5 20 hs, aI G m6 20 ks, aI G m7 20 wa, aI G m8 20 ne, aI G m9 4 mn, aI G m10 400 tx, aI G m11 6 th, aI G m12 6 od, aI G m13 30 bk, aI G m14 30 bh] := by rw [ef]; exact hD
            have hv := hv fm1_72 ef
            refine lv_iload_n hx hb dX8_pass_205 rfl (lv_at hl 3 rfl) ?_
            refine lv_aload_n hx hb dX8_pass_206 rfl (lv_at hl 4 rfl) ?_
            refine lv_iload_n hx hb dX8_pass_207 rfl (lv_at hl 5 rfl) ?_
            refine lv_iload_n hx hb dX8_pass_208 rfl (lv_at hl 2 rfl) ?_
            obtain ⟨gT_73, gNs_74, gNp_75, gX_76, gv_77, gip_78, hv⟩ := hv
            obtain ⟨hp, hv⟩ := hv
            refine x_calliR (x_runV (As := [.int x, .int x3_4]) (rest := [.int x2_3]) (n := 2) (C := RX8) (ci := 8) ⟨hx, hb, hml, hown, hts⟩ (k_X8_isCold l G m0 m1 m2 m3 m4 m5 m6 m7 m8 m9 m10 m11 m12 m13 m14 _ fm1_72 ik zs cl hs ks wa ne mn tx th od bk bh fu fd fi nu nw nf bf bn ts ap fs ln fo fa wr x x3_4 gT_73 gNs_74 gNp_75 gX_76 gv_77 gip_78 hp) gX8_pass_X8_isCold rfl (by decide +kernel) ⟨Nat.le_trans (Nat.le_of_ble_eq_true rfl) hRf, Nat.le_trans (Nat.le_of_ble_eq_true rfl) hRl⟩ hKK hSS hS hA hP hD [0, 1, 2, 3, 4, 5, 6, 7, 8, 9, 10, 11, 12, 13, 14] (by decide) rfl rfl rfl 0 rfl rfl hl.1 rfl (Nat.le_of_ble_eq_true rfl) dX8_pass_209) hP hD hS hA [0, 1, 2, 3, 4, 5, 6, 7, 8, 9, 10, 11, 12, 13, 14] rfl (fun r_79 _ H locs hw hP hS => ?_)
            have hv := hv r_79 hw
            refine x_calliR (x_runS (As := [.int r_79]) (rest := [.int x2_3]) (n := 1) ⟨hx, hb, hml, hown, hts⟩ (k_X8_one l G  _ r_79) gX8_pass_X8_one rfl (by decide +kernel) ⟨Nat.le_trans (Nat.le_of_ble_eq_true rfl) hRf, Nat.le_trans (Nat.le_of_ble_eq_true rfl) hRl⟩ hKK hSS hS hA hP hD [] (by decide) rfl rfl hl.1 rfl (Nat.le_of_ble_eq_true rfl) dX8_pass_212) hP hD hS hA [] rfl (fun r_80 _ H locs hw hP hS => ?_)
            replace hw := hw.symm; subst hw
            refine lv_iload_n hx hb dX8_pass_215 rfl (lv_at hl 2 rfl) ?_
            refine lv_ishl hx hb dX8_pass_216 ?_
            refine lv_ior hx hb dX8_pass_217 ?_
            refine lv_topi (fun y_81 ey => ?_)
            have hv := hv y_81 ey
            refine lv_istore_n (lv' := [(2, .int y_81), (5, .long y_61), (4, .int 0), (3, .int x3_4), (0, .ref m0), (1, .int x)]) hx hb dX8_pass_218 rfl hl (by decide) rfl (fun ls hl => ?_)
            refine lv_iinc (v := (x3_4 + 1)) (lv' := [(3, .int (x3_4 + 1)), (2, .int y_81), (5, .long y_61), (4, .int 0), (0, .ref m0), (1, .int x)]) hx hb dX8_pass_219 hl (k := 3) rfl rfl (by decide) rfl (fun ls hl => ?_)
            refine lv_goto (tgt := 18) hx hb dX8_pass_222 (by decide) ?_
            exact ih_7 _ _ _ _ _ _ (Nat.lt_of_lt_of_le hv.2 (Nat.le_of_lt_succ hI_8)) hv.1 hP hD hS (lv_sub hl [0, 1, 4, 5] rfl)
        · have hv := hv.2 (fun h => hc_33 ((lg_cmp_lt _ _).mpr h))
          refine lv_iconst (v := 1) hx hb dX8_pass_44 (by decide) ?_
          refine lv_goto (tgt := 49) hx hb dX8_pass_45 (by decide) ?_
          refine lv_istore (lv' := [(4, .int 1), (3, .int x3_4), (2, .int x2_3), (0, .ref m0), (1, .int x)]) hx hb dX8_pass_49 hl (by decide) rfl (fun ls hl => ?_)
          refine lv_iload hx hb dX8_pass_51 (lv_at hl 0 rfl) ?_
          refine lv_if_eq (tgt := 77) hx hb dX8_pass_53 (by decide) (fun hc_82 => absurd hc_82 (by decide)) (fun hc_82 => ?_)
          refine lv_aload_n hx hb dX8_pass_56 rfl (lv_at hl 3 rfl) ?_
          refine lv_iload_n hx hb dX8_pass_57 rfl (lv_at hl 4 rfl) ?_
          refine lv_iload_n hx hb dX8_pass_58 rfl (lv_at hl 1 rfl) ?_
          refine lv_aload_n hx hb dX8_pass_59 rfl (lv_at hl 3 rfl) ?_
          refine va_get (D := G.1) (ci := 8) (v := .ref m1) (C := RX8) (T := TX8) (N := 29) hx hb hts hinX8 hown hKK.1 hP 0 rfl rfl 0 (by decide) kl7 (fun _ h9 => h9) rfl dX8_pass_60 ?_
          refine lv_iload_n hx hb dX8_pass_63 rfl (lv_at hl 4 rfl) ?_
          refine lv_bipush (v := 20) hx hb dX8_pass_64 (by decide) ?_
          refine lv_iadd hx hb dX8_pass_66 ?_
          refine lv_iload_n hx hb dX8_pass_67 rfl (lv_at hl 1 rfl) ?_
          refine lv_iadd hx hb dX8_pass_68 ?_
          obtain ⟨hin, hv⟩ := hv
          refine va_lald hx hb hKK.1 hP 1 2 rfl rfl hin dX8_pass_69 ?_
          refine lv_l2i hx hb dX8_pass_70 rfl ?_
          obtain ⟨gT_83, gNs_84, gNp_85, gX_86, gv_87, gkk_88, gM_89, gip_90, gib_91, hv⟩ := hv
          obtain ⟨hp, hv⟩ := hv
          refine x_callv (wr := []) (w' := fun (u : (Nat → Int64)) => [(m0, .inr (8, [.ref m1, .ref m2, .ref m3, .ref m4, .ref m5, .ref m6, .ref m7, .ref m8, .ref m9, .int fu, .int fd, .int fi, .int nu, .int nw, .int nf, .int bf, .int bn, .ref m10, .int ts, .int ap, .int fs, .int ln, .int fo, .int fa, .ref m11, .ref m12, .ref m13, .ref m14, .int wr])), aJ G m1 560 u, aZ G m2 2 ik, aI G m3 20 zs, aI G m4 20 cl, aI G m5 20 hs, aI G m6 20 ks, aI G m7 20 wa, aI G m8 20 ne, aI G m9 4 mn, aI G m10 400 tx, aI G m11 6 th, aI G m12 6 od, aI G m13 30 bk, aI G m14 30 bh]) (x_runV (As := [.int x, .int x3_4, .int ((fm1_2 ((x + 20) + x3_4).toNatClampNeg).toInt32)]) (rest := []) (n := 3) (C := RX8) (ci := 8) ⟨hx, hb, hml, hown, hts⟩ (k_X8_sitOn l G m0 m1 m2 m3 m4 m5 m6 m7 m8 m9 m10 m11 m12 m13 m14 _ fm1_2 ik zs cl hs ks wa ne mn tx th od bk bh fu fd fi nu nw nf bf bn ts ap fs ln fo fa wr x x3_4 ((fm1_2 ((x + 20) + x3_4).toNatClampNeg).toInt32) gT_83 gNs_84 gNp_85 gX_86 gv_87 gkk_88 gM_89 gip_90 gib_91 hp) gX8_pass_X8_sitOn rfl (by decide +kernel) ⟨Nat.le_trans (Nat.le_of_ble_eq_true rfl) hRf, Nat.le_trans (Nat.le_of_ble_eq_true rfl) hRl⟩ hKK hSS hS hA hP hD [0, 1, 2, 3, 4, 5, 6, 7, 8, 9, 10, 11, 12, 13, 14] (by decide) rfl rfl rfl 0 rfl rfl hl.1 rfl (Nat.le_of_ble_eq_true rfl) dX8_pass_71) hP hD hS hA [0, 1, 2, 3, 4, 5, 6, 7, 8, 9, 10, 11, 12, 13, 14] [] [0, 1, 2, 3, 4, 5, 6, 7, 8, 9, 10, 11, 12, 13, 14] rfl rfl (by decide) (by decide) (by decide) (fun _ => rfl) (fun  u H locs hw hP hD hS => ?_)
          obtain ⟨mw2_93, rfl⟩ : ∃ z9_, z9_ = u := ⟨_, rfl⟩
          have hP : va_P G.1 vwCl [(m0, .inr (8, [.ref m1, .ref m2, .ref m3, .ref m4, .ref m5, .ref m6, .ref m7, .ref m8, .ref m9, .int fu, .int fd, .int fi, .int nu, .int nw, .int nf, .int bf, .int bn, .ref m10, .int ts, .int ap, .int fs, .int ln, .int fo, .int fa, .ref m11, .ref m12, .ref m13, .ref m14, .int wr])), aJ G m1 560 mw2_93, aZ G m2 2 ik, aI G m3 20 zs, aI G m4 20 cl, aI G m5 20 hs, aI G m6 20 ks, aI G m7 20 wa, aI G m8 20 ne, aI G m9 4 mn, aI G m10 400 tx, aI G m11 6 th, aI G m12 6 od, aI G m13 30 bk, aI G m14 30 bh] H := hP
          have hD : va_D A [(m0, .inr (8, [.ref m1, .ref m2, .ref m3, .ref m4, .ref m5, .ref m6, .ref m7, .ref m8, .ref m9, .int fu, .int fd, .int fi, .int nu, .int nw, .int nf, .int bf, .int bn, .ref m10, .int ts, .int ap, .int fs, .int ln, .int fo, .int fa, .ref m11, .ref m12, .ref m13, .ref m14, .int wr])), aJ G m1 560 mw2_93, aZ G m2 2 ik, aI G m3 20 zs, aI G m4 20 cl, aI G m5 20 hs, aI G m6 20 ks, aI G m7 20 wa, aI G m8 20 ne, aI G m9 4 mn, aI G m10 400 tx, aI G m11 6 th, aI G m12 6 od, aI G m13 30 bk, aI G m14 30 bh] := hD
          have hv := hv mw2_93 hw
          refine lv_goto (tgt := 96) hx hb dX8_pass_74 (by decide) ?_
          refine lv_aload_n hx hb dX8_pass_96 rfl (lv_at hl 3 rfl) ?_
          refine va_get (D := G.1) (ci := 8) (v := .ref m6) (C := RX8) (T := TX8) (N := 29) hx hb hts hinX8 hown hKK.1 hP 0 rfl rfl 5 (by decide) kl27 (fun _ h9 => h9) rfl dX8_pass_97 ?_
          refine lv_iload_n hx hb dX8_pass_100 rfl (lv_at hl 1 rfl) ?_
          obtain ⟨hin, hv⟩ := hv
          refine va_iald hx hb hKK.1 hP 6 0 rfl rfl hin dX8_pass_101 ?_
          refine lv_iconst (v := 4) hx hb dX8_pass_102 (by decide) ?_
          refine lv_icmp_ne (tgt := 116) hx hb dX8_pass_103 (by decide) (fun hc_94 => ?_) (fun hc_94 => ?_)
          · have hv := hv.1 hc_94
            refine lv_iload hx hb dX8_pass_116 (lv_at hl 0 rfl) ?_
            refine lv_if_eq (tgt := 129) hx hb dX8_pass_118 (by decide) (fun hc_95 => absurd hc_95 (by decide)) (fun hc_95 => ?_)
            refine lv_aload_n hx hb dX8_pass_121 rfl (lv_at hl 3 rfl) ?_
            refine va_get (D := G.1) (ci := 8) (v := .int fd) (C := RX8) (T := TX8) (N := 29) hx hb hts hinX8 hown hKK.1 hP 0 rfl rfl 10 (by decide) kl43 (fun _ h9 => h9) rfl dX8_pass_122 ?_
            refine lv_i2l hx hb dX8_pass_125 rfl ?_
            refine lv_goto (tgt := 134) hx hb dX8_pass_126 (by decide) ?_
            refine lv_aload_n hx hb dX8_pass_134 rfl (lv_at hl 3 rfl) ?_
            refine va_get (D := G.1) (ci := 8) (v := .ref m1) (C := RX8) (T := TX8) (N := 29) hx hb hts hinX8 hown hKK.1 hP 0 rfl rfl 0 (by decide) kl7 (fun _ h9 => h9) rfl dX8_pass_135 ?_
            refine lv_iload_n hx hb dX8_pass_138 rfl (lv_at hl 4 rfl) ?_
            refine lv_bipush (v := 10) hx hb dX8_pass_139 (by decide) ?_
            refine lv_iadd hx hb dX8_pass_141 ?_
            refine lv_iload_n hx hb dX8_pass_142 rfl (lv_at hl 1 rfl) ?_
            refine lv_iadd hx hb dX8_pass_143 ?_
            obtain ⟨hin, hv⟩ := hv
            refine va_lald hx hb hKK.1 hP 1 2 rfl rfl hin dX8_pass_144 ?_
            refine x_calllR (x_runS (As := [.long fd.toInt64, .long (mw2_93 ((x + 10) + x3_4).toNatClampNeg)]) (rest := []) (n := 2) ⟨hx, hb, hml, hown, hts⟩ (k_X8_less l G  _ fd.toInt64 (mw2_93 ((x + 10) + x3_4).toNatClampNeg)) gX8_pass_X8_less rfl (by decide +kernel) ⟨Nat.le_trans (Nat.le_of_ble_eq_true rfl) hRf, Nat.le_trans (Nat.le_of_ble_eq_true rfl) hRl⟩ hKK hSS hS hA hP hD [] (by decide) rfl rfl hl.1 rfl (Nat.le_of_ble_eq_true rfl) dX8_pass_145) hP hD hS hA [] rfl (fun r_96 _ H locs hw hP hS => ?_)
            replace hw := hw.symm; subst hw
            refine lv_topl (fun y_97 ey => ?_)
            have hv := hv y_97 ey
            refine lv_lstore (lv' := [(5, .long y_97), (4, .int 1), (3, .int x3_4), (2, .int x2_3), (0, .ref m0), (1, .int x)]) hx hb dX8_pass_148 hl (by decide) rfl (fun ls hl => ?_)
            refine lv_aload_n hx hb dX8_pass_150 rfl (lv_at hl 4 rfl) ?_
            refine va_get (D := G.1) (ci := 8) (v := .ref m1) (C := RX8) (T := TX8) (N := 29) hx hb hts hinX8 hown hKK.1 hP 0 rfl rfl 0 (by decide) kl7 (fun _ h9 => h9) rfl dX8_pass_151 ?_
            refine lv_iload_n hx hb dX8_pass_154 rfl (lv_at hl 5 rfl) ?_
            refine lv_bipush (v := 10) hx hb dX8_pass_155 (by decide) ?_
            refine lv_iadd hx hb dX8_pass_157 ?_
            refine lv_iload_n hx hb dX8_pass_158 rfl (lv_at hl 2 rfl) ?_
            refine lv_iadd hx hb dX8_pass_159 ?_
            refine lv_dup2_11 hx hb dX8_pass_160 rfl rfl ?_
            obtain ⟨hin, hv⟩ := hv
            refine va_lald hx hb hKK.1 hP 1 2 rfl rfl hin dX8_pass_161 ?_
            refine lv_lload hx hb dX8_pass_162 (lv_at hl 0 rfl) ?_
            refine lv_lsub hx hb dX8_pass_164 ?_
            obtain ⟨hin, hv⟩ := hv
            refine va_last hx hb hKK.1 hP hD hS 1 2 rfl rfl hin dX8_pass_165 (fun H locs hP hD hS => ?_)
            obtain ⟨fm1_98, ef⟩ : ∃ z9_, z9_ = (vp_updL mw2_93 (((x + 10) + x3_4).toNatClampNeg) ((mw2_93 ((x + 10) + x3_4).toNatClampNeg) - y_97)) := ⟨_, rfl⟩
            have hP : va_P G.1 vwCl [(m0, .inr (8, [.ref m1, .ref m2, .ref m3, .ref m4, .ref m5, .ref m6, .ref m7, .ref m8, .ref m9, .int fu, .int fd, .int fi, .int nu, .int nw, .int nf, .int bf, .int bn, .ref m10, .int ts, .int ap, .int fs, .int ln, .int fo, .int fa, .ref m11, .ref m12, .ref m13, .ref m14, .int wr])), aJ G m1 560 fm1_98, aZ G m2 2 ik, aI G m3 20 zs, aI G m4 20 cl, aI G m5 20 hs, aI G m6 20 ks, aI G m7 20 wa, aI G m8 20 ne, aI G m9 4 mn, aI G m10 400 tx, aI G m11 6 th, aI G m12 6 od, aI G m13 30 bk, aI G m14 30 bh] H := by rw [ef]; exact hP
            have hD : va_D A [(m0, .inr (8, [.ref m1, .ref m2, .ref m3, .ref m4, .ref m5, .ref m6, .ref m7, .ref m8, .ref m9, .int fu, .int fd, .int fi, .int nu, .int nw, .int nf, .int bf, .int bn, .ref m10, .int ts, .int ap, .int fs, .int ln, .int fo, .int fa, .ref m11, .ref m12, .ref m13, .ref m14, .int wr])), aJ G m1 560 fm1_98, aZ G m2 2 ik, aI G m3 20 zs, aI G m4 20 cl, aI G m5 20 hs, aI G m6 20 ks, aI G m7 20 wa, aI G m8 20 ne, aI G m9 4 mn, aI G m10 400 tx, aI G m11 6 th, aI G m12 6 od, aI G m13 30 bk, aI G m14 30 bh] := by rw [ef]; exact hD
            have hv := hv fm1_98 ef
            refine lv_aload_n hx hb dX8_pass_166 rfl (lv_at hl 4 rfl) ?_
            refine va_get (D := G.1) (ci := 8) (v := .ref m1) (C := RX8) (T := TX8) (N := 29) hx hb hts hinX8 hown hKK.1 hP 0 rfl rfl 0 (by decide) kl7 (fun _ h9 => h9) rfl dX8_pass_167 ?_
            refine lv_iload_n hx hb dX8_pass_170 rfl (lv_at hl 5 rfl) ?_
            refine lv_sipush (v := 134) hx hb dX8_pass_171 (by decide) ?_
            refine lv_iadd hx hb dX8_pass_174 ?_
            refine lv_dup2_11 hx hb dX8_pass_175 rfl rfl ?_
            obtain ⟨hin, hv⟩ := hv
            refine va_lald hx hb hKK.1 hP 1 2 rfl rfl hin dX8_pass_176 ?_
            refine lv_lload hx hb dX8_pass_177 (lv_at hl 0 rfl) ?_
            refine lv_ladd hx hb dX8_pass_179 ?_
            obtain ⟨hin, hv⟩ := hv
            refine va_last hx hb hKK.1 hP hD hS 1 2 rfl rfl hin dX8_pass_180 (fun H locs hP hD hS => ?_)
            obtain ⟨fm1_99, ef⟩ : ∃ z9_, z9_ = (vp_updL fm1_98 ((x + 134).toNatClampNeg) ((fm1_98 (x + 134).toNatClampNeg) + y_97)) := ⟨_, rfl⟩
            have hP : va_P G.1 vwCl [(m0, .inr (8, [.ref m1, .ref m2, .ref m3, .ref m4, .ref m5, .ref m6, .ref m7, .ref m8, .ref m9, .int fu, .int fd, .int fi, .int nu, .int nw, .int nf, .int bf, .int bn, .ref m10, .int ts, .int ap, .int fs, .int ln, .int fo, .int fa, .ref m11, .ref m12, .ref m13, .ref m14, .int wr])), aJ G m1 560 fm1_99, aZ G m2 2 ik, aI G m3 20 zs, aI G m4 20 cl, aI G m5 20 hs, aI G m6 20 ks, aI G m7 20 wa, aI G m8 20 ne, aI G m9 4 mn, aI G m10 400 tx, aI G m11 6 th, aI G m12 6 od, aI G m13 30 bk, aI G m14 30 bh] H := by rw [ef]; exact hP
            have hD : va_D A [(m0, .inr (8, [.ref m1, .ref m2, .ref m3, .ref m4, .ref m5, .ref m6, .ref m7, .ref m8, .ref m9, .int fu, .int fd, .int fi, .int nu, .int nw, .int nf, .int bf, .int bn, .ref m10, .int ts, .int ap, .int fs, .int ln, .int fo, .int fa, .ref m11, .ref m12, .ref m13, .ref m14, .int wr])), aJ G m1 560 fm1_99, aZ G m2 2 ik, aI G m3 20 zs, aI G m4 20 cl, aI G m5 20 hs, aI G m6 20 ks, aI G m7 20 wa, aI G m8 20 ne, aI G m9 4 mn, aI G m10 400 tx, aI G m11 6 th, aI G m12 6 od, aI G m13 30 bk, aI G m14 30 bh] := by rw [ef]; exact hD
            have hv := hv fm1_99 ef
            refine lv_aload_n hx hb dX8_pass_181 rfl (lv_at hl 4 rfl) ?_
            refine va_get (D := G.1) (ci := 8) (v := .ref m1) (C := RX8) (T := TX8) (N := 29) hx hb hts hinX8 hown hKK.1 hP 0 rfl rfl 0 (by decide) kl7 (fun _ h9 => h9) rfl dX8_pass_182 ?_
            refine lv_iload_n hx hb dX8_pass_185 rfl (lv_at hl 5 rfl) ?_
            refine lv_bipush (v := 30) hx hb dX8_pass_186 (by decide) ?_
            refine lv_iadd hx hb dX8_pass_188 ?_
            refine lv_iload_n hx hb dX8_pass_189 rfl (lv_at hl 2 rfl) ?_
            refine lv_iadd hx hb dX8_pass_190 ?_
            refine lv_dup2_11 hx hb dX8_pass_191 rfl rfl ?_
            obtain ⟨hin, hv⟩ := hv
            refine va_lald hx hb hKK.1 hP 1 2 rfl rfl hin dX8_pass_192 ?_
            refine lv_aload_n hx hb dX8_pass_193 rfl (lv_at hl 4 rfl) ?_
            refine lv_iload_n hx hb dX8_pass_194 rfl (lv_at hl 5 rfl) ?_
            refine lv_iload_n hx hb dX8_pass_195 rfl (lv_at hl 2 rfl) ?_
            obtain ⟨gT_100, gNs_101, gNp_102, gX_103, gv_104, gip_105, hv⟩ := hv
            obtain ⟨hp, hv⟩ := hv
            refine x_calliR (x_runV (As := [.int x, .int x3_4]) (rest := [.long (fm1_99 ((x + 30) + x3_4).toNatClampNeg), .int ((x + 30) + x3_4), .ref m1]) (n := 2) (C := RX8) (ci := 8) ⟨hx, hb, hml, hown, hts⟩ (k_X8_isCold l G m0 m1 m2 m3 m4 m5 m6 m7 m8 m9 m10 m11 m12 m13 m14 _ fm1_99 ik zs cl hs ks wa ne mn tx th od bk bh fu fd fi nu nw nf bf bn ts ap fs ln fo fa wr x x3_4 gT_100 gNs_101 gNp_102 gX_103 gv_104 gip_105 hp) gX8_pass_X8_isCold rfl (by decide +kernel) ⟨Nat.le_trans (Nat.le_of_ble_eq_true rfl) hRf, Nat.le_trans (Nat.le_of_ble_eq_true rfl) hRl⟩ hKK hSS hS hA hP hD [0, 1, 2, 3, 4, 5, 6, 7, 8, 9, 10, 11, 12, 13, 14] (by decide) rfl rfl rfl 0 rfl rfl hl.1 rfl (Nat.le_of_ble_eq_true rfl) dX8_pass_196) hP hD hS hA [0, 1, 2, 3, 4, 5, 6, 7, 8, 9, 10, 11, 12, 13, 14] rfl (fun r_106 _ H locs hw hP hS => ?_)
            have hv := hv r_106 hw
            refine x_calliR (x_runS (As := [.int r_106]) (rest := [.long (fm1_99 ((x + 30) + x3_4).toNatClampNeg), .int ((x + 30) + x3_4), .ref m1]) (n := 1) ⟨hx, hb, hml, hown, hts⟩ (k_X8_one l G  _ r_106) gX8_pass_X8_one rfl (by decide +kernel) ⟨Nat.le_trans (Nat.le_of_ble_eq_true rfl) hRf, Nat.le_trans (Nat.le_of_ble_eq_true rfl) hRl⟩ hKK hSS hS hA hP hD [] (by decide) rfl rfl hl.1 rfl (Nat.le_of_ble_eq_true rfl) dX8_pass_199) hP hD hS hA [] rfl (fun r_107 _ H locs hw hP hS => ?_)
            replace hw := hw.symm; subst hw
            refine lv_i2l hx hb dX8_pass_202 rfl ?_
            refine lv_ladd hx hb dX8_pass_203 ?_
            obtain ⟨hin, hv⟩ := hv
            refine va_last hx hb hKK.1 hP hD hS 1 2 rfl rfl hin dX8_pass_204 (fun H locs hP hD hS => ?_)
            obtain ⟨fm1_108, ef⟩ : ∃ z9_, z9_ = (vp_updL fm1_99 (((x + 30) + x3_4).toNatClampNeg) ((fm1_99 ((x + 30) + x3_4).toNatClampNeg) + ((if r_106 = 0 then 0 else 1) : Int32).toInt64)) := ⟨_, rfl⟩
            have hP : va_P G.1 vwCl [(m0, .inr (8, [.ref m1, .ref m2, .ref m3, .ref m4, .ref m5, .ref m6, .ref m7, .ref m8, .ref m9, .int fu, .int fd, .int fi, .int nu, .int nw, .int nf, .int bf, .int bn, .ref m10, .int ts, .int ap, .int fs, .int ln, .int fo, .int fa, .ref m11, .ref m12, .ref m13, .ref m14, .int wr])), aJ G m1 560 fm1_108, aZ G m2 2 ik, aI G m3 20 zs, aI G m4 20 cl, aI G m5 20 hs, aI G m6 20 ks, aI G m7 20 wa, aI G m8 20 ne, aI G m9 4 mn, aI G m10 400 tx, aI G m11 6 th, aI G m12 6 od, aI G m13 30 bk, aI G m14 30 bh] H := by rw [ef]; exact hP
            have hD : va_D A [(m0, .inr (8, [.ref m1, .ref m2, .ref m3, .ref m4, .ref m5, .ref m6, .ref m7, .ref m8, .ref m9, .int fu, .int fd, .int fi, .int nu, .int nw, .int nf, .int bf, .int bn, .ref m10, .int ts, .int ap, .int fs, .int ln, .int fo, .int fa, .ref m11, .ref m12, .ref m13, .ref m14, .int wr])), aJ G m1 560 fm1_108, aZ G m2 2 ik, aI G m3 20 zs, aI G m4 20 cl, aI G m5 20 hs, aI G m6 20 ks, aI G m7 20 wa, aI G m8 20 ne, aI G m9 4 mn, aI G m10 400 tx, aI G m11 6 th, aI G m12 6 od, aI G m13 30 bk, aI G m14 30 bh] := by rw [ef]; exact hD
            have hv := hv fm1_108 ef
            refine lv_iload_n hx hb dX8_pass_205 rfl (lv_at hl 3 rfl) ?_
            refine lv_aload_n hx hb dX8_pass_206 rfl (lv_at hl 4 rfl) ?_
            refine lv_iload_n hx hb dX8_pass_207 rfl (lv_at hl 5 rfl) ?_
            refine lv_iload_n hx hb dX8_pass_208 rfl (lv_at hl 2 rfl) ?_
            obtain ⟨gT_109, gNs_110, gNp_111, gX_112, gv_113, gip_114, hv⟩ := hv
            obtain ⟨hp, hv⟩ := hv
            refine x_calliR (x_runV (As := [.int x, .int x3_4]) (rest := [.int x2_3]) (n := 2) (C := RX8) (ci := 8) ⟨hx, hb, hml, hown, hts⟩ (k_X8_isCold l G m0 m1 m2 m3 m4 m5 m6 m7 m8 m9 m10 m11 m12 m13 m14 _ fm1_108 ik zs cl hs ks wa ne mn tx th od bk bh fu fd fi nu nw nf bf bn ts ap fs ln fo fa wr x x3_4 gT_109 gNs_110 gNp_111 gX_112 gv_113 gip_114 hp) gX8_pass_X8_isCold rfl (by decide +kernel) ⟨Nat.le_trans (Nat.le_of_ble_eq_true rfl) hRf, Nat.le_trans (Nat.le_of_ble_eq_true rfl) hRl⟩ hKK hSS hS hA hP hD [0, 1, 2, 3, 4, 5, 6, 7, 8, 9, 10, 11, 12, 13, 14] (by decide) rfl rfl rfl 0 rfl rfl hl.1 rfl (Nat.le_of_ble_eq_true rfl) dX8_pass_209) hP hD hS hA [0, 1, 2, 3, 4, 5, 6, 7, 8, 9, 10, 11, 12, 13, 14] rfl (fun r_115 _ H locs hw hP hS => ?_)
            have hv := hv r_115 hw
            refine x_calliR (x_runS (As := [.int r_115]) (rest := [.int x2_3]) (n := 1) ⟨hx, hb, hml, hown, hts⟩ (k_X8_one l G  _ r_115) gX8_pass_X8_one rfl (by decide +kernel) ⟨Nat.le_trans (Nat.le_of_ble_eq_true rfl) hRf, Nat.le_trans (Nat.le_of_ble_eq_true rfl) hRl⟩ hKK hSS hS hA hP hD [] (by decide) rfl rfl hl.1 rfl (Nat.le_of_ble_eq_true rfl) dX8_pass_212) hP hD hS hA [] rfl (fun r_116 _ H locs hw hP hS => ?_)
            replace hw := hw.symm; subst hw
            refine lv_iload_n hx hb dX8_pass_215 rfl (lv_at hl 2 rfl) ?_
            refine lv_ishl hx hb dX8_pass_216 ?_
            refine lv_ior hx hb dX8_pass_217 ?_
            refine lv_topi (fun y_117 ey => ?_)
            have hv := hv y_117 ey
            refine lv_istore_n (lv' := [(2, .int y_117), (5, .long y_97), (4, .int 1), (3, .int x3_4), (0, .ref m0), (1, .int x)]) hx hb dX8_pass_218 rfl hl (by decide) rfl (fun ls hl => ?_)
            refine lv_iinc (v := (x3_4 + 1)) (lv' := [(3, .int (x3_4 + 1)), (2, .int y_117), (5, .long y_97), (4, .int 1), (0, .ref m0), (1, .int x)]) hx hb dX8_pass_219 hl (k := 3) rfl rfl (by decide) rfl (fun ls hl => ?_)
            refine lv_goto (tgt := 18) hx hb dX8_pass_222 (by decide) ?_
            exact ih_7 _ _ _ _ _ _ (Nat.lt_of_lt_of_le hv.2 (Nat.le_of_lt_succ hI_8)) hv.1 hP hD hS (lv_sub hl [0, 1, 4, 5] rfl)
          · have hv := hv.2 hc_94
            refine lv_aload_n hx hb dX8_pass_106 rfl (lv_at hl 3 rfl) ?_
            refine va_get (D := G.1) (ci := 8) (v := .int fu) (C := RX8) (T := TX8) (N := 29) hx hb hts hinX8 hown hKK.1 hP 0 rfl rfl 9 (by decide) kl39 (fun _ h9 => h9) rfl dX8_pass_107 ?_
            refine lv_iconst (v := 2) hx hb dX8_pass_110 (by decide) ?_
            refine lv_idiv hx hb dX8_pass_111 (by decide) ?_
            refine lv_i2l hx hb dX8_pass_112 rfl ?_
            refine lv_goto (tgt := 134) hx hb dX8_pass_113 (by decide) ?_
            refine lv_aload_n hx hb dX8_pass_134 rfl (lv_at hl 3 rfl) ?_
            refine va_get (D := G.1) (ci := 8) (v := .ref m1) (C := RX8) (T := TX8) (N := 29) hx hb hts hinX8 hown hKK.1 hP 0 rfl rfl 0 (by decide) kl7 (fun _ h9 => h9) rfl dX8_pass_135 ?_
            refine lv_iload_n hx hb dX8_pass_138 rfl (lv_at hl 4 rfl) ?_
            refine lv_bipush (v := 10) hx hb dX8_pass_139 (by decide) ?_
            refine lv_iadd hx hb dX8_pass_141 ?_
            refine lv_iload_n hx hb dX8_pass_142 rfl (lv_at hl 1 rfl) ?_
            refine lv_iadd hx hb dX8_pass_143 ?_
            obtain ⟨hin, hv⟩ := hv
            refine va_lald hx hb hKK.1 hP 1 2 rfl rfl hin dX8_pass_144 ?_
            refine x_calllR (x_runS (As := [.long ((fu / 2).toInt64), .long (mw2_93 ((x + 10) + x3_4).toNatClampNeg)]) (rest := []) (n := 2) ⟨hx, hb, hml, hown, hts⟩ (k_X8_less l G  _ ((fu / 2).toInt64) (mw2_93 ((x + 10) + x3_4).toNatClampNeg)) gX8_pass_X8_less rfl (by decide +kernel) ⟨Nat.le_trans (Nat.le_of_ble_eq_true rfl) hRf, Nat.le_trans (Nat.le_of_ble_eq_true rfl) hRl⟩ hKK hSS hS hA hP hD [] (by decide) rfl rfl hl.1 rfl (Nat.le_of_ble_eq_true rfl) dX8_pass_145) hP hD hS hA [] rfl (fun r_118 _ H locs hw hP hS => ?_)
            replace hw := hw.symm; subst hw
            refine lv_topl (fun y_119 ey => ?_)
            have hv := hv y_119 ey
            refine lv_lstore (lv' := [(5, .long y_119), (4, .int 1), (3, .int x3_4), (2, .int x2_3), (0, .ref m0), (1, .int x)]) hx hb dX8_pass_148 hl (by decide) rfl (fun ls hl => ?_)
            refine lv_aload_n hx hb dX8_pass_150 rfl (lv_at hl 4 rfl) ?_
            refine va_get (D := G.1) (ci := 8) (v := .ref m1) (C := RX8) (T := TX8) (N := 29) hx hb hts hinX8 hown hKK.1 hP 0 rfl rfl 0 (by decide) kl7 (fun _ h9 => h9) rfl dX8_pass_151 ?_
            refine lv_iload_n hx hb dX8_pass_154 rfl (lv_at hl 5 rfl) ?_
            refine lv_bipush (v := 10) hx hb dX8_pass_155 (by decide) ?_
            refine lv_iadd hx hb dX8_pass_157 ?_
            refine lv_iload_n hx hb dX8_pass_158 rfl (lv_at hl 2 rfl) ?_
            refine lv_iadd hx hb dX8_pass_159 ?_
            refine lv_dup2_11 hx hb dX8_pass_160 rfl rfl ?_
            obtain ⟨hin, hv⟩ := hv
            refine va_lald hx hb hKK.1 hP 1 2 rfl rfl hin dX8_pass_161 ?_
            refine lv_lload hx hb dX8_pass_162 (lv_at hl 0 rfl) ?_
            refine lv_lsub hx hb dX8_pass_164 ?_
            obtain ⟨hin, hv⟩ := hv
            refine va_last hx hb hKK.1 hP hD hS 1 2 rfl rfl hin dX8_pass_165 (fun H locs hP hD hS => ?_)
            obtain ⟨fm1_120, ef⟩ : ∃ z9_, z9_ = (vp_updL mw2_93 (((x + 10) + x3_4).toNatClampNeg) ((mw2_93 ((x + 10) + x3_4).toNatClampNeg) - y_119)) := ⟨_, rfl⟩
            have hP : va_P G.1 vwCl [(m0, .inr (8, [.ref m1, .ref m2, .ref m3, .ref m4, .ref m5, .ref m6, .ref m7, .ref m8, .ref m9, .int fu, .int fd, .int fi, .int nu, .int nw, .int nf, .int bf, .int bn, .ref m10, .int ts, .int ap, .int fs, .int ln, .int fo, .int fa, .ref m11, .ref m12, .ref m13, .ref m14, .int wr])), aJ G m1 560 fm1_120, aZ G m2 2 ik, aI G m3 20 zs, aI G m4 20 cl, aI G m5 20 hs, aI G m6 20 ks, aI G m7 20 wa, aI G m8 20 ne, aI G m9 4 mn, aI G m10 400 tx, aI G m11 6 th, aI G m12 6 od, aI G m13 30 bk, aI G m14 30 bh] H := by rw [ef]; exact hP
            have hD : va_D A [(m0, .inr (8, [.ref m1, .ref m2, .ref m3, .ref m4, .ref m5, .ref m6, .ref m7, .ref m8, .ref m9, .int fu, .int fd, .int fi, .int nu, .int nw, .int nf, .int bf, .int bn, .ref m10, .int ts, .int ap, .int fs, .int ln, .int fo, .int fa, .ref m11, .ref m12, .ref m13, .ref m14, .int wr])), aJ G m1 560 fm1_120, aZ G m2 2 ik, aI G m3 20 zs, aI G m4 20 cl, aI G m5 20 hs, aI G m6 20 ks, aI G m7 20 wa, aI G m8 20 ne, aI G m9 4 mn, aI G m10 400 tx, aI G m11 6 th, aI G m12 6 od, aI G m13 30 bk, aI G m14 30 bh] := by rw [ef]; exact hD
            have hv := hv fm1_120 ef
            refine lv_aload_n hx hb dX8_pass_166 rfl (lv_at hl 4 rfl) ?_
            refine va_get (D := G.1) (ci := 8) (v := .ref m1) (C := RX8) (T := TX8) (N := 29) hx hb hts hinX8 hown hKK.1 hP 0 rfl rfl 0 (by decide) kl7 (fun _ h9 => h9) rfl dX8_pass_167 ?_
            refine lv_iload_n hx hb dX8_pass_170 rfl (lv_at hl 5 rfl) ?_
            refine lv_sipush (v := 134) hx hb dX8_pass_171 (by decide) ?_
            refine lv_iadd hx hb dX8_pass_174 ?_
            refine lv_dup2_11 hx hb dX8_pass_175 rfl rfl ?_
            obtain ⟨hin, hv⟩ := hv
            refine va_lald hx hb hKK.1 hP 1 2 rfl rfl hin dX8_pass_176 ?_
            refine lv_lload hx hb dX8_pass_177 (lv_at hl 0 rfl) ?_
            refine lv_ladd hx hb dX8_pass_179 ?_
            obtain ⟨hin, hv⟩ := hv
            refine va_last hx hb hKK.1 hP hD hS 1 2 rfl rfl hin dX8_pass_180 (fun H locs hP hD hS => ?_)
            obtain ⟨fm1_121, ef⟩ : ∃ z9_, z9_ = (vp_updL fm1_120 ((x + 134).toNatClampNeg) ((fm1_120 (x + 134).toNatClampNeg) + y_119)) := ⟨_, rfl⟩
            have hP : va_P G.1 vwCl [(m0, .inr (8, [.ref m1, .ref m2, .ref m3, .ref m4, .ref m5, .ref m6, .ref m7, .ref m8, .ref m9, .int fu, .int fd, .int fi, .int nu, .int nw, .int nf, .int bf, .int bn, .ref m10, .int ts, .int ap, .int fs, .int ln, .int fo, .int fa, .ref m11, .ref m12, .ref m13, .ref m14, .int wr])), aJ G m1 560 fm1_121, aZ G m2 2 ik, aI G m3 20 zs, aI G m4 20 cl, aI G m5 20 hs, aI G m6 20 ks, aI G m7 20 wa, aI G m8 20 ne, aI G m9 4 mn, aI G m10 400 tx, aI G m11 6 th, aI G m12 6 od, aI G m13 30 bk, aI G m14 30 bh] H := by rw [ef]; exact hP
            have hD : va_D A [(m0, .inr (8, [.ref m1, .ref m2, .ref m3, .ref m4, .ref m5, .ref m6, .ref m7, .ref m8, .ref m9, .int fu, .int fd, .int fi, .int nu, .int nw, .int nf, .int bf, .int bn, .ref m10, .int ts, .int ap, .int fs, .int ln, .int fo, .int fa, .ref m11, .ref m12, .ref m13, .ref m14, .int wr])), aJ G m1 560 fm1_121, aZ G m2 2 ik, aI G m3 20 zs, aI G m4 20 cl, aI G m5 20 hs, aI G m6 20 ks, aI G m7 20 wa, aI G m8 20 ne, aI G m9 4 mn, aI G m10 400 tx, aI G m11 6 th, aI G m12 6 od, aI G m13 30 bk, aI G m14 30 bh] := by rw [ef]; exact hD
            have hv := hv fm1_121 ef
            refine lv_aload_n hx hb dX8_pass_181 rfl (lv_at hl 4 rfl) ?_
            refine va_get (D := G.1) (ci := 8) (v := .ref m1) (C := RX8) (T := TX8) (N := 29) hx hb hts hinX8 hown hKK.1 hP 0 rfl rfl 0 (by decide) kl7 (fun _ h9 => h9) rfl dX8_pass_182 ?_
            refine lv_iload_n hx hb dX8_pass_185 rfl (lv_at hl 5 rfl) ?_
            refine lv_bipush (v := 30) hx hb dX8_pass_186 (by decide) ?_
            refine lv_iadd hx hb dX8_pass_188 ?_
            refine lv_iload_n hx hb dX8_pass_189 rfl (lv_at hl 2 rfl) ?_
            refine lv_iadd hx hb dX8_pass_190 ?_
            refine lv_dup2_11 hx hb dX8_pass_191 rfl rfl ?_
            obtain ⟨hin, hv⟩ := hv
            refine va_lald hx hb hKK.1 hP 1 2 rfl rfl hin dX8_pass_192 ?_
            refine lv_aload_n hx hb dX8_pass_193 rfl (lv_at hl 4 rfl) ?_
            refine lv_iload_n hx hb dX8_pass_194 rfl (lv_at hl 5 rfl) ?_
            refine lv_iload_n hx hb dX8_pass_195 rfl (lv_at hl 2 rfl) ?_
            obtain ⟨gT_122, gNs_123, gNp_124, gX_125, gv_126, gip_127, hv⟩ := hv
            obtain ⟨hp, hv⟩ := hv
            refine x_calliR (x_runV (As := [.int x, .int x3_4]) (rest := [.long (fm1_121 ((x + 30) + x3_4).toNatClampNeg), .int ((x + 30) + x3_4), .ref m1]) (n := 2) (C := RX8) (ci := 8) ⟨hx, hb, hml, hown, hts⟩ (k_X8_isCold l G m0 m1 m2 m3 m4 m5 m6 m7 m8 m9 m10 m11 m12 m13 m14 _ fm1_121 ik zs cl hs ks wa ne mn tx th od bk bh fu fd fi nu nw nf bf bn ts ap fs ln fo fa wr x x3_4 gT_122 gNs_123 gNp_124 gX_125 gv_126 gip_127 hp) gX8_pass_X8_isCold rfl (by decide +kernel) ⟨Nat.le_trans (Nat.le_of_ble_eq_true rfl) hRf, Nat.le_trans (Nat.le_of_ble_eq_true rfl) hRl⟩ hKK hSS hS hA hP hD [0, 1, 2, 3, 4, 5, 6, 7, 8, 9, 10, 11, 12, 13, 14] (by decide) rfl rfl rfl 0 rfl rfl hl.1 rfl (Nat.le_of_ble_eq_true rfl) dX8_pass_196) hP hD hS hA [0, 1, 2, 3, 4, 5, 6, 7, 8, 9, 10, 11, 12, 13, 14] rfl (fun r_128 _ H locs hw hP hS => ?_)
            have hv := hv r_128 hw
            refine x_calliR (x_runS (As := [.int r_128]) (rest := [.long (fm1_121 ((x + 30) + x3_4).toNatClampNeg), .int ((x + 30) + x3_4), .ref m1]) (n := 1) ⟨hx, hb, hml, hown, hts⟩ (k_X8_one l G  _ r_128) gX8_pass_X8_one rfl (by decide +kernel) ⟨Nat.le_trans (Nat.le_of_ble_eq_true rfl) hRf, Nat.le_trans (Nat.le_of_ble_eq_true rfl) hRl⟩ hKK hSS hS hA hP hD [] (by decide) rfl rfl hl.1 rfl (Nat.le_of_ble_eq_true rfl) dX8_pass_199) hP hD hS hA [] rfl (fun r_129 _ H locs hw hP hS => ?_)
            replace hw := hw.symm; subst hw
            refine lv_i2l hx hb dX8_pass_202 rfl ?_
            refine lv_ladd hx hb dX8_pass_203 ?_
            obtain ⟨hin, hv⟩ := hv
            refine va_last hx hb hKK.1 hP hD hS 1 2 rfl rfl hin dX8_pass_204 (fun H locs hP hD hS => ?_)
            obtain ⟨fm1_130, ef⟩ : ∃ z9_, z9_ = (vp_updL fm1_121 (((x + 30) + x3_4).toNatClampNeg) ((fm1_121 ((x + 30) + x3_4).toNatClampNeg) + ((if r_128 = 0 then 0 else 1) : Int32).toInt64)) := ⟨_, rfl⟩
            have hP : va_P G.1 vwCl [(m0, .inr (8, [.ref m1, .ref m2, .ref m3, .ref m4, .ref m5, .ref m6, .ref m7, .ref m8, .ref m9, .int fu, .int fd, .int fi, .int nu, .int nw, .int nf, .int bf, .int bn, .ref m10, .int ts, .int ap, .int fs, .int ln, .int fo, .int fa, .ref m11, .ref m12, .ref m13, .ref m14, .int wr])), aJ G m1 560 fm1_130, aZ G m2 2 ik, aI G m3 20 zs, aI G m4 20 cl, aI G m5 20 hs, aI G m6 20 ks, aI G m7 20 wa, aI G m8 20 ne, aI G m9 4 mn, aI G m10 400 tx, aI G m11 6 th, aI G m12 6 od, aI G m13 30 bk, aI G m14 30 bh] H := by rw [ef]; exact hP
            have hD : va_D A [(m0, .inr (8, [.ref m1, .ref m2, .ref m3, .ref m4, .ref m5, .ref m6, .ref m7, .ref m8, .ref m9, .int fu, .int fd, .int fi, .int nu, .int nw, .int nf, .int bf, .int bn, .ref m10, .int ts, .int ap, .int fs, .int ln, .int fo, .int fa, .ref m11, .ref m12, .ref m13, .ref m14, .int wr])), aJ G m1 560 fm1_130, aZ G m2 2 ik, aI G m3 20 zs, aI G m4 20 cl, aI G m5 20 hs, aI G m6 20 ks, aI G m7 20 wa, aI G m8 20 ne, aI G m9 4 mn, aI G m10 400 tx, aI G m11 6 th, aI G m12 6 od, aI G m13 30 bk, aI G m14 30 bh] := by rw [ef]; exact hD
            have hv := hv fm1_130 ef
            refine lv_iload_n hx hb dX8_pass_205 rfl (lv_at hl 3 rfl) ?_
            refine lv_aload_n hx hb dX8_pass_206 rfl (lv_at hl 4 rfl) ?_
            refine lv_iload_n hx hb dX8_pass_207 rfl (lv_at hl 5 rfl) ?_
            refine lv_iload_n hx hb dX8_pass_208 rfl (lv_at hl 2 rfl) ?_
            obtain ⟨gT_131, gNs_132, gNp_133, gX_134, gv_135, gip_136, hv⟩ := hv
            obtain ⟨hp, hv⟩ := hv
            refine x_calliR (x_runV (As := [.int x, .int x3_4]) (rest := [.int x2_3]) (n := 2) (C := RX8) (ci := 8) ⟨hx, hb, hml, hown, hts⟩ (k_X8_isCold l G m0 m1 m2 m3 m4 m5 m6 m7 m8 m9 m10 m11 m12 m13 m14 _ fm1_130 ik zs cl hs ks wa ne mn tx th od bk bh fu fd fi nu nw nf bf bn ts ap fs ln fo fa wr x x3_4 gT_131 gNs_132 gNp_133 gX_134 gv_135 gip_136 hp) gX8_pass_X8_isCold rfl (by decide +kernel) ⟨Nat.le_trans (Nat.le_of_ble_eq_true rfl) hRf, Nat.le_trans (Nat.le_of_ble_eq_true rfl) hRl⟩ hKK hSS hS hA hP hD [0, 1, 2, 3, 4, 5, 6, 7, 8, 9, 10, 11, 12, 13, 14] (by decide) rfl rfl rfl 0 rfl rfl hl.1 rfl (Nat.le_of_ble_eq_true rfl) dX8_pass_209) hP hD hS hA [0, 1, 2, 3, 4, 5, 6, 7, 8, 9, 10, 11, 12, 13, 14] rfl (fun r_137 _ H locs hw hP hS => ?_)
            have hv := hv r_137 hw
            refine x_calliR (x_runS (As := [.int r_137]) (rest := [.int x2_3]) (n := 1) ⟨hx, hb, hml, hown, hts⟩ (k_X8_one l G  _ r_137) gX8_pass_X8_one rfl (by decide +kernel) ⟨Nat.le_trans (Nat.le_of_ble_eq_true rfl) hRf, Nat.le_trans (Nat.le_of_ble_eq_true rfl) hRl⟩ hKK hSS hS hA hP hD [] (by decide) rfl rfl hl.1 rfl (Nat.le_of_ble_eq_true rfl) dX8_pass_212) hP hD hS hA [] rfl (fun r_138 _ H locs hw hP hS => ?_)
            replace hw := hw.symm; subst hw
            refine lv_iload_n hx hb dX8_pass_215 rfl (lv_at hl 2 rfl) ?_
            refine lv_ishl hx hb dX8_pass_216 ?_
            refine lv_ior hx hb dX8_pass_217 ?_
            refine lv_topi (fun y_139 ey => ?_)
            have hv := hv y_139 ey
            refine lv_istore_n (lv' := [(2, .int y_139), (5, .long y_119), (4, .int 1), (3, .int x3_4), (0, .ref m0), (1, .int x)]) hx hb dX8_pass_218 rfl hl (by decide) rfl (fun ls hl => ?_)
            refine lv_iinc (v := (x3_4 + 1)) (lv' := [(3, .int (x3_4 + 1)), (2, .int y_139), (5, .long y_119), (4, .int 1), (0, .ref m0), (1, .int x)]) hx hb dX8_pass_219 hl (k := 3) rfl rfl (by decide) rfl (fun ls hl => ?_)
            refine lv_goto (tgt := 18) hx hb dX8_pass_222 (by decide) ?_
            exact ih_7 _ _ _ _ _ _ (Nat.lt_of_lt_of_le hv.2 (Nat.le_of_lt_succ hI_8)) hv.1 hP hD hS (lv_sub hl [0, 1, 4, 5] rfl)
  exact Lm_142 _ _ _ _ _ _ _ (Nat.lt_succ_self _) hi0 hP hD hS hl
theorem v_X8_pass (l : Launch) (G : Gt) (m0 m1 m2 m3 m4 m5 m6 m7 m8 m9 m10 m11 m12 m13 m14 : Nat) (sz : Nat) (mw : Nat → Int64) (ik : Nat → Int32) (zs : Nat → Int32) (cl : Nat → Int32) (hs : Nat → Int32) (ks : Nat → Int32) (wa : Nat → Int32) (ne : Nat → Int32) (mn : Nat → Int32) (tx : Nat → Int32) (th : Nat → Int32) (od : Nat → Int32) (bk : Nat → Int32) (bh : Nat → Int32) (fu : Int32) (fd : Int32) (fi : Int32) (nu : Int32) (nw : Int32) (nf : Int32) (bf : Int32) (bn : Int32) (ts : Int32) (ap : Int32) (fs : Int32) (ln : Int32) (fo : Int32) (fa : Int32) (wr : Int32) (x : Int32) (T : Nat → Nat → Int) (Ns : Nat) (Np : Nat) (X : Nat) (v : Nat → Int) (M : Int) (hp : TOK T Ns Np ∧ MT T Ns Np fu fd fi zs cl ks ne mn ∧ x = nI X ∧ X + 140 ≤ 560 ∧ MR X mw v ∧ NOK T Ns Np (fun _ => 2 * M) M v ∧ M ≤ 1000000) : (vp_in (x + 132) 560) ∧ ((vp_in (x + 132) 560) ∧ (∀ (fm1_1 : (Nat → Int64)), (fm1_1 = (vp_updL mw ((x + 132).toNatClampNeg) ((mw (x + 132).toNatClampNeg) + 1))) → (∃ (I18_5 : (Nat → Int64) → Int32 → Int32 → Prop) (μ18_6 : (Nat → Int64) → Int32 → Int32 → Nat), I18_5 fm1_1 0 0 ∧ (∀ (fm1_2 : (Nat → Int64)) (x2_3 : Int32) (x3_4 : Int32), I18_5 fm1_2 x2_3 x3_4 → ((mn 1) ≤ x3_4 → ∃ (I227_12 : (Nat → Int64) → Int32 → Prop) (μ227_13 : (Nat → Int64) → Int32 → Nat), I227_12 fm1_2 0 ∧ (∀ (fm1_10 : (Nat → Int64)) (x3_11 : Int32), I227_12 fm1_10 x3_11 → ((mn 0) ≤ x3_11 → x2_3 = nI (zCs T (zPass T Ns Np v) Np) ∧ MR X fm1_10 (zPass T Ns Np v) ∧ MF X mw fm1_10) ∧ (¬ ((mn 0) ≤ x3_11) → ∃ (gT_17 : Nat → Nat → Int) (gNs_18 : Nat) (gNp_19 : Nat) (gX_20 : Nat) (gv_21 : Nat → Int) (gib_22 : Nat), ((TOK gT_17 gNs_18 gNp_19 ∧ MT gT_17 gNs_18 gNp_19 fu fd fi zs cl ks ne mn ∧ x = nI gX_20 ∧ gX_20 + 140 ≤ 560 ∧ MR gX_20 fm1_10 gv_21 ∧ x3_11 = nI gib_22 ∧ gib_22 < 9) ∧ (∀ (r_23 : Int32), ((r_23 < 0 ↔ zEmpty gv_21 gib_22 gNp_19) ∧ r_23 = zSitter gv_21 gib_22 gNp_19) → ((0 ≤ r_23 → I227_12 fm1_10 (x3_11 + 1) ∧ μ227_13 fm1_10 (x3_11 + 1) < μ227_13 fm1_10 x3_11) ∧ (¬ (0 ≤ r_23) → (vp_in (x + x3_11) 560) ∧ (((fm1_10 (x + x3_11).toNatClampNeg) ≤ 0 → I227_12 fm1_10 (x3_11 + 1) ∧ μ227_13 fm1_10 (x3_11 + 1) < μ227_13 fm1_10 x3_11) ∧ (¬ ((fm1_10 (x + x3_11).toNatClampNeg) ≤ 0) → (vp_in (x + x3_11) 560) ∧ ((vp_in x3_11 20) ∧ ((¬ (cl x3_11.toNatClampNeg).toInt64 = 0) ∧ (∀ (y_27 : Int64), (y_27 = (if ((fm1_10 (x + x3_11).toNatClampNeg) / (cl x3_11.toNatClampNeg).toInt64) < 1 then 1 else ((fm1_10 (x + x3_11).toNatClampNeg) / (cl x3_11.toNatClampNeg).toInt64))) → ((vp_in (x + x3_11) 560) ∧ ((vp_in (x + x3_11) 560) ∧ (∀ (fm1_28 : (Nat → Int64)), (fm1_28 = (vp_updL fm1_10 ((x + x3_11).toNatClampNeg) ((fm1_10 (x + x3_11).toNatClampNeg) - y_27))) → ((vp_in (x + 134) 560) ∧ ((vp_in (x + 134) 560) ∧ (∀ (fm1_29 : (Nat → Int64)), (fm1_29 = (vp_updL fm1_28 ((x + 134).toNatClampNeg) ((fm1_28 (x + 134).toNatClampNeg) + y_27))) → (I227_12 fm1_29 (x3_11 + 1) ∧ μ227_13 fm1_29 (x3_11 + 1) < μ227_13 fm1_10 x3_11))))))))))))))))))) ∧ (¬ ((mn 1) ≤ x3_4) → (vp_in ((x + 20) + x3_4) 560) ∧ (((fm1_2 ((x + 20) + x3_4).toNatClampNeg) < 0 → (vp_in ((x + 50) + x3_4) 560) ∧ ((vp_in ((x + 50) + x3_4) 560) ∧ (∀ (fm1_35 : (Nat → Int64)), (fm1_35 = (vp_updL fm1_2 (((x + 50) + x3_4).toNatClampNeg) ((fm1_2 ((x + 50) + x3_4).toNatClampNeg) + fi.toInt64))) → ((vp_in x3_4 20) ∧ ((¬ (ks x3_4.toNatClampNeg) = 4 → (vp_in ((x + 10) + x3_4) 560) ∧ (∀ (y_39 : Int64), (y_39 = (if fu.toInt64 < (fm1_35 ((x + 10) + x3_4).toNatClampNeg) then fu.toInt64 else (fm1_35 ((x + 10) + x3_4).toNatClampNeg))) → ((vp_in ((x + 10) + x3_4) 560) ∧ ((vp_in ((x + 10) + x3_4) 560) ∧ (∀ (fm1_40 : (Nat → Int64)), (fm1_40 = (vp_updL fm1_35 (((x + 10) + x3_4).toNatClampNeg) ((fm1_35 ((x + 10) + x3_4).toNatClampNeg) - y_39))) → ((vp_in (x + 134) 560) ∧ ((vp_in (x + 134) 560) ∧ (∀ (fm1_41 : (Nat → Int64)), (fm1_41 = (vp_updL fm1_40 ((x + 134).toNatClampNeg) ((fm1_40 (x + 134).toNatClampNeg) + y_39))) → ((vp_in ((x + 30) + x3_4) 560) ∧ (∃ (gT_42 : Nat → Nat → Int) (gNs_43 : Nat) (gNp_44 : Nat) (gX_45 : Nat) (gv_46 : Nat → Int) (gip_47 : Nat), ((TOK gT_42 gNs_43 gNp_44 ∧ MT gT_42 gNs_43 gNp_44 fu fd fi zs cl ks ne mn ∧ x = nI gX_45 ∧ gX_45 + 140 ≤ 560 ∧ MR gX_45 fm1_41 gv_46 ∧ x3_4 = nI gip_47 ∧ gip_47 < gNp_44) ∧ (∀ (r_48 : Int32), (r_48 = if gv_46 (10 + gip_47) < gT_42 3 gip_47 then 1 else 0) → ((vp_in ((x + 30) + x3_4) 560) ∧ (∀ (fm1_50 : (Nat → Int64)), (fm1_50 = (vp_updL fm1_41 (((x + 30) + x3_4).toNatClampNeg) ((fm1_41 ((x + 30) + x3_4).toNatClampNeg) + ((if r_48 = 0 then 0 else 1) : Int32).toInt64))) → (∃ (gT_51 : Nat → Nat → Int) (gNs_52 : Nat) (gNp_53 : Nat) (gX_54 : Nat) (gv_55 : Nat → Int) (gip_56 : Nat), ((TOK gT_51 gNs_52 gNp_53 ∧ MT gT_51 gNs_52 gNp_53 fu fd fi zs cl ks ne mn ∧ x = nI gX_54 ∧ gX_54 + 140 ≤ 560 ∧ MR gX_54 fm1_50 gv_55 ∧ x3_4 = nI gip_56 ∧ gip_56 < gNp_53) ∧ (∀ (r_57 : Int32), (r_57 = if gv_55 (10 + gip_56) < gT_51 3 gip_56 then 1 else 0) → (∀ (y_59 : Int32), (y_59 = (x2_3 ||| (((if r_57 = 0 then 0 else 1) : Int32) <<< (x3_4 &&& 31)))) → (I18_5 fm1_50 y_59 (x3_4 + 1) ∧ μ18_6 fm1_50 y_59 (x3_4 + 1) < μ18_6 fm1_2 x2_3 x3_4))))))))))))))))))) ∧ ((ks x3_4.toNatClampNeg) = 4 → (vp_in ((x + 10) + x3_4) 560) ∧ (∀ (y_61 : Int64), (y_61 = (if ((fu / 2).toInt64) < (fm1_35 ((x + 10) + x3_4).toNatClampNeg) then ((fu / 2).toInt64) else (fm1_35 ((x + 10) + x3_4).toNatClampNeg))) → ((vp_in ((x + 10) + x3_4) 560) ∧ ((vp_in ((x + 10) + x3_4) 560) ∧ (∀ (fm1_62 : (Nat → Int64)), (fm1_62 = (vp_updL fm1_35 (((x + 10) + x3_4).toNatClampNeg) ((fm1_35 ((x + 10) + x3_4).toNatClampNeg) - y_61))) → ((vp_in (x + 134) 560) ∧ ((vp_in (x + 134) 560) ∧ (∀ (fm1_63 : (Nat → Int64)), (fm1_63 = (vp_updL fm1_62 ((x + 134).toNatClampNeg) ((fm1_62 (x + 134).toNatClampNeg) + y_61))) → ((vp_in ((x + 30) + x3_4) 560) ∧ (∃ (gT_64 : Nat → Nat → Int) (gNs_65 : Nat) (gNp_66 : Nat) (gX_67 : Nat) (gv_68 : Nat → Int) (gip_69 : Nat), ((TOK gT_64 gNs_65 gNp_66 ∧ MT gT_64 gNs_65 gNp_66 fu fd fi zs cl ks ne mn ∧ x = nI gX_67 ∧ gX_67 + 140 ≤ 560 ∧ MR gX_67 fm1_63 gv_68 ∧ x3_4 = nI gip_69 ∧ gip_69 < gNp_66) ∧ (∀ (r_70 : Int32), (r_70 = if gv_68 (10 + gip_69) < gT_64 3 gip_69 then 1 else 0) → ((vp_in ((x + 30) + x3_4) 560) ∧ (∀ (fm1_72 : (Nat → Int64)), (fm1_72 = (vp_updL fm1_63 (((x + 30) + x3_4).toNatClampNeg) ((fm1_63 ((x + 30) + x3_4).toNatClampNeg) + ((if r_70 = 0 then 0 else 1) : Int32).toInt64))) → (∃ (gT_73 : Nat → Nat → Int) (gNs_74 : Nat) (gNp_75 : Nat) (gX_76 : Nat) (gv_77 : Nat → Int) (gip_78 : Nat), ((TOK gT_73 gNs_74 gNp_75 ∧ MT gT_73 gNs_74 gNp_75 fu fd fi zs cl ks ne mn ∧ x = nI gX_76 ∧ gX_76 + 140 ≤ 560 ∧ MR gX_76 fm1_72 gv_77 ∧ x3_4 = nI gip_78 ∧ gip_78 < gNp_75) ∧ (∀ (r_79 : Int32), (r_79 = if gv_77 (10 + gip_78) < gT_73 3 gip_78 then 1 else 0) → (∀ (y_81 : Int32), (y_81 = (x2_3 ||| (((if r_79 = 0 then 0 else 1) : Int32) <<< (x3_4 &&& 31)))) → (I18_5 fm1_72 y_81 (x3_4 + 1) ∧ μ18_6 fm1_72 y_81 (x3_4 + 1) < μ18_6 fm1_2 x2_3 x3_4)))))))))))))))))))))))) ∧ (¬ ((fm1_2 ((x + 20) + x3_4).toNatClampNeg) < 0) → (vp_in ((x + 20) + x3_4) 560) ∧ (∃ (gT_83 : Nat → Nat → Int) (gNs_84 : Nat) (gNp_85 : Nat) (gX_86 : Nat) (gv_87 : Nat → Int) (gkk_88 : Nat → Int) (gM_89 : Int) (gip_90 : Nat) (gib_91 : Nat), ((TOK gT_83 gNs_84 gNp_85 ∧ MT gT_83 gNs_84 gNp_85 fu fd fi zs cl ks ne mn ∧ x = nI gX_86 ∧ gX_86 + 140 ≤ 560 ∧ MR gX_86 fm1_2 gv_87 ∧ NOK gT_83 gNs_84 gNp_85 gkk_88 gM_89 gv_87 ∧ NB gkk_88 gM_89 ∧ x3_4 = nI gip_90 ∧ gip_90 < gNp_85 ∧ ((fm1_2 ((x + 20) + x3_4).toNatClampNeg).toInt32) = nI gib_91 ∧ gib_91 < gNs_84) ∧ (∀ (mw2_93 : Nat → Int64), (MR gX_86 mw2_93 (zOwn gip_90 gib_91 (zSit gT_83 gip_90 gib_91 gv_87)) ∧ MF gX_86 fm1_2 mw2_93) → ((vp_in x3_4 20) ∧ ((¬ (ks x3_4.toNatClampNeg) = 4 → (vp_in ((x + 10) + x3_4) 560) ∧ (∀ (y_97 : Int64), (y_97 = (if fd.toInt64 < (mw2_93 ((x + 10) + x3_4).toNatClampNeg) then fd.toInt64 else (mw2_93 ((x + 10) + x3_4).toNatClampNeg))) → ((vp_in ((x + 10) + x3_4) 560) ∧ ((vp_in ((x + 10) + x3_4) 560) ∧ (∀ (fm1_98 : (Nat → Int64)), (fm1_98 = (vp_updL mw2_93 (((x + 10) + x3_4).toNatClampNeg) ((mw2_93 ((x + 10) + x3_4).toNatClampNeg) - y_97))) → ((vp_in (x + 134) 560) ∧ ((vp_in (x + 134) 560) ∧ (∀ (fm1_99 : (Nat → Int64)), (fm1_99 = (vp_updL fm1_98 ((x + 134).toNatClampNeg) ((fm1_98 (x + 134).toNatClampNeg) + y_97))) → ((vp_in ((x + 30) + x3_4) 560) ∧ (∃ (gT_100 : Nat → Nat → Int) (gNs_101 : Nat) (gNp_102 : Nat) (gX_103 : Nat) (gv_104 : Nat → Int) (gip_105 : Nat), ((TOK gT_100 gNs_101 gNp_102 ∧ MT gT_100 gNs_101 gNp_102 fu fd fi zs cl ks ne mn ∧ x = nI gX_103 ∧ gX_103 + 140 ≤ 560 ∧ MR gX_103 fm1_99 gv_104 ∧ x3_4 = nI gip_105 ∧ gip_105 < gNp_102) ∧ (∀ (r_106 : Int32), (r_106 = if gv_104 (10 + gip_105) < gT_100 3 gip_105 then 1 else 0) → ((vp_in ((x + 30) + x3_4) 560) ∧ (∀ (fm1_108 : (Nat → Int64)), (fm1_108 = (vp_updL fm1_99 (((x + 30) + x3_4).toNatClampNeg) ((fm1_99 ((x + 30) + x3_4).toNatClampNeg) + ((if r_106 = 0 then 0 else 1) : Int32).toInt64))) → (∃ (gT_109 : Nat → Nat → Int) (gNs_110 : Nat) (gNp_111 : Nat) (gX_112 : Nat) (gv_113 : Nat → Int) (gip_114 : Nat), ((TOK gT_109 gNs_110 gNp_111 ∧ MT gT_109 gNs_110 gNp_111 fu fd fi zs cl ks ne mn ∧ x = nI gX_112 ∧ gX_112 + 140 ≤ 560 ∧ MR gX_112 fm1_108 gv_113 ∧ x3_4 = nI gip_114 ∧ gip_114 < gNp_111) ∧ (∀ (r_115 : Int32), (r_115 = if gv_113 (10 + gip_114) < gT_109 3 gip_114 then 1 else 0) → (∀ (y_117 : Int32), (y_117 = (x2_3 ||| (((if r_115 = 0 then 0 else 1) : Int32) <<< (x3_4 &&& 31)))) → (I18_5 fm1_108 y_117 (x3_4 + 1) ∧ μ18_6 fm1_108 y_117 (x3_4 + 1) < μ18_6 fm1_2 x2_3 x3_4))))))))))))))))))) ∧ ((ks x3_4.toNatClampNeg) = 4 → (vp_in ((x + 10) + x3_4) 560) ∧ (∀ (y_119 : Int64), (y_119 = (if ((fu / 2).toInt64) < (mw2_93 ((x + 10) + x3_4).toNatClampNeg) then ((fu / 2).toInt64) else (mw2_93 ((x + 10) + x3_4).toNatClampNeg))) → ((vp_in ((x + 10) + x3_4) 560) ∧ ((vp_in ((x + 10) + x3_4) 560) ∧ (∀ (fm1_120 : (Nat → Int64)), (fm1_120 = (vp_updL mw2_93 (((x + 10) + x3_4).toNatClampNeg) ((mw2_93 ((x + 10) + x3_4).toNatClampNeg) - y_119))) → ((vp_in (x + 134) 560) ∧ ((vp_in (x + 134) 560) ∧ (∀ (fm1_121 : (Nat → Int64)), (fm1_121 = (vp_updL fm1_120 ((x + 134).toNatClampNeg) ((fm1_120 (x + 134).toNatClampNeg) + y_119))) → ((vp_in ((x + 30) + x3_4) 560) ∧ (∃ (gT_122 : Nat → Nat → Int) (gNs_123 : Nat) (gNp_124 : Nat) (gX_125 : Nat) (gv_126 : Nat → Int) (gip_127 : Nat), ((TOK gT_122 gNs_123 gNp_124 ∧ MT gT_122 gNs_123 gNp_124 fu fd fi zs cl ks ne mn ∧ x = nI gX_125 ∧ gX_125 + 140 ≤ 560 ∧ MR gX_125 fm1_121 gv_126 ∧ x3_4 = nI gip_127 ∧ gip_127 < gNp_124) ∧ (∀ (r_128 : Int32), (r_128 = if gv_126 (10 + gip_127) < gT_122 3 gip_127 then 1 else 0) → ((vp_in ((x + 30) + x3_4) 560) ∧ (∀ (fm1_130 : (Nat → Int64)), (fm1_130 = (vp_updL fm1_121 (((x + 30) + x3_4).toNatClampNeg) ((fm1_121 ((x + 30) + x3_4).toNatClampNeg) + ((if r_128 = 0 then 0 else 1) : Int32).toInt64))) → (∃ (gT_131 : Nat → Nat → Int) (gNs_132 : Nat) (gNp_133 : Nat) (gX_134 : Nat) (gv_135 : Nat → Int) (gip_136 : Nat), ((TOK gT_131 gNs_132 gNp_133 ∧ MT gT_131 gNs_132 gNp_133 fu fd fi zs cl ks ne mn ∧ x = nI gX_134 ∧ gX_134 + 140 ≤ 560 ∧ MR gX_134 fm1_130 gv_135 ∧ x3_4 = nI gip_136 ∧ gip_136 < gNp_133) ∧ (∀ (r_137 : Int32), (r_137 = if gv_135 (10 + gip_136) < gT_131 3 gip_136 then 1 else 0) → (∀ (y_139 : Int32), (y_139 = (x2_3 ||| (((if r_137 = 0 then 0 else 1) : Int32) <<< (x3_4 &&& 31)))) → (I18_5 fm1_130 y_139 (x3_4 + 1) ∧ μ18_6 fm1_130 y_139 (x3_4 + 1) < μ18_6 fm1_2 x2_3 x3_4))))))))))))))))))))))))))))))) := by
  obtain ⟨hT, hC, rfl, hX, hR, hO, hM⟩ := hp
  have t1 := hT.1
  have t2 := hT.2.1
  have t5 := hT.2.2.2.2
  have hns : mn 0 = nI Ns := hC.1
  have hnp : mn 1 = nI Np := hC.2.1
  have hfu := hC.2.2.2.2.1
  have hfd := hC.2.2.2.2.2.1
  have hfi := hC.2.2.2.2.2.2
  have e132 : nI X + 132 = nI (X + 132) := ix1 X 132
  have c132 : (nI (X + 132)).toNatClampNeg = X + 132 := nI_clamp (by omega)
  have e134 : nI X + 134 = nI (X + 134) := ix1 X 134
  have c134 : (nI (X + 134)).toNatClampNeg = X + 134 := nI_clamp (by omega)
  have vL : vp_in (nI (X + 134)) 560 := vp_in_nI (by omega) (by omega)
  have vM : vp_in (nI (X + 132)) 560 := vp_in_nI (by omega) (by omega)
  simp only [e132, c132, e134, c134, hns, hnp]
  have b5 := hO.2.2.2.2.1
  have hO1 := zMin_ok hT hO
  have hB : ∀ i, NB (fun q => if q < i then 2 * M + 2 else 2 * M) (M + 1) := fun i => ⟨fun q => by dsimp only; split <;> omega, by omega⟩
  refine ⟨vM, vM, fun w0 ew0 => ?_⟩
  have hR0 : MR X w0 (uz v 132 (v 132 + 1)) := by rw [ew0]; exact hR.up (l_add (hR 132 (by omega)) (show (1 : Int64).toInt = 1 from rfl) (by omega) (by omega))
  have hF0 : MF X mw w0 := by rw [ew0]; exact (MF.rf X mw).up (by omega)
  refine ⟨fun w x2 x3 => ∃ i, i ≤ Np ∧ x3 = nI i ∧ x2 = nI (zCs T (zPersons T (uz v 132 (v 132 + 1)) i) i) ∧ MR X w (zPersons T (uz v 132 (v 132 + 1)) i) ∧ MF X mw w, fun _ _ z => 9 - z.toNatClampNeg, ⟨0, by omega, rfl, rfl, hR0, hF0⟩, ?_⟩
  rintro w x2 x3 ⟨i, hi, rfl, rfl, hRi, hFi⟩
  have ei : (nI i).toNatClampNeg = i := nI_clamp (by omega)
  have ei1 : nI i + 1 = nI (i + 1) := nI_1 i
  have ej : (nI (i + 1)).toNatClampNeg = i + 1 := nI_clamp (by omega)
  have e10 : nI X + 10 + nI i = nI (X + (10 + i)) := ix2 X 10 i
  have c10 : (nI (X + (10 + i))).toNatClampNeg = X + (10 + i) := nI_clamp (by omega)
  have e20 : nI X + 20 + nI i = nI (X + (20 + i)) := ix2 X 20 i
  have c20 : (nI (X + (20 + i))).toNatClampNeg = X + (20 + i) := nI_clamp (by omega)
  have e30 : nI X + 30 + nI i = nI (X + (30 + i)) := ix2 X 30 i
  have c30 : (nI (X + (30 + i))).toNatClampNeg = X + (30 + i) := nI_clamp (by omega)
  have e50 : nI X + 50 + nI i = nI (X + (50 + i)) := ix2 X 50 i
  have c50 : (nI (X + (50 + i))).toNatClampNeg = X + (50 + i) := nI_clamp (by omega)
  simp only [ei, ei1, ej, e10, c10, e20, c20, e30, c30, e50, c50]
  have hOi := zPersons_ok hT hO1 i hi
  refine ⟨fun h => ?_, fun h => ?_⟩
  · have e : Np = i := by have := (nI_leI (a := Np) (b := i) (by omega) (by omega)).mp h; omega
    subst e
    refine ⟨fun w x3 => ∃ b, b ≤ Ns ∧ x3 = nI b ∧ MR X w (zCools T Np (zPersons T (uz v 132 (v 132 + 1)) Np) b) ∧ MF X mw w, fun _ z => 10 - z.toNatClampNeg, ⟨0, by omega, rfl, hRi, hFi⟩, ?_⟩
    rintro w x3 ⟨b, hb, rfl, hRb, hFb⟩
    have cb : (nI b).toNatClampNeg = b := nI_clamp (by omega)
    have cb1 : nI b + 1 = nI (b + 1) := nI_1 b
    have cb2 : (nI (b + 1)).toNatClampNeg = b + 1 := nI_clamp (by omega)
    have eb : nI X + nI b = nI (X + b) := ix1 X b
    have ceb : (nI (X + b)).toNatClampNeg = X + b := nI_clamp (by omega)
    simp only [cb, cb1, cb2, eb, ceb]
    refine ⟨fun h => ?_, fun h => ?_⟩
    · have e : Ns = b := by have := (nI_leI (a := Ns) (b := b) (by omega) (by omega)).mp h; omega
      subst e
      exact ⟨by rw [zCs_pass hT], hRb, hFb⟩
    · have hlt : b < Ns := by
        rcases Nat.lt_or_ge b Ns with q | q
        · exact q
        · exact absurd ((nI_leI (by omega) (by omega)).mpr q) h
      have hOb := zCools_ok hT hOi b hb
      have vb : vp_in (nI (X + b)) 560 := vp_in_nI (by omega) (by omega)
      have a1 := hOb.1 b hlt
      have a3 := hT.2.2.1 b hlt
      have eh := hRb b (by omega)
      have ecl : (cl b).toInt64.toInt = T 1 b := i_l (hC.2.2.1 b hlt).2
      refine ⟨T, Ns, Np, X, _, b, ⟨hT, hC, rfl, hX, hRb, rfl, by omega⟩, fun r hr => ⟨fun q => ⟨⟨b + 1, by omega, rfl, ?_, hFb⟩, by omega⟩, fun q => ⟨vb, fun q2 => ⟨⟨b + 1, by omega, rfl, ?_, hFb⟩, by omega⟩, fun q2 => ⟨vb, vp_in_nI (by omega) (by omega), ?_, fun y ey => ⟨vb, vb, fun w1 ew1 => ⟨vL, vL, fun w2 ew2 => ⟨⟨b + 1, by omega, rfl, ?_, ?_⟩, by omega⟩⟩⟩⟩⟩⟩⟩
      · rw [zCools, zCool_no (fun z => absurd (hr.1.mpr z) (Int32.not_lt.mpr q))]; exact hRb
      · have hE := hr.1.mp (Int32.not_le.mp q)
        have q3 := (l_le eh (show (0 : Int64).toInt = 0 from rfl)).mp q2
        rw [zCools, zCool_yes hE, zLoss_0 q3]; exact hRb
      · intro z
        have := (l_eq ecl (show (0 : Int64).toInt = 0 from rfl)).mp z
        omega
      · have hE := hr.1.mp (Int32.not_le.mp q)
        have q3 := mt (l_le eh (show (0 : Int64).toInt = 0 from rfl)).mpr q2
        rw [zCools, zCool_yes hE]
        have fb := lossZ_bd a3.2.2.1 a1.1
        have bL := hOb.2.2.2.2.2.2
        have bS : 0 ≤ zSum (zCools T Np (zPersons T (uz v 132 (v 132 + 1)) Np) b) 0 Ns ∧ 0 ≤ zSum (zCools T Np (zPersons T (uz v 132 (v 132 + 1)) Np) b) 10 Np := ⟨zSum_nn (fun j hj => by rw [Nat.zero_add]; exact (hOb.1 j hj).1), zSum_nn (fun j hj => (hOb.2.1 j hj).1.1)⟩
        generalize zCools T Np (zPersons T (uz v 132 (v 132 + 1)) Np) b = Z at *
        have ed : (w (X + b) / (cl b).toInt64).toInt = Z b / T 1 b := by
          rw [l_div eh ecl (by omega)]
          exact if_pos a1.1
        have hy : y.toInt = lossZ (T 1 b) (Z b) := by
          rw [ey, l_if (l_lt ed (show (1 : Int64).toInt = 1 from rfl)) (show (1 : Int64).toInt = 1 from rfl) ed]
          unfold lossZ
          rw [if_neg q3]
          split <;> split <;> omega
        have hR1 : MR X w1 (uz Z b (Z b - lossZ (T 1 b) (Z b))) := by rw [ew1]; exact hRb.up (l_sub eh hy (by omega) (by omega))
        rw [ew2]
        refine hR1.up (l_add ?_ hy (by omega) (by omega))
        rw [hR1 134 (by omega), uz_ne (by omega)]
      · rw [ew2, ew1]; exact (hFb.up (by omega)).up (by omega)
  · have hlt : i < Np := by
      rcases Nat.lt_or_ge i Np with q | q
      · exact q
      · exact absurd ((nI_leI (by omega) (by omega)).mpr q) h
    have vW : vp_in (nI (X + (10 + i))) 560 := vp_in_nI (by omega) (by omega)
    have vS : vp_in (nI (X + (20 + i))) 560 := vp_in_nI (by omega) (by omega)
    have vC : vp_in (nI (X + (30 + i))) 560 := vp_in_nI (by omega) (by omega)
    have vD : vp_in (nI (X + (50 + i))) 560 := vp_in_nI (by omega) (by omega)
    have v20 : vp_in (nI i) 20 := vp_in_nI (by omega) (by omega)
    have es := hRi (20 + i) (by omega)
    have sb := (hOi.2.1 i hlt).2.1
    have hk := (hC.2.2.2.1 i hlt).1
    have k4 : ks i = 4 ↔ T 2 i = 4 := i_eq hk rfl
    have bK : kUp (fun q => if q < i then 2 * M + 2 else 2 * M) i i ≤ 3000000 := by
      rw [kUp_eq]
      split <;> omega
    refine ⟨vS, fun hs => ?_, fun hs => ?_⟩
    · have hneg : zPersons T (uz v 132 (v 132 + 1)) i (20 + i) < 0 := (l_lt es (show (0 : Int64).toInt = 0 from rfl)).mp hs
      have e1 : zPersons T (uz v 132 (v 132 + 1)) (i + 1) = zCold T i (zFrost T i false (zFine T i (zPersons T (uz v 132 (v 132 + 1)) i))) := by
        rw [zPersons]; unfold zPerson; rw [if_neg (by omega)]
      have bO := (hOi.2.1 i hlt).2.2.2.2
      have bk := (hB i).1 i
      refine ⟨vD, vD, fun wf ewf => ?_⟩
      have hRf : MR X wf (zFine T i (zPersons T (uz v 132 (v 132 + 1)) i)) := by rw [ewf]; exact hRi.up (l_add (hRi (50 + i) (by omega)) (i_l hfi) (by omega) (by omega))
      have hFf : MF X mw wf := by rw [ewf]; exact hFi.up (by omega)
      have hOf := zFine_ok hT hOi hlt
      refine ⟨v20, fun hk4 => ?_, fun hk4 => ?_⟩
      · have n4 : ¬ T 2 i = 4 := fun z => hk4 (k4.mpr z)
        refine ⟨vW, fun y ey => ⟨vW, vW, fun w1 ew1 => ⟨vL, vL, fun w2 ew2 => ?_⟩⟩⟩
        have bY := (hOf.2.1 i hlt)
        have bL := hOf.2.2.2.2.2.2
        have bS : 0 ≤ zSum (zFine T i (zPersons T (uz v 132 (v 132 + 1)) i)) 0 Ns ∧ 0 ≤ zSum (zFine T i (zPersons T (uz v 132 (v 132 + 1)) i)) 10 Np := ⟨zSum_nn (fun j hj => by rw [Nat.zero_add]; exact (hOf.1 j hj).1), zSum_nn (fun j hj => (hOf.2.1 j hj).1.1)⟩
        have eF := i_l hfu
        have hFZ : frostZ (T 2 i) (T 4 0) (T 4 1) false = T 4 0 := by unfold frostZ; rw [if_neg n4]; rfl
        have fz := frostZ_bd (k := T 2 i) (s := false) t5.1 t5.2.1 t5.2.2.1 t5.2.2.2.1
        rw [← hFZ] at eF
        have hy : y.toInt = minZ (frostZ (T 2 i) (T 4 0) (T 4 1) false) ((zFine T i (zPersons T (uz v 132 (v 132 + 1)) i)) (10 + i)) := by rw [ey]; exact l_min eF (hRf (10 + i) (by omega))
        have mb := minZ_bd fz.1 bY.1.1
        have hR1 : MR X w1 (uz (zFine T i (zPersons T (uz v 132 (v 132 + 1)) i)) (10 + i) ((zFine T i (zPersons T (uz v 132 (v 132 + 1)) i)) (10 + i) - minZ (frostZ (T 2 i) (T 4 0) (T 4 1) false) ((zFine T i (zPersons T (uz v 132 (v 132 + 1)) i)) (10 + i)))) := by rw [ew1]; exact MR.up hRf (l_sub (hRf (10 + i) (by omega)) hy (by omega) (by omega))
        have hR2 : MR X w2 (zFrost T i false (zFine T i (zPersons T (uz v 132 (v 132 + 1)) i))) := by
          rw [ew2]
          refine hR1.up (l_add ?_ hy (by omega) (by omega))
          rw [hR1 134 (by omega), uz_ne (by omega)]
        have hF2 : MF X mw w2 := by rw [ew2, ew1]; exact (hFf.up (by omega)).up (by omega)
        have hO2 := zFrost_ok hT hOf false hlt
        have bC := (hO2.2.1 i hlt).2.2.1
        refine ⟨vC, T, Ns, Np, X, _, i, ⟨hT, hC, rfl, hX, hR2, rfl, hlt⟩, fun r hr => ⟨vC, fun w3 ew3 => ?_⟩⟩
        have hR3 : MR X w3 (zCold T i (zFrost T i false (zFine T i (zPersons T (uz v 132 (v 132 + 1)) i)))) := by
          rw [ew3]
          unfold zCold
          by_cases q : (zFrost T i false (zFine T i (zPersons T (uz v 132 (v 132 + 1)) i))) (10 + i) < T 3 i
          · rw [if_pos q] at hr ⊢
            subst hr
            exact hR2.up (l_add (hR2 (30 + i) (by omega)) (show ((if (1 : Int32) = 0 then (0 : Int32) else 1) : Int32).toInt64.toInt = 1 from rfl) (by omega) (by omega))
          · rw [if_neg q] at hr ⊢
            subst hr
            have z := hR2.up (i := 30 + i) (l_add (hR2 (30 + i) (by omega)) (show ((if (0 : Int32) = 0 then (0 : Int32) else 1) : Int32).toInt64.toInt = 0 from rfl) (by omega) (by omega))
            rwa [uz_same (by omega)] at z
        have hF3 : MF X mw w3 := by rw [ew3]; exact hF2.up (by omega)
        refine ⟨T, Ns, Np, X, _, i, ⟨hT, hC, rfl, hX, hR3, rfl, hlt⟩, fun r2 hr2 y2 ey2 => ⟨⟨i + 1, by omega, rfl, ?_, by rw [e1]; exact hR3, hF3⟩, by omega⟩⟩
        rw [ey2, hr2, zCs, zCs_step hT hO1 hlt, e1]
        by_cases q : (zCold T i (zFrost T i false (zFine T i (zPersons T (uz v 132 (v 132 + 1)) i)))) (10 + i) < T 3 i
        · rw [if_pos q, if_pos q]; exact bit_or i (by omega) _ (zCs_lt T _ i)
        · rw [if_neg q, if_neg q]; exact bit_or0 i (by omega) _ (zCs_lt T _ i)
      · have n4 : T 2 i = 4 := k4.mp hk4
        refine ⟨vW, fun y ey => ⟨vW, vW, fun w1 ew1 => ⟨vL, vL, fun w2 ew2 => ?_⟩⟩⟩
        have bY := (hOf.2.1 i hlt)
        have bL := hOf.2.2.2.2.2.2
        have bS : 0 ≤ zSum (zFine T i (zPersons T (uz v 132 (v 132 + 1)) i)) 0 Ns ∧ 0 ≤ zSum (zFine T i (zPersons T (uz v 132 (v 132 + 1)) i)) 10 Np := ⟨zSum_nn (fun j hj => by rw [Nat.zero_add]; exact (hOf.1 j hj).1), zSum_nn (fun j hj => (hOf.2.1 j hj).1.1)⟩
        have eF := (i_l (i_div hfu (show (2 : Int32).toInt = 2 from rfl) (by omega)) : (fu / 2).toInt64.toInt = dvZ (T 4 0) 2)
        have hFZ : frostZ (T 2 i) (T 4 0) (T 4 1) false = dvZ (T 4 0) 2 := by unfold frostZ dvZ; rw [if_pos n4, if_pos t5.1]
        have fz := frostZ_bd (k := T 2 i) (s := false) t5.1 t5.2.1 t5.2.2.1 t5.2.2.2.1
        rw [← hFZ] at eF
        have hy : y.toInt = minZ (frostZ (T 2 i) (T 4 0) (T 4 1) false) ((zFine T i (zPersons T (uz v 132 (v 132 + 1)) i)) (10 + i)) := by rw [ey]; exact l_min eF (hRf (10 + i) (by omega))
        have mb := minZ_bd fz.1 bY.1.1
        have hR1 : MR X w1 (uz (zFine T i (zPersons T (uz v 132 (v 132 + 1)) i)) (10 + i) ((zFine T i (zPersons T (uz v 132 (v 132 + 1)) i)) (10 + i) - minZ (frostZ (T 2 i) (T 4 0) (T 4 1) false) ((zFine T i (zPersons T (uz v 132 (v 132 + 1)) i)) (10 + i)))) := by rw [ew1]; exact MR.up hRf (l_sub (hRf (10 + i) (by omega)) hy (by omega) (by omega))
        have hR2 : MR X w2 (zFrost T i false (zFine T i (zPersons T (uz v 132 (v 132 + 1)) i))) := by
          rw [ew2]
          refine hR1.up (l_add ?_ hy (by omega) (by omega))
          rw [hR1 134 (by omega), uz_ne (by omega)]
        have hF2 : MF X mw w2 := by rw [ew2, ew1]; exact (hFf.up (by omega)).up (by omega)
        have hO2 := zFrost_ok hT hOf false hlt
        have bC := (hO2.2.1 i hlt).2.2.1
        refine ⟨vC, T, Ns, Np, X, _, i, ⟨hT, hC, rfl, hX, hR2, rfl, hlt⟩, fun r hr => ⟨vC, fun w3 ew3 => ?_⟩⟩
        have hR3 : MR X w3 (zCold T i (zFrost T i false (zFine T i (zPersons T (uz v 132 (v 132 + 1)) i)))) := by
          rw [ew3]
          unfold zCold
          by_cases q : (zFrost T i false (zFine T i (zPersons T (uz v 132 (v 132 + 1)) i))) (10 + i) < T 3 i
          · rw [if_pos q] at hr ⊢
            subst hr
            exact hR2.up (l_add (hR2 (30 + i) (by omega)) (show ((if (1 : Int32) = 0 then (0 : Int32) else 1) : Int32).toInt64.toInt = 1 from rfl) (by omega) (by omega))
          · rw [if_neg q] at hr ⊢
            subst hr
            have z := hR2.up (i := 30 + i) (l_add (hR2 (30 + i) (by omega)) (show ((if (0 : Int32) = 0 then (0 : Int32) else 1) : Int32).toInt64.toInt = 0 from rfl) (by omega) (by omega))
            rwa [uz_same (by omega)] at z
        have hF3 : MF X mw w3 := by rw [ew3]; exact hF2.up (by omega)
        refine ⟨T, Ns, Np, X, _, i, ⟨hT, hC, rfl, hX, hR3, rfl, hlt⟩, fun r2 hr2 y2 ey2 => ⟨⟨i + 1, by omega, rfl, ?_, by rw [e1]; exact hR3, hF3⟩, by omega⟩⟩
        rw [ey2, hr2, zCs, zCs_step hT hO1 hlt, e1]
        by_cases q : (zCold T i (zFrost T i false (zFine T i (zPersons T (uz v 132 (v 132 + 1)) i)))) (10 + i) < T 3 i
        · rw [if_pos q, if_pos q]; exact bit_or i (by omega) _ (zCs_lt T _ i)
        · rw [if_neg q, if_neg q]; exact bit_or0 i (by omega) _ (zCs_lt T _ i)
    · have hpos : 0 ≤ zPersons T (uz v 132 (v 132 + 1)) i (20 + i) := by
        have := mt (l_lt es (show (0 : Int64).toInt = 0 from rfl)).mpr hs
        omega
      obtain ⟨b, hb⟩ : ∃ b : Nat, zPersons T (uz v 132 (v 132 + 1)) i (20 + i) = (b : Int) := ⟨(zPersons T (uz v 132 (v 132 + 1)) i (20 + i)).toNat, by omega⟩
      have hbn : b < Ns := by omega
      have esb : (w (X + (20 + i))).toInt32 = nI b := by
        refine l_i ?_
        rw [es, hb, nI_toInt (by omega)]
      have hOs : NOK T Ns Np (kUp (fun q => if q < i then 2 * M + 2 else 2 * M) i) (M + 1) _ := zOwn_ok hT (zSit_ok hT hOi hlt hbn) hlt hbn
      have e1 : zPersons T (uz v 132 (v 132 + 1)) (i + 1) = zCold T i (zFrost T i true (zOwn i b (zSit T i b (zPersons T (uz v 132 (v 132 + 1)) i)))) := by
        rw [zPersons]; unfold zPerson; rw [if_pos (by omega), hb, Int.toNat_natCast]
      refine ⟨vS, T, Ns, Np, X, _, _, M + 1, i, b, ⟨hT, hC, rfl, hX, hRi, hOi, hB i, rfl, hlt, esb, hbn⟩, fun ws hws => ⟨v20, fun hk4 => ?_, fun hk4 => ?_⟩⟩
      · have n4 : ¬ T 2 i = 4 := fun z => hk4 (k4.mpr z)
        refine ⟨vW, fun y ey => ⟨vW, vW, fun w1 ew1 => ⟨vL, vL, fun w2 ew2 => ?_⟩⟩⟩
        have bY := (hOs.2.1 i hlt)
        have bL := hOs.2.2.2.2.2.2
        have bS : 0 ≤ zSum (zOwn i b (zSit T i b (zPersons T (uz v 132 (v 132 + 1)) i))) 0 Ns ∧ 0 ≤ zSum (zOwn i b (zSit T i b (zPersons T (uz v 132 (v 132 + 1)) i))) 10 Np := ⟨zSum_nn (fun j hj => by rw [Nat.zero_add]; exact (hOs.1 j hj).1), zSum_nn (fun j hj => (hOs.2.1 j hj).1.1)⟩
        have eF := i_l hfd
        have hFZ : frostZ (T 2 i) (T 4 0) (T 4 1) true = T 4 1 := by unfold frostZ; rw [if_neg n4]; rfl
        have fz := frostZ_bd (k := T 2 i) (s := true) t5.1 t5.2.1 t5.2.2.1 t5.2.2.2.1
        rw [← hFZ] at eF
        have hy : y.toInt = minZ (frostZ (T 2 i) (T 4 0) (T 4 1) true) ((zOwn i b (zSit T i b (zPersons T (uz v 132 (v 132 + 1)) i))) (10 + i)) := by rw [ey]; exact l_min eF (hws.1 (10 + i) (by omega))
        have mb := minZ_bd fz.1 bY.1.1
        have hR1 : MR X w1 (uz (zOwn i b (zSit T i b (zPersons T (uz v 132 (v 132 + 1)) i))) (10 + i) ((zOwn i b (zSit T i b (zPersons T (uz v 132 (v 132 + 1)) i))) (10 + i) - minZ (frostZ (T 2 i) (T 4 0) (T 4 1) true) ((zOwn i b (zSit T i b (zPersons T (uz v 132 (v 132 + 1)) i))) (10 + i)))) := by rw [ew1]; exact MR.up hws.1 (l_sub (hws.1 (10 + i) (by omega)) hy (by omega) (by omega))
        have hR2 : MR X w2 (zFrost T i true (zOwn i b (zSit T i b (zPersons T (uz v 132 (v 132 + 1)) i)))) := by
          rw [ew2]
          refine hR1.up (l_add ?_ hy (by omega) (by omega))
          rw [hR1 134 (by omega), uz_ne (by omega)]
        have hF2 : MF X mw w2 := by rw [ew2, ew1]; exact ((hFi.tr hws.2).up (by omega)).up (by omega)
        have hO2 := zFrost_ok hT hOs true hlt
        have bC := (hO2.2.1 i hlt).2.2.1
        refine ⟨vC, T, Ns, Np, X, _, i, ⟨hT, hC, rfl, hX, hR2, rfl, hlt⟩, fun r hr => ⟨vC, fun w3 ew3 => ?_⟩⟩
        have hR3 : MR X w3 (zCold T i (zFrost T i true (zOwn i b (zSit T i b (zPersons T (uz v 132 (v 132 + 1)) i))))) := by
          rw [ew3]
          unfold zCold
          by_cases q : (zFrost T i true (zOwn i b (zSit T i b (zPersons T (uz v 132 (v 132 + 1)) i)))) (10 + i) < T 3 i
          · rw [if_pos q] at hr ⊢
            subst hr
            exact hR2.up (l_add (hR2 (30 + i) (by omega)) (show ((if (1 : Int32) = 0 then (0 : Int32) else 1) : Int32).toInt64.toInt = 1 from rfl) (by omega) (by omega))
          · rw [if_neg q] at hr ⊢
            subst hr
            have z := hR2.up (i := 30 + i) (l_add (hR2 (30 + i) (by omega)) (show ((if (0 : Int32) = 0 then (0 : Int32) else 1) : Int32).toInt64.toInt = 0 from rfl) (by omega) (by omega))
            rwa [uz_same (by omega)] at z
        have hF3 : MF X mw w3 := by rw [ew3]; exact hF2.up (by omega)
        refine ⟨T, Ns, Np, X, _, i, ⟨hT, hC, rfl, hX, hR3, rfl, hlt⟩, fun r2 hr2 y2 ey2 => ⟨⟨i + 1, by omega, rfl, ?_, by rw [e1]; exact hR3, hF3⟩, by omega⟩⟩
        rw [ey2, hr2, zCs, zCs_step hT hO1 hlt, e1]
        by_cases q : (zCold T i (zFrost T i true (zOwn i b (zSit T i b (zPersons T (uz v 132 (v 132 + 1)) i))))) (10 + i) < T 3 i
        · rw [if_pos q, if_pos q]; exact bit_or i (by omega) _ (zCs_lt T _ i)
        · rw [if_neg q, if_neg q]; exact bit_or0 i (by omega) _ (zCs_lt T _ i)
      · have n4 : T 2 i = 4 := k4.mp hk4
        refine ⟨vW, fun y ey => ⟨vW, vW, fun w1 ew1 => ⟨vL, vL, fun w2 ew2 => ?_⟩⟩⟩
        have bY := (hOs.2.1 i hlt)
        have bL := hOs.2.2.2.2.2.2
        have bS : 0 ≤ zSum (zOwn i b (zSit T i b (zPersons T (uz v 132 (v 132 + 1)) i))) 0 Ns ∧ 0 ≤ zSum (zOwn i b (zSit T i b (zPersons T (uz v 132 (v 132 + 1)) i))) 10 Np := ⟨zSum_nn (fun j hj => by rw [Nat.zero_add]; exact (hOs.1 j hj).1), zSum_nn (fun j hj => (hOs.2.1 j hj).1.1)⟩
        have eF := (i_l (i_div hfu (show (2 : Int32).toInt = 2 from rfl) (by omega)) : (fu / 2).toInt64.toInt = dvZ (T 4 0) 2)
        have hFZ : frostZ (T 2 i) (T 4 0) (T 4 1) true = dvZ (T 4 0) 2 := by unfold frostZ dvZ; rw [if_pos n4, if_pos t5.1]
        have fz := frostZ_bd (k := T 2 i) (s := true) t5.1 t5.2.1 t5.2.2.1 t5.2.2.2.1
        rw [← hFZ] at eF
        have hy : y.toInt = minZ (frostZ (T 2 i) (T 4 0) (T 4 1) true) ((zOwn i b (zSit T i b (zPersons T (uz v 132 (v 132 + 1)) i))) (10 + i)) := by rw [ey]; exact l_min eF (hws.1 (10 + i) (by omega))
        have mb := minZ_bd fz.1 bY.1.1
        have hR1 : MR X w1 (uz (zOwn i b (zSit T i b (zPersons T (uz v 132 (v 132 + 1)) i))) (10 + i) ((zOwn i b (zSit T i b (zPersons T (uz v 132 (v 132 + 1)) i))) (10 + i) - minZ (frostZ (T 2 i) (T 4 0) (T 4 1) true) ((zOwn i b (zSit T i b (zPersons T (uz v 132 (v 132 + 1)) i))) (10 + i)))) := by rw [ew1]; exact MR.up hws.1 (l_sub (hws.1 (10 + i) (by omega)) hy (by omega) (by omega))
        have hR2 : MR X w2 (zFrost T i true (zOwn i b (zSit T i b (zPersons T (uz v 132 (v 132 + 1)) i)))) := by
          rw [ew2]
          refine hR1.up (l_add ?_ hy (by omega) (by omega))
          rw [hR1 134 (by omega), uz_ne (by omega)]
        have hF2 : MF X mw w2 := by rw [ew2, ew1]; exact ((hFi.tr hws.2).up (by omega)).up (by omega)
        have hO2 := zFrost_ok hT hOs true hlt
        have bC := (hO2.2.1 i hlt).2.2.1
        refine ⟨vC, T, Ns, Np, X, _, i, ⟨hT, hC, rfl, hX, hR2, rfl, hlt⟩, fun r hr => ⟨vC, fun w3 ew3 => ?_⟩⟩
        have hR3 : MR X w3 (zCold T i (zFrost T i true (zOwn i b (zSit T i b (zPersons T (uz v 132 (v 132 + 1)) i))))) := by
          rw [ew3]
          unfold zCold
          by_cases q : (zFrost T i true (zOwn i b (zSit T i b (zPersons T (uz v 132 (v 132 + 1)) i)))) (10 + i) < T 3 i
          · rw [if_pos q] at hr ⊢
            subst hr
            exact hR2.up (l_add (hR2 (30 + i) (by omega)) (show ((if (1 : Int32) = 0 then (0 : Int32) else 1) : Int32).toInt64.toInt = 1 from rfl) (by omega) (by omega))
          · rw [if_neg q] at hr ⊢
            subst hr
            have z := hR2.up (i := 30 + i) (l_add (hR2 (30 + i) (by omega)) (show ((if (0 : Int32) = 0 then (0 : Int32) else 1) : Int32).toInt64.toInt = 0 from rfl) (by omega) (by omega))
            rwa [uz_same (by omega)] at z
        have hF3 : MF X mw w3 := by rw [ew3]; exact hF2.up (by omega)
        refine ⟨T, Ns, Np, X, _, i, ⟨hT, hC, rfl, hX, hR3, rfl, hlt⟩, fun r2 hr2 y2 ey2 => ⟨⟨i + 1, by omega, rfl, ?_, by rw [e1]; exact hR3, hF3⟩, by omega⟩⟩
        rw [ey2, hr2, zCs, zCs_step hT hO1 hlt, e1]
        by_cases q : (zCold T i (zFrost T i true (zOwn i b (zSit T i b (zPersons T (uz v 132 (v 132 + 1)) i))))) (10 + i) < T 3 i
        · rw [if_pos q, if_pos q]; exact bit_or i (by omega) _ (zCs_lt T _ i)
        · rw [if_neg q, if_neg q]; exact bit_or0 i (by omega) _ (zCs_lt T _ i)
theorem k_X8_pass (l : Launch) (G : Gt) (m0 m1 m2 m3 m4 m5 m6 m7 m8 m9 m10 m11 m12 m13 m14 : Nat) (sz : Nat) (mw : Nat → Int64) (ik : Nat → Int32) (zs : Nat → Int32) (cl : Nat → Int32) (hs : Nat → Int32) (ks : Nat → Int32) (wa : Nat → Int32) (ne : Nat → Int32) (mn : Nat → Int32) (tx : Nat → Int32) (th : Nat → Int32) (od : Nat → Int32) (bk : Nat → Int32) (bh : Nat → Int32) (fu : Int32) (fd : Int32) (fi : Int32) (nu : Int32) (nw : Int32) (nf : Int32) (bf : Int32) (bn : Int32) (ts : Int32) (ap : Int32) (fs : Int32) (ln : Int32) (fo : Int32) (fa : Int32) (wr : Int32) (x : Int32) (T : Nat → Nat → Int) (Ns : Nat) (Np : Nat) (X : Nat) (v : Nat → Int) (M : Int) (hp : TOK T Ns Np ∧ MT T Ns Np fu fd fi zs cl ks ne mn ∧ x = nI X ∧ X + 140 ≤ 560 ∧ MR X mw v ∧ NOK T Ns Np (fun _ => 2 * M) M v ∧ M ≤ 1000000) : MetI l yX8_pass wsX8_pass 3 75 G [.ref m0, .int x] [(m0, .inr (8, [.ref m1, .ref m2, .ref m3, .ref m4, .ref m5, .ref m6, .ref m7, .ref m8, .ref m9, .int fu, .int fd, .int fi, .int nu, .int nw, .int nf, .int bf, .int bn, .ref m10, .int ts, .int ap, .int fs, .int ln, .int fo, .int fa, .ref m11, .ref m12, .ref m13, .ref m14, .int wr])), aJ G m1 560 mw, aZ G m2 2 ik, aI G m3 20 zs, aI G m4 20 cl, aI G m5 20 hs, aI G m6 20 ks, aI G m7 20 wa, aI G m8 20 ne, aI G m9 4 mn, aI G m10 400 tx, aI G m11 6 th, aI G m12 6 od, aI G m13 30 bk, aI G m14 30 bh] sz (fun (r : Int32) (u : (Nat → Int64)) => r = nI (zCs T (zPass T Ns Np v) Np) ∧ MR X u (zPass T Ns Np v) ∧ MF X mw u) (fun (u : (Nat → Int64)) => [(m0, .inr (8, [.ref m1, .ref m2, .ref m3, .ref m4, .ref m5, .ref m6, .ref m7, .ref m8, .ref m9, .int fu, .int fd, .int fi, .int nu, .int nw, .int nf, .int bf, .int bn, .ref m10, .int ts, .int ap, .int fs, .int ln, .int fo, .int fa, .ref m11, .ref m12, .ref m13, .ref m14, .int wr])), aJ G m1 560 u, aZ G m2 2 ik, aI G m3 20 zs, aI G m4 20 cl, aI G m5 20 hs, aI G m6 20 ks, aI G m7 20 wa, aI G m8 20 ne, aI G m9 4 mn, aI G m10 400 tx, aI G m11 6 th, aI G m12 6 od, aI G m13 30 bk, aI G m14 30 bh]) :=
  c_X8_pass l G m0 m1 m2 m3 m4 m5 m6 m7 m8 m9 m10 m11 m12 m13 m14 sz mw ik zs cl hs ks wa ne mn tx th od bk bh fu fd fi nu nw nf bf bn ts ap fs ln fo fa wr x T Ns Np X v M (v_X8_pass l G m0 m1 m2 m3 m4 m5 m6 m7 m8 m9 m10 m11 m12 m13 m14 sz mw ik zs cl hs ks wa ne mn tx th od bk bh fu fd fi nu nw nf bf bn ts ap fs ln fo fa wr x T Ns Np X v M hp)
