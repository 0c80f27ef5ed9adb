set_option maxHeartbeats 4000000 in
set_option maxRecDepth 100000 in
theorem c_X8_in (l : Launch) (G : Gt) (sz : Nat) (x : Int64) (y : Int64) (z : Int64) (hv : (x < y → (0 : Int32) = (if ¬ x < y ∧ ¬ z < x then 1 else 0)) ∧ (¬ (x < y) → (z < x → (0 : Int32) = (if ¬ x < y ∧ ¬ z < x then 1 else 0)) ∧ (¬ (z < x) → (1 : Int32) = (if ¬ x < y ∧ ¬ z < x then 1 else 0)))) : MetI l yX8_in wsX8_in 0 0 G [.long x, .long y, .long z] [] sz (fun (r : Int32) (_ : Unit) => (r : Int32) = (if ¬ x < y ∧ ¬ z < x then 1 else 0)) (fun (_ : Unit) => []) := by
  refine x_startI (cc := cX8_in) (maxL := 6) (ret := (some .boolean)) (by decide) rfl (Nat.le_of_ble_eq_true rfl) ?_
  intro p e s m args below meth c A R Q ls hRf hRl hQ C hP hD hS hA hSS hl
  obtain ⟨hx, hb, hr, hml, hown, hts, hlocks, hKK⟩ := C
  have hown : s.vm.findClass RX8 = some m.cls := hown
  have hl : lv_has ls 6 [(0, .long x), (2, .long y), (4, .long z)] := hl
  refine lv_lload_n hx hb dX8_in_0 rfl (lv_at hl 0 rfl) ?_
  refine lv_lload_n hx hb dX8_in_1 rfl (lv_at hl 1 rfl) ?_
  refine W.lcmp hx hb dX8_in_2 ?_
  refine lv_if_lt (tgt := 17) hx hb dX8_in_3 (by decide) (fun hc_1 => ?_) (fun hc_1 => ?_)
  · have hv := hv.1 ((lg_cmp_lt _ _).mp hc_1)
    refine lv_iconst (v := 0) hx hb dX8_in_17 (by decide) ?_
    exact x_zret (v := 0) () hQ hx hb hr hlocks hS dX8_in_18 rfl hv hP hD
  · have hv := hv.2 (fun h => hc_1 ((lg_cmp_lt _ _).mpr h))
    refine lv_lload_n hx hb dX8_in_6 rfl (lv_at hl 0 rfl) ?_
    refine lv_lload hx hb dX8_in_7 (lv_at hl 2 rfl) ?_
    refine W.lcmp hx hb dX8_in_9 ?_
    refine lv_if_gt (tgt := 17) hx hb dX8_in_10 (by decide) (fun hc_2 => ?_) (fun hc_2 => ?_)
    · have hv := hv.1 ((lg_cmp_gt _ _).mp hc_2)
      refine lv_iconst (v := 0) hx hb dX8_in_17 (by decide) ?_
      exact x_zret (v := 0) () hQ hx hb hr hlocks hS dX8_in_18 rfl hv hP hD
    · have hv := hv.2 (fun h => hc_2 ((lg_cmp_gt _ _).mpr h))
      refine lv_iconst (v := 1) hx hb dX8_in_13 (by decide) ?_
      refine lv_goto (tgt := 18) hx hb dX8_in_14 (by decide) ?_
      exact x_zret (v := 1) () hQ hx hb hr hlocks hS dX8_in_18 rfl hv hP hD
theorem k_X8_in (l : Launch) (G : Gt) (sz : Nat) (x : Int64) (y : Int64) (z : Int64) : MetI l yX8_in wsX8_in 0 0 G [.long x, .long y, .long z] [] sz (fun (r : Int32) (_ : Unit) => (r : Int32) = (if ¬ x < y ∧ ¬ z < x then 1 else 0)) (fun (_ : Unit) => []) :=
  c_X8_in l G  sz x y z (by
    simp_all)

set_option maxHeartbeats 4000000 in
set_option maxRecDepth 100000 in
theorem c_X8_one (l : Launch) (G : Gt) (sz : Nat) (x : Int32) (hv : (x = 0 → (0 : Int32) = (if x = 0 then 0 else 1)) ∧ (¬ (x = 0) → (1 : Int32) = (if x = 0 then 0 else 1))) : MetI l yX8_one wsX8_one 0 0 G [.int x] [] sz (fun (r : Int32) (_ : Unit) => (r : Int32) = (if x = 0 then 0 else 1)) (fun (_ : Unit) => []) := by
  refine x_startI (cc := cX8_one) (maxL := 1) (ret := (some .int)) (by decide) rfl (Nat.le_of_ble_eq_true rfl) ?_
  intro p e s m args below meth c A R Q ls hRf hRl hQ C hP hD hS hA hSS hl
  obtain ⟨hx, hb, hr, hml, hown, hts, hlocks, hKK⟩ := C
  have hown : s.vm.findClass RX8 = some m.cls := hown
  have hl : lv_has ls 1 [(0, .int x)] := hl
  refine lv_iload_n hx hb dX8_one_0 rfl (lv_at hl 0 rfl) ?_
  refine lv_if_eq (tgt := 8) hx hb dX8_one_1 (by decide) (fun hc_1 => ?_) (fun hc_1 => ?_)
  · have hv := hv.1 hc_1
    refine lv_iconst (v := 0) hx hb dX8_one_8 (by decide) ?_
    exact x_iret (v := 0) () hQ hx hb hr hlocks hS dX8_one_9 hv hP hD
  · have hv := hv.2 hc_1
    refine lv_iconst (v := 1) hx hb dX8_one_4 (by decide) ?_
    refine lv_goto (tgt := 9) hx hb dX8_one_5 (by decide) ?_
    exact x_iret (v := 1) () hQ hx hb hr hlocks hS dX8_one_9 hv hP hD
theorem k_X8_one (l : Launch) (G : Gt) (sz : Nat) (x : Int32) : MetI l yX8_one wsX8_one 0 0 G [.int x] [] sz (fun (r : Int32) (_ : Unit) => (r : Int32) = (if x = 0 then 0 else 1)) (fun (_ : Unit) => []) :=
  c_X8_one l G  sz x (by
    simp_all)

set_option maxHeartbeats 4000000 in
set_option maxRecDepth 100000 in
theorem c_X8_greater (l : Launch) (G : Gt) (sz : Nat) (x : Int64) (y : Int64) (hv : (x ≤ y → (y : Int64) = (if y < x then x else y)) ∧ (¬ (x ≤ y) → (x : Int64) = (if y < x then x else y))) : MetL l yX8_greater wsX8_greater 0 0 G [.long x, .long y] [] sz (fun (r : Int64) (_ : Unit) => (r : Int64) = (if y < x then x else y)) (fun (_ : Unit) => []) := by
  refine x_startL (cc := cX8_greater) (maxL := 4) (ret := (some .long)) (by decide) rfl (Nat.le_of_ble_eq_true rfl) ?_
  intro p e s m args below meth c A R Q ls hRf hRl hQ C hP hD hS hA hSS hl
  obtain ⟨hx, hb, hr, hml, hown, hts, hlocks, hKK⟩ := C
  have hown : s.vm.findClass RX8 = some m.cls := hown
  have hl : lv_has ls 4 [(0, .long x), (2, .long y)] := hl
  refine lv_lload_n hx hb dX8_greater_0 rfl (lv_at hl 0 rfl) ?_
  refine lv_lload_n hx hb dX8_greater_1 rfl (lv_at hl 1 rfl) ?_
  refine W.lcmp hx hb dX8_greater_2 ?_
  refine lv_if_le (tgt := 10) hx hb dX8_greater_3 (by decide) (fun hc_1 => ?_) (fun hc_1 => ?_)
  · have hv := hv.1 ((lg_cmp_le _ _).mp hc_1)
    refine lv_lload_n hx hb dX8_greater_10 rfl (lv_at hl 1 rfl) ?_
    exact x_lret (v := y) () hQ hx hb hr hlocks hS dX8_greater_11 hv hP hD
  · have hv := hv.2 (fun h => hc_1 ((lg_cmp_le _ _).mpr h))
    refine lv_lload_n hx hb dX8_greater_6 rfl (lv_at hl 0 rfl) ?_
    refine lv_goto (tgt := 11) hx hb dX8_greater_7 (by decide) ?_
    exact x_lret (v := x) () hQ hx hb hr hlocks hS dX8_greater_11 hv hP hD
theorem k_X8_greater (l : Launch) (G : Gt) (sz : Nat) (x : Int64) (y : Int64) : MetL l yX8_greater wsX8_greater 0 0 G [.long x, .long y] [] sz (fun (r : Int64) (_ : Unit) => (r : Int64) = (if y < x then x else y)) (fun (_ : Unit) => []) :=
  c_X8_greater l G  sz x y (by
    refine ⟨fun h => ?_, fun h => ?_⟩
    · rw [if_neg (Int64.not_lt.mpr h)]
    · rw [if_pos (Int64.not_le.mp h)])

set_option maxHeartbeats 4000000 in
set_option maxRecDepth 100000 in
theorem c_X8_less (l : Launch) (G : Gt) (sz : Nat) (x : Int64) (y : Int64) (hv : (y ≤ x → (y : Int64) = (if x < y then x else y)) ∧ (¬ (y ≤ x) → (x : Int64) = (if x < y then x else y))) : MetL l yX8_less wsX8_less 0 0 G [.long x, .long y] [] sz (fun (r : Int64) (_ : Unit) => (r : Int64) = (if x < y then x else y)) (fun (_ : Unit) => []) := by
  refine x_startL (cc := cX8_less) (maxL := 4) (ret := (some .long)) (by decide) rfl (Nat.le_of_ble_eq_true rfl) ?_
  intro p e s m args below meth c A R Q ls hRf hRl hQ C hP hD hS hA hSS hl
  obtain ⟨hx, hb, hr, hml, hown, hts, hlocks, hKK⟩ := C
  have hown : s.vm.findClass RX8 = some m.cls := hown
  have hl : lv_has ls 4 [(0, .long x), (2, .long y)] := hl
  refine lv_lload_n hx hb dX8_less_0 rfl (lv_at hl 0 rfl) ?_
  refine lv_lload_n hx hb dX8_less_1 rfl (lv_at hl 1 rfl) ?_
  refine W.lcmp hx hb dX8_less_2 ?_
  refine lv_if_ge (tgt := 10) hx hb dX8_less_3 (by decide) (fun hc_1 => ?_) (fun hc_1 => ?_)
  · have hv := hv.1 ((lg_cmp_ge _ _).mp hc_1)
    refine lv_lload_n hx hb dX8_less_10 rfl (lv_at hl 1 rfl) ?_
    exact x_lret (v := y) () hQ hx hb hr hlocks hS dX8_less_11 hv hP hD
  · have hv := hv.2 (fun h => hc_1 ((lg_cmp_ge _ _).mpr h))
    refine lv_lload_n hx hb dX8_less_6 rfl (lv_at hl 0 rfl) ?_
    refine lv_goto (tgt := 11) hx hb dX8_less_7 (by decide) ?_
    exact x_lret (v := x) () hQ hx hb hr hlocks hS dX8_less_11 hv hP hD
theorem k_X8_less (l : Launch) (G : Gt) (sz : Nat) (x : Int64) (y : Int64) : MetL l yX8_less wsX8_less 0 0 G [.long x, .long y] [] sz (fun (r : Int64) (_ : Unit) => (r : Int64) = (if x < y then x else y)) (fun (_ : Unit) => []) :=
  c_X8_less l G  sz x y (by
    refine ⟨fun h => ?_, fun h => ?_⟩
    · rw [if_neg (Int64.not_lt.mpr h)]
    · rw [if_pos (Int64.not_le.mp h)])

set_option maxHeartbeats 4000000 in
set_option maxRecDepth 100000 in
theorem c_X8_feed (l : Launch) (G : Gt) (m0 m1 m2 m3 m4 m5 m6 m7 m8 m9 m10 m11 m12 m13 m14 : Nat) (sz : Nat) (mw : Nat → Int64) (ik : Nat → Int32) (zs : Nat → Int32) (cl : Nat → Int32) (hs : Nat → Int32) (ks : Nat → Int32) (wa : Nat → Int32) (ne : Nat → Int32) (mn : Nat → Int32) (tx : Nat → Int32) (th : Nat → Int32) (od : Nat → Int32) (bk : Nat → Int32) (bh : Nat → Int32) (fu : Int32) (fd : Int32) (fi : Int32) (nu : Int32) (nw : Int32) (nf : Int32) (bf : Int32) (bn : Int32) (ts : Int32) (ap : Int32) (fs : Int32) (ln : Int32) (fo : Int32) (fa : Int32) (wr : Int32) (x : Int32) (y : Int64) (hv : (¬ x.toInt64 < 1 ∧ ¬ 8 < x.toInt64 → ((ts + x) ≤ 400 → ∀ (y_4 : Int32), (y_4 = (x - 1)) → (∃ (I35_8 : (Nat → Int32) → Int32 → Int32 → Prop) (μ35_9 : (Nat → Int32) → Int32 → Int32 → Nat), I35_8 tx ts y_4 ∧ (∀ (fm10_5 : (Nat → Int32)) (gm018_6 : Int32) (x4_7 : Int32), I35_8 fm10_5 gm018_6 x4_7 → (x4_7 < 0 → True) ∧ (¬ (x4_7 < 0) → (vp_in gm018_6 400) ∧ (∀ (fm10_13 : (Nat → Int32)), (fm10_13 = (upd fm10_5 gm018_6.toNatClampNeg (((y >>> (((8 * x4_7) : Int32).toInt64 &&& 63)) &&& 255).toInt32))) → (I35_8 fm10_13 (gm018_6 + 1) (x4_7 + (-1)) ∧ μ35_9 fm10_13 (gm018_6 + 1) (x4_7 + (-1)) < μ35_9 fm10_5 gm018_6 x4_7)))))) ∧ (¬ ((ts + x) ≤ 400) → True)) ∧ (¬ (¬ x.toInt64 < 1 ∧ ¬ 8 < x.toInt64) → True)) : MetI l yX8_feed wsX8_feed 1 25 G [.ref m0, .int x, .long y] [(m0, .inr (8, [.ref m1, .ref m2, .ref m3, .ref m4, .ref m5, .ref m6, .ref m7, .ref m8, .ref m9, .int fu, .int fd, .int fi, .int nu, .int nw, .int nf, .int bf, .int bn, .ref m10, .int ts, .int ap, .int fs, .int ln, .int fo, .int fa, .ref m11, .ref m12, .ref m13, .ref m14, .int wr])), aJ G m1 560 mw, aZ G m2 2 ik, aI G m3 20 zs, aI G m4 20 cl, aI G m5 20 hs, aI G m6 20 ks, aI G m7 20 wa, aI G m8 20 ne, aI G m9 4 mn, aI G m10 400 tx, aI G m11 6 th, aI G m12 6 od, aI G m13 30 bk, aI G m14 30 bh] sz (fun (r : Int32) (u : (Nat → Int32) × (Int32)) => True) (fun (u : (Nat → Int32) × (Int32)) => [(m0, .inr (8, [.ref m1, .ref m2, .ref m3, .ref m4, .ref m5, .ref m6, .ref m7, .ref m8, .ref m9, .int fu, .int fd, .int fi, .int nu, .int nw, .int nf, .int bf, .int bn, .ref m10, .int u.2, .int ap, .int fs, .int ln, .int fo, .int fa, .ref m11, .ref m12, .ref m13, .ref m14, .int wr])), aJ G m1 560 mw, aZ G m2 2 ik, aI G m3 20 zs, aI G m4 20 cl, aI G m5 20 hs, aI G m6 20 ks, aI G m7 20 wa, aI G m8 20 ne, aI G m9 4 mn, aI G m10 400 u.1, aI G m11 6 th, aI G m12 6 od, aI G m13 30 bk, aI G m14 30 bh]) := by
  refine x_startI (cc := cX8_feed) (maxL := 5) (ret := (some .int)) (by decide) rfl (Nat.le_of_ble_eq_true rfl) ?_
  intro p e s m args below meth c A R Q ls hRf hRl hQ C hP hD hS hA hSS hl
  obtain ⟨hx, hb, hr, hml, hown, hts, hlocks, hKK⟩ := C
  have hown : s.vm.findClass RX8 = some m.cls := hown
  have hl : lv_has ls 5 [(0, .ref m0), (1, .int x), (2, .long y)] := hl
  have hinX8 : ∀ w ∈ u_ws RX8 TX8 29, w ∈ wsX8_feed := by decide +kernel
  have kl46 := hts (.fieldLink RX8 46 "WarmStonesModel" "text" "[I") (by decide +kernel)
  have kl67 := hts (.constantLong RX8 67 (8)) (by decide +kernel)
  have kl73 := hts (.constant RX8 73 (-1000000002)) (by decide +kernel)
  have kl74 := hts (.fieldLink RX8 74 "WarmStonesModel" "textSize" "I") (by decide +kernel)
  have kl77 := hts (.constant RX8 77 (-1000000004)) (by decide +kernel)
  have kl78 := hts (.constantLong RX8 78 (255)) (by decide +kernel)
  refine lv_iload_n hx hb dX8_feed_0 rfl (lv_at hl 1 rfl) ?_
  refine lv_i2l hx hb dX8_feed_1 rfl ?_
  refine lv_lconst (v := 1) hx hb dX8_feed_2 (by decide) ?_
  refine lv_ldc2 (v := 8) hx hb hown kl67 dX8_feed_3 ?_
  refine x_calliR (x_runS (As := [.long x.toInt64, .long 1, .long 8]) (rest := []) (n := 3) ⟨hx, hb, hml, hown, hts⟩ (k_X8_in l G  _ x.toInt64 1 8) gX8_feed_X8_in rfl (by decide +kernel) ⟨Nat.le_trans (Nat.le_of_ble_eq_true rfl) hRf, Nat.le_trans (Nat.le_of_ble_eq_true rfl) hRl⟩ hKK hSS hS hA hP hD [] (by decide) rfl rfl hl.1 rfl (Nat.le_of_ble_eq_true rfl) dX8_feed_6) hP hD hS hA [] rfl (fun r_1 _ H locs hw hP hS => ?_)
  replace hw := hw.symm; subst hw
  refine lv_if_ne (tgt := 15) hx hb dX8_feed_9 (by decide) (fun hc_2 => ?_) (fun hc_2 => ?_)
  · have hv := hv.1 (tv_eqn.mp hc_2)
    refine lv_aload_n hx hb dX8_feed_15 rfl (lv_at hl 0 rfl) ?_
    refine va_get (D := G.1) (ci := 8) (v := .int ts) (C := RX8) (T := TX8) (N := 29) hx hb hts hinX8 hown hKK.1 hP 0 rfl rfl 18 (by decide) kl74 (fun _ h9 => h9) rfl dX8_feed_16 ?_
    refine lv_iload_n hx hb dX8_feed_19 rfl (lv_at hl 1 rfl) ?_
    refine lv_iadd hx hb dX8_feed_20 ?_
    refine lv_sipush (v := 400) hx hb dX8_feed_21 (by decide) ?_
    refine lv_icmp_le (tgt := 30) hx hb dX8_feed_24 (by decide) (fun hc_3 => ?_) (fun hc_3 => ?_)
    · have hv := hv.1 hc_3
      refine lv_iload_n hx hb dX8_feed_30 rfl (lv_at hl 1 rfl) ?_
      refine lv_iconst (v := 1) hx hb dX8_feed_31 (by decide) ?_
      refine lv_isub hx hb dX8_feed_32 ?_
      refine lv_topi (fun y_4 ey => ?_)
      have hv := hv y_4 ey
      refine lv_istore (lv' := [(4, .int y_4), (0, .ref m0), (1, .int x), (2, .long y)]) hx hb dX8_feed_33 hl (by decide) rfl (fun ls hl => ?_)
      obtain ⟨I35_8, μ35_9, hi0, hs_14⟩ := hv
      have Lm_16 : ∀ (n_15 : Nat) (fm10_5 : (Nat → Int32)) (gm018_6 : Int32) (x4_7 : Int32) (H : Heap) (locs : List Loc) (ls : Array Slot), μ35_9 fm10_5 gm018_6 x4_7 < n_15 → I35_8 fm10_5 gm018_6 x4_7 → va_P G.1 vwCl [(m0, .inr (8, [.ref m1, .ref m2, .ref m3, .ref m4, .ref m5, .ref m6, .ref m7, .ref m8, .ref m9, .int fu, .int fd, .int fi, .int nu, .int nw, .int nf, .int bf, .int bn, .ref m10, .int gm018_6, .int ap, .int fs, .int ln, .int fo, .int fa, .ref m11, .ref m12, .ref m13, .ref m14, .int wr])), aJ G m1 560 mw, aZ G m2 2 ik, aI G m3 20 zs, aI G m4 20 cl, aI G m5 20 hs, aI G m6 20 ks, aI G m7 20 wa, aI G m8 20 ne, aI G m9 4 mn, aI G m10 400 fm10_5, aI G m11 6 th, aI G m12 6 od, aI G m13 30 bk, aI G m14 30 bh] H → va_D A [(m0, .inr (8, [.ref m1, .ref m2, .ref m3, .ref m4, .ref m5, .ref m6, .ref m7, .ref m8, .ref m9, .int fu, .int fd, .int fi, .int nu, .int nw, .int nf, .int bf, .int bn, .ref m10, .int gm018_6, .int ap, .int fs, .int ln, .int fo, .int fa, .ref m11, .ref m12, .ref m13, .ref m14, .int wr])), aJ G m1 560 mw, aZ G m2 2 ik, aI G m3 20 zs, aI G m4 20 cl, aI G m5 20 hs, aI G m6 20 ks, aI G m7 20 wa, aI G m8 20 ne, aI G m9 4 mn, aI G m10 400 fm10_5, aI G m11 6 th, aI G m12 6 od, aI G m13 30 bk, aI G m14 30 bh] → va_S A s.heap H locs → lv_has ls 5 [(4, .int x4_7), (0, .ref m0), (1, .int x), (2, .long y)] → W p l e R s m args below meth c H locs 0 0 Q (F0 m 35 ls []) := by
        intro n_15
        induction n_15 with
        | zero => intro fm10_5 gm018_6 x4_7 H locs ls hm; exact absurd hm (Nat.not_lt_zero _)
        | succ n_15 ih_10 =>
          intro fm10_5 gm018_6 x4_7 H locs ls hI_11 hi hP hD hS hl
          have hv := hs_14 fm10_5 gm018_6 x4_7 hi
          refine lv_iload hx hb dX8_feed_35 (lv_at hl 0 rfl) ?_
          refine lv_if_lt (tgt := 77) hx hb dX8_feed_37 (by decide) (fun hc_12 => ?_) (fun hc_12 => ?_)
          · have hv := hv.1 hc_12
            refine lv_aload_n hx hb dX8_feed_77 rfl (lv_at hl 1 rfl) ?_
            refine va_get (D := G.1) (ci := 8) (v := .int gm018_6) (C := RX8) (T := TX8) (N := 29) hx hb hts hinX8 hown hKK.1 hP 0 rfl rfl 18 (by decide) kl74 (fun _ h9 => h9) rfl dX8_feed_78 ?_
            exact x_iret (v := gm018_6) (fm10_5, gm018_6) hQ hx hb hr hlocks hS dX8_feed_81 hv hP hD
          · have hv := hv.2 hc_12
            refine lv_aload_n hx hb dX8_feed_40 rfl (lv_at hl 1 rfl) ?_
            refine va_get (D := G.1) (ci := 8) (v := .ref m10) (C := RX8) (T := TX8) (N := 29) hx hb hts hinX8 hown hKK.1 hP 0 rfl rfl 17 (by decide) kl46 (fun _ h9 => h9) rfl dX8_feed_41 ?_
            refine lv_aload_n hx hb dX8_feed_44 rfl (lv_at hl 1 rfl) ?_
            refine va_get (D := G.1) (ci := 8) (v := .int gm018_6) (C := RX8) (T := TX8) (N := 29) hx hb hts hinX8 hown hKK.1 hP 0 rfl rfl 18 (by decide) kl74 (fun _ h9 => h9) rfl dX8_feed_45 ?_
            refine lv_lload_n hx hb dX8_feed_48 rfl (lv_at hl 3 rfl) ?_
            refine lv_bipush (v := 8) hx hb dX8_feed_49 (by decide) ?_
            refine lv_iload hx hb dX8_feed_51 (lv_at hl 0 rfl) ?_
            refine lv_imul hx hb dX8_feed_53 ?_
            refine lv_lshr hx hb dX8_feed_54 rfl ?_
            refine lv_ldc2 (v := 255) hx hb hown kl78 dX8_feed_55 ?_
            refine lv_land hx hb dX8_feed_58 ?_
            refine lv_l2i hx hb dX8_feed_59 rfl ?_
            obtain ⟨hin, hv⟩ := hv
            refine va_iast hx hb hKK.1 hP hD hS 10 0 rfl rfl hin dX8_feed_60 (fun H locs hP hD hS => ?_)
            obtain ⟨fm10_13, ef⟩ : ∃ z9_, z9_ = (upd fm10_5 gm018_6.toNatClampNeg (((y >>> (((8 * x4_7) : Int32).toInt64 &&& 63)) &&& 255).toInt32)) := ⟨_, rfl⟩
            have hP : va_P G.1 vwCl [(m0, .inr (8, [.ref m1, .ref m2, .ref m3, .ref m4, .ref m5, .ref m6, .ref m7, .ref m8, .ref m9, .int fu, .int fd, .int fi, .int nu, .int nw, .int nf, .int bf, .int bn, .ref m10, .int gm018_6, .int ap, .int fs, .int ln, .int fo, .int fa, .ref m11, .ref m12, .ref m13, .ref m14, .int wr])), aJ G m1 560 mw, aZ G m2 2 ik, aI G m3 20 zs, aI G m4 20 cl, aI G m5 20 hs, aI G m6 20 ks, aI G m7 20 wa, aI G m8 20 ne, aI G m9 4 mn, aI G m10 400 fm10_13, aI G m11 6 th, aI G m12 6 od, aI G m13 30 bk, aI G m14 30 bh] H := by rw [ef]; exact hP
            have hD : va_D A [(m0, .inr (8, [.ref m1, .ref m2, .ref m3, .ref m4, .ref m5, .ref m6, .ref m7, .ref m8, .ref m9, .int fu, .int fd, .int fi, .int nu, .int nw, .int nf, .int bf, .int bn, .ref m10, .int gm018_6, .int ap, .int fs, .int ln, .int fo, .int fa, .ref m11, .ref m12, .ref m13, .ref m14, .int wr])), aJ G m1 560 mw, aZ G m2 2 ik, aI G m3 20 zs, aI G m4 20 cl, aI G m5 20 hs, aI G m6 20 ks, aI G m7 20 wa, aI G m8 20 ne, aI G m9 4 mn, aI G m10 400 fm10_13, aI G m11 6 th, aI G m12 6 od, aI G m13 30 bk, aI G m14 30 bh] := by rw [ef]; exact hD
            have hv := hv fm10_13 ef
            refine lv_aload_n hx hb dX8_feed_61 rfl (lv_at hl 1 rfl) ?_
            refine lv_dup hx hb dX8_feed_62 rfl ?_
            refine va_get (D := G.1) (ci := 8) (v := .int gm018_6) (C := RX8) (T := TX8) (N := 29) hx hb hts hinX8 hown hKK.1 hP 0 rfl rfl 18 (by decide) kl74 (fun _ h9 => h9) rfl dX8_feed_63 ?_
            refine lv_iconst (v := 1) hx hb dX8_feed_66 (by decide) ?_
            refine lv_iadd hx hb dX8_feed_67 ?_
            refine va_put (D := G.1) (ci := 8) (v := .int (gm018_6 + 1)) (ty := .int) (C := RX8) (T := TX8) (N := 29) hx hb hts hinX8 tyX8 tyX8_ok nmX8 hown hKK.1 hP hD hS 0 rfl rfl 18 (by decide) kl74 (fun _ h9 => h9) rfl (by decide +kernel) rfl rfl (Nat.le_of_ble_eq_true rfl) dX8_feed_68 (fun H locs hP hD hS => ?_)
            have hP : va_P G.1 vwCl [(m0, .inr (8, [.ref m1, .ref m2, .ref m3, .ref m4, .ref m5, .ref m6, .ref m7, .ref m8, .ref m9, .int fu, .int fd, .int fi, .int nu, .int nw, .int nf, .int bf, .int bn, .ref m10, .int (gm018_6 + 1), .int ap, .int fs, .int ln, .int fo, .int fa, .ref m11, .ref m12, .ref m13, .ref m14, .int wr])), aJ G m1 560 mw, aZ G m2 2 ik, aI G m3 20 zs, aI G m4 20 cl, aI G m5 20 hs, aI G m6 20 ks, aI G m7 20 wa, aI G m8 20 ne, aI G m9 4 mn, aI G m10 400 fm10_13, aI G m11 6 th, aI G m12 6 od, aI G m13 30 bk, aI G m14 30 bh] H := hP
            have hD : va_D A [(m0, .inr (8, [.ref m1, .ref m2, .ref m3, .ref m4, .ref m5, .ref m6, .ref m7, .ref m8, .ref m9, .int fu, .int fd, .int fi, .int nu, .int nw, .int nf, .int bf, .int bn, .ref m10, .int (gm018_6 + 1), .int ap, .int fs, .int ln, .int fo, .int fa, .ref m11, .ref m12, .ref m13, .ref m14, .int wr])), aJ G m1 560 mw, aZ G m2 2 ik, aI G m3 20 zs, aI G m4 20 cl, aI G m5 20 hs, aI G m6 20 ks, aI G m7 20 wa, aI G m8 20 ne, aI G m9 4 mn, aI G m10 400 fm10_13, aI G m11 6 th, aI G m12 6 od, aI G m13 30 bk, aI G m14 30 bh] := hD
            refine lv_iinc (v := (x4_7 + (-1))) (lv' := [(4, .int (x4_7 + (-1))), (0, .ref m0), (1, .int x), (2, .long y)]) hx hb dX8_feed_71 hl (k := 0) rfl rfl (by decide) rfl (fun ls hl => ?_)
            refine lv_goto (tgt := 35) hx hb dX8_feed_74 (by decide) ?_
            exact ih_10 _ _ _ _ _ _ (Nat.lt_of_lt_of_le hv.2 (Nat.le_of_lt_succ hI_11)) hv.1 hP hD hS hl
      exact Lm_16 _ _ _ _ _ _ _ (Nat.lt_succ_self _) hi0 hP hD hS hl
    · have hv := hv.2 hc_3
      refine lv_ldc (v := (-1000000004)) hx hb hown kl77 dX8_feed_27 ?_
      exact x_iret (v := (-1000000004)) (tx, ts) hQ hx hb hr hlocks hS dX8_feed_29 hv hP hD
  · have hv := hv.2 (tv_eq.mp hc_2)
    refine lv_ldc (v := (-1000000002)) hx hb hown kl73 dX8_feed_12 ?_
    exact x_iret (v := (-1000000002)) (tx, ts) hQ hx hb hr hlocks hS dX8_feed_14 hv hP hD
theorem k_X8_feed (l : Launch) (G : Gt) (m0 m1 m2 m3 m4 m5 m6 m7 m8 m9 m10 m11 m12 m13 m14 : Nat) (sz : Nat) (mw : Nat → Int64) (ik : Nat → Int32) (zs : Nat → Int32) (cl : Nat → Int32) (hs : Nat → Int32) (ks : Nat → Int32) (wa : Nat → Int32) (ne : Nat → Int32) (mn : Nat → Int32) (tx : Nat → Int32) (th : Nat → Int32) (od : Nat → Int32) (bk : Nat → Int32) (bh : Nat → Int32) (fu : Int32) (fd : Int32) (fi : Int32) (nu : Int32) (nw : Int32) (nf : Int32) (bf : Int32) (bn : Int32) (ts : Int32) (ap : Int32) (fs : Int32) (ln : Int32) (fo : Int32) (fa : Int32) (wr : Int32) (x : Int32) (y : Int64) (hp : True) : MetI l yX8_feed wsX8_feed 1 25 G [.ref m0, .int x, .long y] [(m0, .inr (8, [.ref m1, .ref m2, .ref m3, .ref m4, .ref m5, .ref m6, .ref m7, .ref m8, .ref m9, .int fu, .int fd, .int fi, .int nu, .int nw, .int nf, .int bf, .int bn, .ref m10, .int ts, .int ap, .int fs, .int ln, .int fo, .int fa, .ref m11, .ref m12, .ref m13, .ref m14, .int wr])), aJ G m1 560 mw, aZ G m2 2 ik, aI G m3 20 zs, aI G m4 20 cl, aI G m5 20 hs, aI G m6 20 ks, aI G m7 20 wa, aI G m8 20 ne, aI G m9 4 mn, aI G m10 400 tx, aI G m11 6 th, aI G m12 6 od, aI G m13 30 bk, aI G m14 30 bh] sz (fun (r : Int32) (u : (Nat → Int32) × (Int32)) => True) (fun (u : (Nat → Int32) × (Int32)) => [(m0, .inr (8, [.ref m1, .ref m2, .ref m3, .ref m4, .ref m5, .ref m6, .ref m7, .ref m8, .ref m9, .int fu, .int fd, .int fi, .int nu, .int nw, .int nf, .int bf, .int bn, .ref m10, .int u.2, .int ap, .int fs, .int ln, .int fo, .int fa, .ref m11, .ref m12, .ref m13, .ref m14, .int wr])), aJ G m1 560 mw, aZ G m2 2 ik, aI G m3 20 zs, aI G m4 20 cl, aI G m5 20 hs, aI G m6 20 ks, aI G m7 20 wa, aI G m8 20 ne, aI G m9 4 mn, aI G m10 400 u.1, aI G m11 6 th, aI G m12 6 od, aI G m13 30 bk, aI G m14 30 bh]) :=
  c_X8_feed l G m0 m1 m2 m3 m4 m5 m6 m7 m8 m9 m10 m11 m12 m13 m14 sz mw ik zs cl hs ks wa ne mn tx th od bk bh fu fd fi nu nw nf bf bn ts ap fs ln fo fa wr x y (by
    sorry)

set_option maxHeartbeats 4000000 in
set_option maxRecDepth 100000 in
theorem c_X8_here (l : Launch) (G : Gt) (m0 m1 m2 m3 m4 m5 m6 m7 m8 m9 m10 m11 m12 m13 m14 : Nat) (sz : Nat) (mw : Nat → Int64) (ik : Nat → Int32) (zs : Nat → Int32) (cl : Nat → Int32) (hs : Nat → Int32) (ks : Nat → Int32) (wa : Nat → Int32) (ne : Nat → Int32) (mn : Nat → Int32) (tx : Nat → Int32) (th : Nat → Int32) (od : Nat → Int32) (bk : Nat → Int32) (bh : Nat → Int32) (fu : Int32) (fd : Int32) (fi : Int32) (nu : Int32) (nw : Int32) (nf : Int32) (bf : Int32) (bn : Int32) (ts : Int32) (ap : Int32) (fs : Int32) (ln : Int32) (fo : Int32) (fa : Int32) (wr : Int32) (hv : ∃ (I0_2 : Int32 → Prop) (μ0_3 : Int32 → Nat), I0_2 ap ∧ (∀ (gm019_1 : Int32), I0_2 gm019_1 → (ts ≤ gm019_1 → (ts ≤ gm019_1 → True) ∧ (¬ (ts ≤ gm019_1) → (vp_in gm019_1 400) ∧ (True))) ∧ (¬ (ts ≤ gm019_1) → (vp_in gm019_1 400) ∧ ((¬ (tx gm019_1.toNatClampNeg) = 32 → (ts ≤ gm019_1 → True) ∧ (¬ (ts ≤ gm019_1) → (vp_in gm019_1 400) ∧ (True))) ∧ ((tx gm019_1.toNatClampNeg) = 32 → I0_2 (gm019_1 + 1) ∧ μ0_3 (gm019_1 + 1) < μ0_3 gm019_1))))) : MetI l yX8_here wsX8_here 0 0 G [.ref m0] [(m0, .inr (8, [.ref m1, .ref m2, .ref m3, .ref m4, .ref m5, .ref m6, .ref m7, .ref m8, .ref m9, .int fu, .int fd, .int fi, .int nu, .int nw, .int nf, .int bf, .int bn, .ref m10, .int ts, .int ap, .int fs, .int ln, .int fo, .int fa, .ref m11, .ref m12, .ref m13, .ref m14, .int wr])), aJ G m1 560 mw, aZ G m2 2 ik, aI G m3 20 zs, aI G m4 20 cl, aI G m5 20 hs, aI G m6 20 ks, aI G m7 20 wa, aI G m8 20 ne, aI G m9 4 mn, aI G m10 400 tx, aI G m11 6 th, aI G m12 6 od, aI G m13 30 bk, aI G m14 30 bh] sz (fun (r : Int32) (u : (Int32)) => True) (fun (u : (Int32)) => [(m0, .inr (8, [.ref m1, .ref m2, .ref m3, .ref m4, .ref m5, .ref m6, .ref m7, .ref m8, .ref m9, .int fu, .int fd, .int fi, .int nu, .int nw, .int nf, .int bf, .int bn, .ref m10, .int ts, .int u, .int fs, .int ln, .int fo, .int fa, .ref m11, .ref m12, .ref m13, .ref m14, .int wr])), aJ G m1 560 mw, aZ G m2 2 ik, aI G m3 20 zs, aI G m4 20 cl, aI G m5 20 hs, aI G m6 20 ks, aI G m7 20 wa, aI G m8 20 ne, aI G m9 4 mn, aI G m10 400 tx, aI G m11 6 th, aI G m12 6 od, aI G m13 30 bk, aI G m14 30 bh]) := by
  refine x_startI (cc := cX8_here) (maxL := 1) (ret := (some .int)) (by decide) rfl (Nat.le_of_ble_eq_true rfl) ?_
  intro p e s m args below meth c A R Q ls hRf hRl hQ C hP hD hS hA hSS hl
  obtain ⟨hx, hb, hr, hml, hown, hts, hlocks, hKK⟩ := C
  have hown : s.vm.findClass RX8 = some m.cls := hown
  have hl : lv_has ls 1 [(0, .ref m0)] := hl
  have hinX8 : ∀ w ∈ u_ws RX8 TX8 29, w ∈ wsX8_here := by decide +kernel
  have kl46 := hts (.fieldLink RX8 46 "WarmStonesModel" "text" "[I") (by decide +kernel)
  have kl74 := hts (.fieldLink RX8 74 "WarmStonesModel" "textSize" "I") (by decide +kernel)
  have kl80 := hts (.fieldLink RX8 80 "WarmStonesModel" "at" "I") (by decide +kernel)
  obtain ⟨I0_2, μ0_3, hi0, hs_10⟩ := hv
  have Lm_12 : ∀ (n_11 : Nat) (gm019_1 : Int32) (H : Heap) (locs : List Loc) (ls : Array Slot), μ0_3 gm019_1 < n_11 → I0_2 gm019_1 → va_P G.1 vwCl [(m0, .inr (8, [.ref m1, .ref m2, .ref m3, .ref m4, .ref m5, .ref m6, .ref m7, .ref m8, .ref m9, .int fu, .int fd, .int fi, .int nu, .int nw, .int nf, .int bf, .int bn, .ref m10, .int ts, .int gm019_1, .int fs, .int ln, .int fo, .int fa, .ref m11, .ref m12, .ref m13, .ref m14, .int wr])), aJ G m1 560 mw, aZ G m2 2 ik, aI G m3 20 zs, aI G m4 20 cl, aI G m5 20 hs, aI G m6 20 ks, aI G m7 20 wa, aI G m8 20 ne, aI G m9 4 mn, aI G m10 400 tx, aI G m11 6 th, aI G m12 6 od, aI G m13 30 bk, aI G m14 30 bh] H → va_D A [(m0, .inr (8, [.ref m1, .ref m2, .ref m3, .ref m4, .ref m5, .ref m6, .ref m7, .ref m8, .ref m9, .int fu, .int fd, .int fi, .int nu, .int nw, .int nf, .int bf, .int bn, .ref m10, .int ts, .int gm019_1, .int fs, .int ln, .int fo, .int fa, .ref m11, .ref m12, .ref m13, .ref m14, .int wr])), aJ G m1 560 mw, aZ G m2 2 ik, aI G m3 20 zs, aI G m4 20 cl, aI G m5 20 hs, aI G m6 20 ks, aI G m7 20 wa, aI G m8 20 ne, aI G m9 4 mn, aI G m10 400 tx, aI G m11 6 th, aI G m12 6 od, aI G m13 30 bk, aI G m14 30 bh] → va_S A s.heap H locs → lv_has ls 1 [(0, .ref m0)] → W p l e R s m args below meth c H locs 0 0 Q (F0 m 0 ls []) := by
    intro n_11
    induction n_11 with
    | zero => intro gm019_1 H locs ls hm; exact absurd hm (Nat.not_lt_zero _)
    | succ n_11 ih_4 =>
      intro gm019_1 H locs ls hI_5 hi hP hD hS hl
      have hv := hs_10 gm019_1 hi
      refine lv_aload_n hx hb dX8_here_0 rfl (lv_at hl 0 rfl) ?_
      refine va_get (D := G.1) (ci := 8) (v := .int gm019_1) (C := RX8) (T := TX8) (N := 29) hx hb hts hinX8 hown hKK.1 hP 0 rfl rfl 19 (by decide) kl80 (fun _ h9 => h9) rfl dX8_here_1 ?_
      refine lv_aload_n hx hb dX8_here_4 rfl (lv_at hl 0 rfl) ?_
      refine va_get (D := G.1) (ci := 8) (v := .int ts) (C := RX8) (T := TX8) (N := 29) hx hb hts hinX8 hown hKK.1 hP 0 rfl rfl 18 (by decide) kl74 (fun _ h9 => h9) rfl dX8_here_5 ?_
      refine lv_icmp_ge (tgt := 38) hx hb dX8_here_8 (by decide) (fun hc_6 => ?_) (fun hc_6 => ?_)
      · have hv := hv.1 hc_6
        refine lv_aload_n hx hb dX8_here_38 rfl (lv_at hl 0 rfl) ?_
        refine va_get (D := G.1) (ci := 8) (v := .int gm019_1) (C := RX8) (T := TX8) (N := 29) hx hb hts hinX8 hown hKK.1 hP 0 rfl rfl 19 (by decide) kl80 (fun _ h9 => h9) rfl dX8_here_39 ?_
        refine lv_aload_n hx hb dX8_here_42 rfl (lv_at hl 0 rfl) ?_
        refine va_get (D := G.1) (ci := 8) (v := .int ts) (C := RX8) (T := TX8) (N := 29) hx hb hts hinX8 hown hKK.1 hP 0 rfl rfl 18 (by decide) kl74 (fun _ h9 => h9) rfl dX8_here_43 ?_
        refine lv_icmp_ge (tgt := 61) hx hb dX8_here_46 (by decide) (fun hc_7 => ?_) (fun hc_7 => ?_)
        · have hv := hv.1 hc_7
          refine lv_iconst (v := (-1)) hx hb dX8_here_61 (by decide) ?_
          exact x_iret (v := (-1)) gm019_1 hQ hx hb hr hlocks hS dX8_here_62 hv hP hD
        · have hv := hv.2 hc_7
          refine lv_aload_n hx hb dX8_here_49 rfl (lv_at hl 0 rfl) ?_
          refine va_get (D := G.1) (ci := 8) (v := .ref m10) (C := RX8) (T := TX8) (N := 29) hx hb hts hinX8 hown hKK.1 hP 0 rfl rfl 17 (by decide) kl46 (fun _ h9 => h9) rfl dX8_here_50 ?_
          refine lv_aload_n hx hb dX8_here_53 rfl (lv_at hl 0 rfl) ?_
          refine va_get (D := G.1) (ci := 8) (v := .int gm019_1) (C := RX8) (T := TX8) (N := 29) hx hb hts hinX8 hown hKK.1 hP 0 rfl rfl 19 (by decide) kl80 (fun _ h9 => h9) rfl dX8_here_54 ?_
          obtain ⟨hin, hv⟩ := hv
          refine va_iald hx hb hKK.1 hP 10 0 rfl rfl hin dX8_here_57 ?_
          refine lv_goto (tgt := 62) hx hb dX8_here_58 (by decide) ?_
          exact x_iret (v := (tx gm019_1.toNatClampNeg)) gm019_1 hQ hx hb hr hlocks hS dX8_here_62 hv hP hD
      · have hv := hv.2 hc_6
        refine lv_aload_n hx hb dX8_here_11 rfl (lv_at hl 0 rfl) ?_
        refine va_get (D := G.1) (ci := 8) (v := .ref m10) (C := RX8) (T := TX8) (N := 29) hx hb hts hinX8 hown hKK.1 hP 0 rfl rfl 17 (by decide) kl46 (fun _ h9 => h9) rfl dX8_here_12 ?_
        refine lv_aload_n hx hb dX8_here_15 rfl (lv_at hl 0 rfl) ?_
        refine va_get (D := G.1) (ci := 8) (v := .int gm019_1) (C := RX8) (T := TX8) (N := 29) hx hb hts hinX8 hown hKK.1 hP 0 rfl rfl 19 (by decide) kl80 (fun _ h9 => h9) rfl dX8_here_16 ?_
        obtain ⟨hin, hv⟩ := hv
        refine va_iald hx hb hKK.1 hP 10 0 rfl rfl hin dX8_here_19 ?_
        refine lv_bipush (v := 32) hx hb dX8_here_20 (by decide) ?_
        refine lv_icmp_ne (tgt := 38) hx hb dX8_here_22 (by decide) (fun hc_8 => ?_) (fun hc_8 => ?_)
        · have hv := hv.1 hc_8
          refine lv_aload_n hx hb dX8_here_38 rfl (lv_at hl 0 rfl) ?_
          refine va_get (D := G.1) (ci := 8) (v := .int gm019_1) (C := RX8) (T := TX8) (N := 29) hx hb hts hinX8 hown hKK.1 hP 0 rfl rfl 19 (by decide) kl80 (fun _ h9 => h9) rfl dX8_here_39 ?_
          refine lv_aload_n hx hb dX8_here_42 rfl (lv_at hl 0 rfl) ?_
          refine va_get (D := G.1) (ci := 8) (v := .int ts) (C := RX8) (T := TX8) (N := 29) hx hb hts hinX8 hown hKK.1 hP 0 rfl rfl 18 (by decide) kl74 (fun _ h9 => h9) rfl dX8_here_43 ?_
          refine lv_icmp_ge (tgt := 61) hx hb dX8_here_46 (by decide) (fun hc_9 => ?_) (fun hc_9 => ?_)
          · have hv := hv.1 hc_9
            refine lv_iconst (v := (-1)) hx hb dX8_here_61 (by decide) ?_
            exact x_iret (v := (-1)) gm019_1 hQ hx hb hr hlocks hS dX8_here_62 hv hP hD
          · have hv := hv.2 hc_9
            refine lv_aload_n hx hb dX8_here_49 rfl (lv_at hl 0 rfl) ?_
            refine va_get (D := G.1) (ci := 8) (v := .ref m10) (C := RX8) (T := TX8) (N := 29) hx hb hts hinX8 hown hKK.1 hP 0 rfl rfl 17 (by decide) kl46 (fun _ h9 => h9) rfl dX8_here_50 ?_
            refine lv_aload_n hx hb dX8_here_53 rfl (lv_at hl 0 rfl) ?_
            refine va_get (D := G.1) (ci := 8) (v := .int gm019_1) (C := RX8) (T := TX8) (N := 29) hx hb hts hinX8 hown hKK.1 hP 0 rfl rfl 19 (by decide) kl80 (fun _ h9 => h9) rfl dX8_here_54 ?_
            obtain ⟨hin, hv⟩ := hv
            refine va_iald hx hb hKK.1 hP 10 0 rfl rfl hin dX8_here_57 ?_
            refine lv_goto (tgt := 62) hx hb dX8_here_58 (by decide) ?_
            exact x_iret (v := (tx gm019_1.toNatClampNeg)) gm019_1 hQ hx hb hr hlocks hS dX8_here_62 hv hP hD
        · have hv := hv.2 hc_8
          refine lv_aload_n hx hb dX8_here_25 rfl (lv_at hl 0 rfl) ?_
          refine lv_dup hx hb dX8_here_26 rfl ?_
          refine va_get (D := G.1) (ci := 8) (v := .int gm019_1) (C := RX8) (T := TX8) (N := 29) hx hb hts hinX8 hown hKK.1 hP 0 rfl rfl 19 (by decide) kl80 (fun _ h9 => h9) rfl dX8_here_27 ?_
          refine lv_iconst (v := 1) hx hb dX8_here_30 (by decide) ?_
          refine lv_iadd hx hb dX8_here_31 ?_
          refine va_put (D := G.1) (ci := 8) (v := .int (gm019_1 + 1)) (ty := .int) (C := RX8) (T := TX8) (N := 29) hx hb hts hinX8 tyX8 tyX8_ok nmX8 hown hKK.1 hP hD hS 0 rfl rfl 19 (by decide) kl80 (fun _ h9 => h9) rfl (by decide +kernel) rfl rfl (Nat.le_of_ble_eq_true rfl) dX8_here_32 (fun H locs hP hD hS => ?_)
          have hP : va_P G.1 vwCl [(m0, .inr (8, [.ref m1, .ref m2, .ref m3, .ref m4, .ref m5, .ref m6, .ref m7, .ref m8, .ref m9, .int fu, .int fd, .int fi, .int nu, .int nw, .int nf, .int bf, .int bn, .ref m10, .int ts, .int (gm019_1 + 1), .int fs, .int ln, .int fo, .int fa, .ref m11, .ref m12, .ref m13, .ref m14, .int wr])), aJ G m1 560 mw, aZ G m2 2 ik, aI G m3 20 zs, aI G m4 20 cl, aI G m5 20 hs, aI G m6 20 ks, aI G m7 20 wa, aI G m8 20 ne, aI G m9 4 mn, aI G m10 400 tx, aI G m11 6 th, aI G m12 6 od, aI G m13 30 bk, aI G m14 30 bh] H := hP
          have hD : va_D A [(m0, .inr (8, [.ref m1, .ref m2, .ref m3, .ref m4, .ref m5, .ref m6, .ref m7, .ref m8, .ref m9, .int fu, .int fd, .int fi, .int nu, .int nw, .int nf, .int bf, .int bn, .ref m10, .int ts, .int (gm019_1 + 1), .int fs, .int ln, .int fo, .int fa, .ref m11, .ref m12, .ref m13, .ref m14, .int wr])), aJ G m1 560 mw, aZ G m2 2 ik, aI G m3 20 zs, aI G m4 20 cl, aI G m5 20 hs, aI G m6 20 ks, aI G m7 20 wa, aI G m8 20 ne, aI G m9 4 mn, aI G m10 400 tx, aI G m11 6 th, aI G m12 6 od, aI G m13 30 bk, aI G m14 30 bh] := hD
          refine lv_goto (tgt := 0) hx hb dX8_here_35 (by decide) ?_
          exact ih_4 _ _ _ _ (Nat.lt_of_lt_of_le hv.2 (Nat.le_of_lt_succ hI_5)) hv.1 hP hD hS hl
  exact Lm_12 _ _ _ _ _ (Nat.lt_succ_self _) hi0 hP hD hS hl
theorem k_X8_here (l : Launch) (G : Gt) (m0 m1 m2 m3 m4 m5 m6 m7 m8 m9 m10 m11 m12 m13 m14 : Nat) (sz : Nat) (mw : Nat → Int64) (ik : Nat → Int32) (zs : Nat → Int32) (cl : Nat → Int32) (hs : Nat → Int32) (ks : Nat → Int32) (wa : Nat → Int32) (ne : Nat → Int32) (mn : Nat → Int32) (tx : Nat → Int32) (th : Nat → Int32) (od : Nat → Int32) (bk : Nat → Int32) (bh : Nat → Int32) (fu : Int32) (fd : Int32) (fi : Int32) (nu : Int32) (nw : Int32) (nf : Int32) (bf : Int32) (bn : Int32) (ts : Int32) (ap : Int32) (fs : Int32) (ln : Int32) (fo : Int32) (fa : Int32) (wr : Int32) (hp : True) : MetI l yX8_here wsX8_here 0 0 G [.ref m0] [(m0, .inr (8, [.ref m1, .ref m2, .ref m3, .ref m4, .ref m5, .ref m6, .ref m7, .ref m8, .ref m9, .int fu, .int fd, .int fi, .int nu, .int nw, .int nf, .int bf, .int bn, .ref m10, .int ts, .int ap, .int fs, .int ln, .int fo, .int fa, .ref m11, .ref m12, .ref m13, .ref m14, .int wr])), aJ G m1 560 mw, aZ G m2 2 ik, aI G m3 20 zs, aI G m4 20 cl, aI G m5 20 hs, aI G m6 20 ks, aI G m7 20 wa, aI G m8 20 ne, aI G m9 4 mn, aI G m10 400 tx, aI G m11 6 th, aI G m12 6 od, aI G m13 30 bk, aI G m14 30 bh] sz (fun (r : Int32) (u : (Int32)) => True) (fun (u : (Int32)) => [(m0, .inr (8, [.ref m1, .ref m2, .ref m3, .ref m4, .ref m5, .ref m6, .ref m7, .ref m8, .ref m9, .int fu, .int fd, .int fi, .int nu, .int nw, .int nf, .int bf, .int bn, .ref m10, .int ts, .int u, .int fs, .int ln, .int fo, .int fa, .ref m11, .ref m12, .ref m13, .ref m14, .int wr])), aJ G m1 560 mw, aZ G m2 2 ik, aI G m3 20 zs, aI G m4 20 cl, aI G m5 20 hs, aI G m6 20 ks, aI G m7 20 wa, aI G m8 20 ne, aI G m9 4 mn, aI G m10 400 tx, aI G m11 6 th, aI G m12 6 od, aI G m13 30 bk, aI G m14 30 bh]) :=
  c_X8_here l G m0 m1 m2 m3 m4 m5 m6 m7 m8 m9 m10 m11 m12 m13 m14 sz mw ik zs cl hs ks wa ne mn tx th od bk bh fu fd fi nu nw nf bf bn ts ap fs ln fo fa wr (by
    sorry)

set_option maxHeartbeats 4000000 in
set_option maxRecDepth 100000 in
theorem c_X8_want (l : Launch) (G : Gt) (m0 m1 m2 m3 m4 m5 m6 m7 m8 m9 m10 m11 m12 m13 m14 : Nat) (sz : Nat) (mw : Nat → Int64) (ik : Nat → Int32) (zs : Nat → Int32) (cl : Nat → Int32) (hs : Nat → Int32) (ks : Nat → Int32) (wa : Nat → Int32) (ne : Nat → Int32) (mn : Nat → Int32) (tx : Nat → Int32) (th : Nat → Int32) (od : Nat → Int32) (bk : Nat → Int32) (bh : Nat → Int32) (fu : Int32) (fd : Int32) (fi : Int32) (nu : Int32) (nw : Int32) (nf : Int32) (bf : Int32) (bn : Int32) (ts : Int32) (ap : Int32) (fs : Int32) (ln : Int32) (fo : Int32) (fa : Int32) (wr : Int32) (x : Int32) (y : Int32) (z : Int32) (hv : (¬ x = 0 → (¬ fo = 0 → True) ∧ (fo = 0 → True)) ∧ (x = 0 → (¬ fo = 0 → (¬ fo = 0 → True) ∧ (fo = 0 → True)) ∧ (fo = 0 → (¬ y = 0 → True) ∧ (y = 0 → True)))) : MetI l yX8_want wsX8_want 0 0 G [.ref m0, .int x, .int y, .int z] [(m0, .inr (8, [.ref m1, .ref m2, .ref m3, .ref m4, .ref m5, .ref m6, .ref m7, .ref m8, .ref m9, .int fu, .int fd, .int fi, .int nu, .int nw, .int nf, .int bf, .int bn, .ref m10, .int ts, .int ap, .int fs, .int ln, .int fo, .int fa, .ref m11, .ref m12, .ref m13, .ref m14, .int wr])), aJ G m1 560 mw, aZ G m2 2 ik, aI G m3 20 zs, aI G m4 20 cl, aI G m5 20 hs, aI G m6 20 ks, aI G m7 20 wa, aI G m8 20 ne, aI G m9 4 mn, aI G m10 400 tx, aI G m11 6 th, aI G m12 6 od, aI G m13 30 bk, aI G m14 30 bh] sz (fun (r : Int32) (u : (Int32) × (Int32)) => True) (fun (u : (Int32) × (Int32)) => [(m0, .inr (8, [.ref m1, .ref m2, .ref m3, .ref m4, .ref m5, .ref m6, .ref m7, .ref m8, .ref m9, .int fu, .int fd, .int fi, .int nu, .int nw, .int nf, .int bf, .int bn, .ref m10, .int ts, .int ap, .int fs, .int ln, .int u.1, .int u.2, .ref m11, .ref m12, .ref m13, .ref m14, .int wr])), aJ G m1 560 mw, aZ G m2 2 ik, aI G m3 20 zs, aI G m4 20 cl, aI G m5 20 hs, aI G m6 20 ks, aI G m7 20 wa, aI G m8 20 ne, aI G m9 4 mn, aI G m10 400 tx, aI G m11 6 th, aI G m12 6 od, aI G m13 30 bk, aI G m14 30 bh]) := by
  refine x_startI (cc := cX8_want) (maxL := 4) (ret := (some .boolean)) (by decide) rfl (Nat.le_of_ble_eq_true rfl) ?_
  intro p e s m args below meth c A R Q ls hRf hRl hQ C hP hD hS hA hSS hl
  obtain ⟨hx, hb, hr, hml, hown, hts, hlocks, hKK⟩ := C
  have hown : s.vm.findClass RX8 = some m.cls := hown
  have hl : lv_has ls 4 [(0, .ref m0), (1, .int x), (2, .int y), (3, .int z)] := hl
  have hinX8 : ∀ w ∈ u_ws RX8 TX8 29, w ∈ wsX8_want := by decide +kernel
  have kl49 := hts (.fieldLink RX8 49 "WarmStonesModel" "fault" "I") (by decide +kernel)
  have kl83 := hts (.fieldLink RX8 83 "WarmStonesModel" "faultOf" "I") (by decide +kernel)
  refine lv_iload_n hx hb dX8_want_0 rfl (lv_at hl 1 rfl) ?_
  refine lv_if_ne (tgt := 21) hx hb dX8_want_1 (by decide) (fun hc_1 => ?_) (fun hc_1 => ?_)
  · have hv := hv.1 hc_1
    refine lv_aload_n hx hb dX8_want_21 rfl (lv_at hl 0 rfl) ?_
    refine va_get (D := G.1) (ci := 8) (v := .int fo) (C := RX8) (T := TX8) (N := 29) hx hb hts hinX8 hown hKK.1 hP 0 rfl rfl 22 (by decide) kl83 (fun _ h9 => h9) rfl dX8_want_22 ?_
    refine lv_if_ne (tgt := 32) hx hb dX8_want_25 (by decide) (fun hc_2 => ?_) (fun hc_2 => ?_)
    · have hv := hv.1 hc_2
      refine lv_iconst (v := 0) hx hb dX8_want_32 (by decide) ?_
      exact x_zret (v := 0) (fo, fa) hQ hx hb hr hlocks hS dX8_want_33 rfl hv hP hD
    · have hv := hv.2 hc_2
      refine lv_iconst (v := 1) hx hb dX8_want_28 (by decide) ?_
      refine lv_goto (tgt := 33) hx hb dX8_want_29 (by decide) ?_
      exact x_zret (v := 1) (fo, fa) hQ hx hb hr hlocks hS dX8_want_33 rfl hv hP hD
  · have hv := hv.2 hc_1
    refine lv_aload_n hx hb dX8_want_4 rfl (lv_at hl 0 rfl) ?_
    refine va_get (D := G.1) (ci := 8) (v := .int fo) (C := RX8) (T := TX8) (N := 29) hx hb hts hinX8 hown hKK.1 hP 0 rfl rfl 22 (by decide) kl83 (fun _ h9 => h9) rfl dX8_want_5 ?_
    refine lv_if_ne (tgt := 21) hx hb dX8_want_8 (by decide) (fun hc_3 => ?_) (fun hc_3 => ?_)
    · have hv := hv.1 hc_3
      refine lv_aload_n hx hb dX8_want_21 rfl (lv_at hl 0 rfl) ?_
      refine va_get (D := G.1) (ci := 8) (v := .int fo) (C := RX8) (T := TX8) (N := 29) hx hb hts hinX8 hown hKK.1 hP 0 rfl rfl 22 (by decide) kl83 (fun _ h9 => h9) rfl dX8_want_22 ?_
      refine lv_if_ne (tgt := 32) hx hb dX8_want_25 (by decide) (fun hc_4 => ?_) (fun hc_4 => ?_)
      · have hv := hv.1 hc_4
        refine lv_iconst (v := 0) hx hb dX8_want_32 (by decide) ?_
        exact x_zret (v := 0) (fo, fa) hQ hx hb hr hlocks hS dX8_want_33 rfl hv hP hD
      · have hv := hv.2 hc_4
        refine lv_iconst (v := 1) hx hb dX8_want_28 (by decide) ?_
        refine lv_goto (tgt := 33) hx hb dX8_want_29 (by decide) ?_
        exact x_zret (v := 1) (fo, fa) hQ hx hb hr hlocks hS dX8_want_33 rfl hv hP hD
    · have hv := hv.2 hc_3
      refine lv_aload_n hx hb dX8_want_11 rfl (lv_at hl 0 rfl) ?_
      refine lv_iload_n hx hb dX8_want_12 rfl (lv_at hl 2 rfl) ?_
      refine va_put (D := G.1) (ci := 8) (v := .int y) (ty := .int) (C := RX8) (T := TX8) (N := 29) hx hb hts hinX8 tyX8 tyX8_ok nmX8 hown hKK.1 hP hD hS 0 rfl rfl 22 (by decide) kl83 (fun _ h9 => h9) rfl (by decide +kernel) rfl rfl (Nat.le_of_ble_eq_true rfl) dX8_want_13 (fun H locs hP hD hS => ?_)
      have hP : va_P G.1 vwCl [(m0, .inr (8, [.ref m1, .ref m2, .ref m3, .ref m4, .ref m5, .ref m6, .ref m7, .ref m8, .ref m9, .int fu, .int fd, .int fi, .int nu, .int nw, .int nf, .int bf, .int bn, .ref m10, .int ts, .int ap, .int fs, .int ln, .int y, .int fa, .ref m11, .ref m12, .ref m13, .ref m14, .int wr])), aJ G m1 560 mw, aZ G m2 2 ik, aI G m3 20 zs, aI G m4 20 cl, aI G m5 20 hs, aI G m6 20 ks, aI G m7 20 wa, aI G m8 20 ne, aI G m9 4 mn, aI G m10 400 tx, aI G m11 6 th, aI G m12 6 od, aI G m13 30 bk, aI G m14 30 bh] H := hP
      have hD : va_D A [(m0, .inr (8, [.ref m1, .ref m2, .ref m3, .ref m4, .ref m5, .ref m6, .ref m7, .ref m8, .ref m9, .int fu, .int fd, .int fi, .int nu, .int nw, .int nf, .int bf, .int bn, .ref m10, .int ts, .int ap, .int fs, .int ln, .int y, .int fa, .ref m11, .ref m12, .ref m13, .ref m14, .int wr])), aJ G m1 560 mw, aZ G m2 2 ik, aI G m3 20 zs, aI G m4 20 cl, aI G m5 20 hs, aI G m6 20 ks, aI G m7 20 wa, aI G m8 20 ne, aI G m9 4 mn, aI G m10 400 tx, aI G m11 6 th, aI G m12 6 od, aI G m13 30 bk, aI G m14 30 bh] := hD
      refine lv_aload_n hx hb dX8_want_16 rfl (lv_at hl 0 rfl) ?_
      refine lv_iload_n hx hb dX8_want_17 rfl (lv_at hl 3 rfl) ?_
      refine va_put (D := G.1) (ci := 8) (v := .int z) (ty := .int) (C := RX8) (T := TX8) (N := 29) hx hb hts hinX8 tyX8 tyX8_ok nmX8 hown hKK.1 hP hD hS 0 rfl rfl 23 (by decide) kl49 (fun _ h9 => h9) rfl (by decide +kernel) rfl rfl (Nat.le_of_ble_eq_true rfl) dX8_want_18 (fun H locs hP hD hS => ?_)
      have hP : va_P G.1 vwCl [(m0, .inr (8, [.ref m1, .ref m2, .ref m3, .ref m4, .ref m5, .ref m6, .ref m7, .ref m8, .ref m9, .int fu, .int fd, .int fi, .int nu, .int nw, .int nf, .int bf, .int bn, .ref m10, .int ts, .int ap, .int fs, .int ln, .int y, .int z, .ref m11, .ref m12, .ref m13, .ref m14, .int wr])), aJ G m1 560 mw, aZ G m2 2 ik, aI G m3 20 zs, aI G m4 20 cl, aI G m5 20 hs, aI G m6 20 ks, aI G m7 20 wa, aI G m8 20 ne, aI G m9 4 mn, aI G m10 400 tx, aI G m11 6 th, aI G m12 6 od, aI G m13 30 bk, aI G m14 30 bh] H := hP
      have hD : va_D A [(m0, .inr (8, [.ref m1, .ref m2, .ref m3, .ref m4, .ref m5, .ref m6, .ref m7, .ref m8, .ref m9, .int fu, .int fd, .int fi, .int nu, .int nw, .int nf, .int bf, .int bn, .ref m10, .int ts, .int ap, .int fs, .int ln, .int y, .int z, .ref m11, .ref m12, .ref m13, .ref m14, .int wr])), aJ G m1 560 mw, aZ G m2 2 ik, aI G m3 20 zs, aI G m4 20 cl, aI G m5 20 hs, aI G m6 20 ks, aI G m7 20 wa, aI G m8 20 ne, aI G m9 4 mn, aI G m10 400 tx, aI G m11 6 th, aI G m12 6 od, aI G m13 30 bk, aI G m14 30 bh] := hD
      refine lv_aload_n hx hb dX8_want_21 rfl (lv_at hl 0 rfl) ?_
      refine va_get (D := G.1) (ci := 8) (v := .int y) (C := RX8) (T := TX8) (N := 29) hx hb hts hinX8 hown hKK.1 hP 0 rfl rfl 22 (by decide) kl83 (fun _ h9 => h9) rfl dX8_want_22 ?_
      refine lv_if_ne (tgt := 32) hx hb dX8_want_25 (by decide) (fun hc_5 => ?_) (fun hc_5 => ?_)
      · have hv := hv.1 hc_5
        refine lv_iconst (v := 0) hx hb dX8_want_32 (by decide) ?_
        exact x_zret (v := 0) (y, z) hQ hx hb hr hlocks hS dX8_want_33 rfl hv hP hD
      · have hv := hv.2 hc_5
        refine lv_iconst (v := 1) hx hb dX8_want_28 (by decide) ?_
        refine lv_goto (tgt := 33) hx hb dX8_want_29 (by decide) ?_
        exact x_zret (v := 1) (y, z) hQ hx hb hr hlocks hS dX8_want_33 rfl hv hP hD
theorem k_X8_want (l : Launch) (G : Gt) (m0 m1 m2 m3 m4 m5 m6 m7 m8 m9 m10 m11 m12 m13 m14 : Nat) (sz : Nat) (mw : Nat → Int64) (ik : Nat → Int32) (zs : Nat → Int32) (cl : Nat → Int32) (hs : Nat → Int32) (ks : Nat → Int32) (wa : Nat → Int32) (ne : Nat → Int32) (mn : Nat → Int32) (tx : Nat → Int32) (th : Nat → Int32) (od : Nat → Int32) (bk : Nat → Int32) (bh : Nat → Int32) (fu : Int32) (fd : Int32) (fi : Int32) (nu : Int32) (nw : Int32) (nf : Int32) (bf : Int32) (bn : Int32) (ts : Int32) (ap : Int32) (fs : Int32) (ln : Int32) (fo : Int32) (fa : Int32) (wr : Int32) (x : Int32) (y : Int32) (z : Int32) (hp : True) : MetI l yX8_want wsX8_want 0 0 G [.ref m0, .int x, .int y, .int z] [(m0, .inr (8, [.ref m1, .ref m2, .ref m3, .ref m4, .ref m5, .ref m6, .ref m7, .ref m8, .ref m9, .int fu, .int fd, .int fi, .int nu, .int nw, .int nf, .int bf, .int bn, .ref m10, .int ts, .int ap, .int fs, .int ln, .int fo, .int fa, .ref m11, .ref m12, .ref m13, .ref m14, .int wr])), aJ G m1 560 mw, aZ G m2 2 ik, aI G m3 20 zs, aI G m4 20 cl, aI G m5 20 hs, aI G m6 20 ks, aI G m7 20 wa, aI G m8 20 ne, aI G m9 4 mn, aI G m10 400 tx, aI G m11 6 th, aI G m12 6 od, aI G m13 30 bk, aI G m14 30 bh] sz (fun (r : Int32) (u : (Int32) × (Int32)) => True) (fun (u : (Int32) × (Int32)) => [(m0, .inr (8, [.ref m1, .ref m2, .ref m3, .ref m4, .ref m5, .ref m6, .ref m7, .ref m8, .ref m9, .int fu, .int fd, .int fi, .int nu, .int nw, .int nf, .int bf, .int bn, .ref m10, .int ts, .int ap, .int fs, .int ln, .int u.1, .int u.2, .ref m11, .ref m12, .ref m13, .ref m14, .int wr])), aJ G m1 560 mw, aZ G m2 2 ik, aI G m3 20 zs, aI G m4 20 cl, aI G m5 20 hs, aI G m6 20 ks, aI G m7 20 wa, aI G m8 20 ne, aI G m9 4 mn, aI G m10 400 tx, aI G m11 6 th, aI G m12 6 od, aI G m13 30 bk, aI G m14 30 bh]) :=
  c_X8_want l G m0 m1 m2 m3 m4 m5 m6 m7 m8 m9 m10 m11 m12 m13 m14 sz mw ik zs cl hs ks wa ne mn tx th od bk bh fu fd fi nu nw nf bf bn ts ap fs ln fo fa wr x y z (by
    sorry)

set_option maxHeartbeats 4000000 in
set_option maxRecDepth 100000 in
theorem c_X8_takeWord (l : Launch) (G : Gt) (m0 m1 m2 m3 m4 m5 m6 m7 m8 m9 m10 m11 m12 m13 m14 : Nat) (sz : Nat) (mw : Nat → Int64) (ik : Nat → Int32) (zs : Nat → Int32) (cl : Nat → Int32) (hs : Nat → Int32) (ks : Nat → Int32) (wa : Nat → Int32) (ne : Nat → Int32) (mn : Nat → Int32) (tx : Nat → Int32) (th : Nat → Int32) (od : Nat → Int32) (bk : Nat → Int32) (bh : Nat → Int32) (fu : Int32) (fd : Int32) (fi : Int32) (nu : Int32) (nw : Int32) (nf : Int32) (bf : Int32) (bn : Int32) (ts : Int32) (ap : Int32) (fs : Int32) (ln : Int32) (fo : Int32) (fa : Int32) (wr : Int32) (hv : (True) ∧ (∀ (r_1 : Int32) (ap2_2 : Int32), (True) → (∃ (I13_4 : Int32 → Prop) (μ13_5 : Int32 → Nat), I13_4 ap2_2 ∧ (∀ (gm019_3 : Int32), I13_4 gm019_3 → (ts ≤ gm019_3 → True) ∧ (¬ (ts ≤ gm019_3) → (vp_in gm019_3 400) ∧ ((¬ (¬ ((tx gm019_3.toNatClampNeg).toInt64) < 97 ∧ ¬ 122 < ((tx gm019_3.toNatClampNeg).toInt64)) → True) ∧ (¬ ((tx gm019_3.toNatClampNeg).toInt64) < 97 ∧ ¬ 122 < ((tx gm019_3.toNatClampNeg).toInt64) → I13_4 (gm019_3 + 1) ∧ μ13_5 (gm019_3 + 1) < μ13_5 gm019_3))))))) : MetV l yX8_takeWord wsX8_takeWord 1 25 G [.ref m0] [(m0, .inr (8, [.ref m1, .ref m2, .ref m3, .ref m4, .ref m5, .ref m6, .ref m7, .ref m8, .ref m9, .int fu, .int fd, .int fi, .int nu, .int nw, .int nf, .int bf, .int bn, .ref m10, .int ts, .int ap, .int fs, .int ln, .int fo, .int fa, .ref m11, .ref m12, .ref m13, .ref m14, .int wr])), aJ G m1 560 mw, aZ G m2 2 ik, aI G m3 20 zs, aI G m4 20 cl, aI G m5 20 hs, aI G m6 20 ks, aI G m7 20 wa, aI G m8 20 ne, aI G m9 4 mn, aI G m10 400 tx, aI G m11 6 th, aI G m12 6 od, aI G m13 30 bk, aI G m14 30 bh] sz (fun (u : (Int32) × (Int32) × (Int32)) => True) (fun (u : (Int32) × (Int32) × (Int32)) => [(m0, .inr (8, [.ref m1, .ref m2, .ref m3, .ref m4, .ref m5, .ref m6, .ref m7, .ref m8, .ref m9, .int fu, .int fd, .int fi, .int nu, .int nw, .int nf, .int bf, .int bn, .ref m10, .int ts, .int u.1, .int u.2.1, .int u.2.2, .int fo, .int fa, .ref m11, .ref m12, .ref m13, .ref m14, .int wr])), aJ G m1 560 mw, aZ G m2 2 ik, aI G m3 20 zs, aI G m4 20 cl, aI G m5 20 hs, aI G m6 20 ks, aI G m7 20 wa, aI G m8 20 ne, aI G m9 4 mn, aI G m10 400 tx, aI G m11 6 th, aI G m12 6 od, aI G m13 30 bk, aI G m14 30 bh]) := by
  refine x_startV (cc := cX8_takeWord) (maxL := 2) (ret := none) (by decide) rfl (Nat.le_of_ble_eq_true rfl) ?_
  intro p e s m args below meth c A R Q ls hRf hRl hQ C hP hD hS hA hSS hl
  obtain ⟨hx, hb, hr, hml, hown, hts, hlocks, hKK⟩ := C
  have hown : s.vm.findClass RX8 = some m.cls := hown
  have hl : lv_has ls 2 [(0, .ref m0)] := hl
  have hinX8 : ∀ w ∈ u_ws RX8 TX8 29, w ∈ wsX8_takeWord := by decide +kernel
  have kl46 := hts (.fieldLink RX8 46 "WarmStonesModel" "text" "[I") (by decide +kernel)
  have kl74 := hts (.fieldLink RX8 74 "WarmStonesModel" "textSize" "I") (by decide +kernel)
  have kl80 := hts (.fieldLink RX8 80 "WarmStonesModel" "at" "I") (by decide +kernel)
  have kl90 := hts (.fieldLink RX8 90 "WarmStonesModel" "first" "I") (by decide +kernel)
  have kl93 := hts (.constantLong RX8 93 (97)) (by decide +kernel)
  have kl95 := hts (.constantLong RX8 95 (122)) (by decide +kernel)
  have kl97 := hts (.fieldLink RX8 97 "WarmStonesModel" "length" "I") (by decide +kernel)
  refine lv_aload_n hx hb dX8_takeWord_0 rfl (lv_at hl 0 rfl) ?_
  obtain ⟨hp, hv⟩ := hv
  refine x_calli (wr := []) (w' := fun (u : (Int32)) => [(m0, .inr (8, [.ref m1, .ref m2, .ref m3, .ref m4, .ref m5, .ref m6, .ref m7, .ref m8, .ref m9, .int fu, .int fd, .int fi, .int nu, .int nw, .int nf, .int bf, .int bn, .ref m10, .int ts, .int u, .int fs, .int ln, .int fo, .int fa, .ref m11, .ref m12, .ref m13, .ref m14, .int wr])), aJ G m1 560 mw, aZ G m2 2 ik, aI G m3 20 zs, aI G m4 20 cl, aI G m5 20 hs, aI G m6 20 ks, aI G m7 20 wa, aI G m8 20 ne, aI G m9 4 mn, aI G m10 400 tx, aI G m11 6 th, aI G m12 6 od, aI G m13 30 bk, aI G m14 30 bh]) (x_runV (As := []) (rest := []) (n := 0) (C := RX8) (ci := 8) ⟨hx, hb, hml, hown, hts⟩ (k_X8_here l G m0 m1 m2 m3 m4 m5 m6 m7 m8 m9 m10 m11 m12 m13 m14 _ mw ik zs cl hs ks wa ne mn tx th od bk bh fu fd fi nu nw nf bf bn ts ap fs ln fo fa wr hp) gX8_takeWord_X8_here rfl (by decide +kernel) ⟨Nat.le_trans (Nat.le_of_ble_eq_true rfl) hRf, Nat.le_trans (Nat.le_of_ble_eq_true rfl) hRl⟩ hKK hSS hS hA hP hD [0, 1, 2, 3, 4, 5, 6, 7, 8, 9, 10, 11, 12, 13, 14] (by decide) rfl rfl rfl 0 rfl rfl hl.1 rfl (Nat.le_of_ble_eq_true rfl) dX8_takeWord_1) hP hD hS hA [0, 1, 2, 3, 4, 5, 6, 7, 8, 9, 10, 11, 12, 13, 14] [] [0, 1, 2, 3, 4, 5, 6, 7, 8, 9, 10, 11, 12, 13, 14] rfl rfl (by decide) (by decide) (by decide) (fun _ => rfl) (fun r_1 u H locs hw hP hD hS => ?_)
  obtain ⟨ap2_2, rfl⟩ : ∃ z9_, z9_ = u := ⟨_, rfl⟩
  have hP : va_P G.1 vwCl [(m0, .inr (8, [.ref m1, .ref m2, .ref m3, .ref m4, .ref m5, .ref m6, .ref m7, .ref m8, .ref m9, .int fu, .int fd, .int fi, .int nu, .int nw, .int nf, .int bf, .int bn, .ref m10, .int ts, .int ap2_2, .int fs, .int ln, .int fo, .int fa, .ref m11, .ref m12, .ref m13, .ref m14, .int wr])), aJ G m1 560 mw, aZ G m2 2 ik, aI G m3 20 zs, aI G m4 20 cl, aI G m5 20 hs, aI G m6 20 ks, aI G m7 20 wa, aI G m8 20 ne, aI G m9 4 mn, aI G m10 400 tx, aI G m11 6 th, aI G m12 6 od, aI G m13 30 bk, aI G m14 30 bh] H := hP
  have hD : va_D A [(m0, .inr (8, [.ref m1, .ref m2, .ref m3, .ref m4, .ref m5, .ref m6, .ref m7, .ref m8, .ref m9, .int fu, .int fd, .int fi, .int nu, .int nw, .int nf, .int bf, .int bn, .ref m10, .int ts, .int ap2_2, .int fs, .int ln, .int fo, .int fa, .ref m11, .ref m12, .ref m13, .ref m14, .int wr])), aJ G m1 560 mw, aZ G m2 2 ik, aI G m3 20 zs, aI G m4 20 cl, aI G m5 20 hs, aI G m6 20 ks, aI G m7 20 wa, aI G m8 20 ne, aI G m9 4 mn, aI G m10 400 tx, aI G m11 6 th, aI G m12 6 od, aI G m13 30 bk, aI G m14 30 bh] := hD
  have hv := hv r_1 ap2_2 hw
  refine lv_istore_n (lv' := [(1, .int r_1), (0, .ref m0)]) hx hb dX8_takeWord_4 rfl hl (by decide) rfl (fun ls hl => ?_)
  refine lv_aload_n hx hb dX8_takeWord_5 rfl (lv_at hl 1 rfl) ?_
  refine lv_aload_n hx hb dX8_takeWord_6 rfl (lv_at hl 1 rfl) ?_
  refine va_get (D := G.1) (ci := 8) (v := .int ap2_2) (C := RX8) (T := TX8) (N := 29) hx hb hts hinX8 hown hKK.1 hP 0 rfl rfl 19 (by decide) kl80 (fun _ h9 => h9) rfl dX8_takeWord_7 ?_
  refine va_put (D := G.1) (ci := 8) (v := .int ap2_2) (ty := .int) (C := RX8) (T := TX8) (N := 29) hx hb hts hinX8 tyX8 tyX8_ok nmX8 hown hKK.1 hP hD hS 0 rfl rfl 20 (by decide) kl90 (fun _ h9 => h9) rfl (by decide +kernel) rfl rfl (Nat.le_of_ble_eq_true rfl) dX8_takeWord_10 (fun H locs hP hD hS => ?_)
  have hP : va_P G.1 vwCl [(m0, .inr (8, [.ref m1, .ref m2, .ref m3, .ref m4, .ref m5, .ref m6, .ref m7, .ref m8, .ref m9, .int fu, .int fd, .int fi, .int nu, .int nw, .int nf, .int bf, .int bn, .ref m10, .int ts, .int ap2_2, .int ap2_2, .int ln, .int fo, .int fa, .ref m11, .ref m12, .ref m13, .ref m14, .int wr])), aJ G m1 560 mw, aZ G m2 2 ik, aI G m3 20 zs, aI G m4 20 cl, aI G m5 20 hs, aI G m6 20 ks, aI G m7 20 wa, aI G m8 20 ne, aI G m9 4 mn, aI G m10 400 tx, aI G m11 6 th, aI G m12 6 od, aI G m13 30 bk, aI G m14 30 bh] H := hP
  have hD : va_D A [(m0, .inr (8, [.ref m1, .ref m2, .ref m3, .ref m4, .ref m5, .ref m6, .ref m7, .ref m8, .ref m9, .int fu, .int fd, .int fi, .int nu, .int nw, .int nf, .int bf, .int bn, .ref m10, .int ts, .int ap2_2, .int ap2_2, .int ln, .int fo, .int fa, .ref m11, .ref m12, .ref m13, .ref m14, .int wr])), aJ G m1 560 mw, aZ G m2 2 ik, aI G m3 20 zs, aI G m4 20 cl, aI G m5 20 hs, aI G m6 20 ks, aI G m7 20 wa, aI G m8 20 ne, aI G m9 4 mn, aI G m10 400 tx, aI G m11 6 th, aI G m12 6 od, aI G m13 30 bk, aI G m14 30 bh] := hD
  obtain ⟨I13_4, μ13_5, hi0, hs_11⟩ := hv
  have Lm_13 : ∀ (n_12 : Nat) (gm019_3 : Int32) (H : Heap) (locs : List Loc) (ls : Array Slot), μ13_5 gm019_3 < n_12 → I13_4 gm019_3 → va_P G.1 vwCl [(m0, .inr (8, [.ref m1, .ref m2, .ref m3, .ref m4, .ref m5, .ref m6, .ref m7, .ref m8, .ref m9, .int fu, .int fd, .int fi, .int nu, .int nw, .int nf, .int bf, .int bn, .ref m10, .int ts, .int gm019_3, .int ap2_2, .int ln, .int fo, .int fa, .ref m11, .ref m12, .ref m13, .ref m14, .int wr])), aJ G m1 560 mw, aZ G m2 2 ik, aI G m3 20 zs, aI G m4 20 cl, aI G m5 20 hs, aI G m6 20 ks, aI G m7 20 wa, aI G m8 20 ne, aI G m9 4 mn, aI G m10 400 tx, aI G m11 6 th, aI G m12 6 od, aI G m13 30 bk, aI G m14 30 bh] H → va_D A [(m0, .inr (8, [.ref m1, .ref m2, .ref m3, .ref m4, .ref m5, .ref m6, .ref m7, .ref m8, .ref m9, .int fu, .int fd, .int fi, .int nu, .int nw, .int nf, .int bf, .int bn, .ref m10, .int ts, .int gm019_3, .int ap2_2, .int ln, .int fo, .int fa, .ref m11, .ref m12, .ref m13, .ref m14, .int wr])), aJ G m1 560 mw, aZ G m2 2 ik, aI G m3 20 zs, aI G m4 20 cl, aI G m5 20 hs, aI G m6 20 ks, aI G m7 20 wa, aI G m8 20 ne, aI G m9 4 mn, aI G m10 400 tx, aI G m11 6 th, aI G m12 6 od, aI G m13 30 bk, aI G m14 30 bh] → va_S A s.heap H locs → lv_has ls 2 [(1, .int r_1), (0, .ref m0)] → W p l e R s m args below meth c H locs 0 0 Q (F0 m 13 ls []) := by
    intro n_12
    induction n_12 with
    | zero => intro gm019_3 H locs ls hm; exact absurd hm (Nat.not_lt_zero _)
    | succ n_12 ih_6 =>
      intro gm019_3 H locs ls hI_7 hi hP hD hS hl
      have hv := hs_11 gm019_3 hi
      refine lv_aload_n hx hb dX8_takeWord_13 rfl (lv_at hl 1 rfl) ?_
      refine va_get (D := G.1) (ci := 8) (v := .int gm019_3) (C := RX8) (T := TX8) (N := 29) hx hb hts hinX8 hown hKK.1 hP 0 rfl rfl 19 (by decide) kl80 (fun _ h9 => h9) rfl dX8_takeWord_14 ?_
      refine lv_aload_n hx hb dX8_takeWord_17 rfl (lv_at hl 1 rfl) ?_
      refine va_get (D := G.1) (ci := 8) (v := .int ts) (C := RX8) (T := TX8) (N := 29) hx hb hts hinX8 hown hKK.1 hP 0 rfl rfl 18 (by decide) kl74 (fun _ h9 => h9) rfl dX8_takeWord_18 ?_
      refine lv_icmp_ge (tgt := 59) hx hb dX8_takeWord_21 (by decide) (fun hc_8 => ?_) (fun hc_8 => ?_)
      · have hv := hv.1 hc_8
        refine lv_aload_n hx hb dX8_takeWord_59 rfl (lv_at hl 1 rfl) ?_
        refine lv_aload_n hx hb dX8_takeWord_60 rfl (lv_at hl 1 rfl) ?_
        refine va_get (D := G.1) (ci := 8) (v := .int gm019_3) (C := RX8) (T := TX8) (N := 29) hx hb hts hinX8 hown hKK.1 hP 0 rfl rfl 19 (by decide) kl80 (fun _ h9 => h9) rfl dX8_takeWord_61 ?_
        refine lv_aload_n hx hb dX8_takeWord_64 rfl (lv_at hl 1 rfl) ?_
        refine va_get (D := G.1) (ci := 8) (v := .int ap2_2) (C := RX8) (T := TX8) (N := 29) hx hb hts hinX8 hown hKK.1 hP 0 rfl rfl 20 (by decide) kl90 (fun _ h9 => h9) rfl dX8_takeWord_65 ?_
        refine lv_isub hx hb dX8_takeWord_68 ?_
        refine va_put (D := G.1) (ci := 8) (v := .int (gm019_3 - ap2_2)) (ty := .int) (C := RX8) (T := TX8) (N := 29) hx hb hts hinX8 tyX8 tyX8_ok nmX8 hown hKK.1 hP hD hS 0 rfl rfl 21 (by decide) kl97 (fun _ h9 => h9) rfl (by decide +kernel) rfl rfl (Nat.le_of_ble_eq_true rfl) dX8_takeWord_69 (fun H locs hP hD hS => ?_)
        have hP : va_P G.1 vwCl [(m0, .inr (8, [.ref m1, .ref m2, .ref m3, .ref m4, .ref m5, .ref m6, .ref m7, .ref m8, .ref m9, .int fu, .int fd, .int fi, .int nu, .int nw, .int nf, .int bf, .int bn, .ref m10, .int ts, .int gm019_3, .int ap2_2, .int (gm019_3 - ap2_2), .int fo, .int fa, .ref m11, .ref m12, .ref m13, .ref m14, .int wr])), aJ G m1 560 mw, aZ G m2 2 ik, aI G m3 20 zs, aI G m4 20 cl, aI G m5 20 hs, aI G m6 20 ks, aI G m7 20 wa, aI G m8 20 ne, aI G m9 4 mn, aI G m10 400 tx, aI G m11 6 th, aI G m12 6 od, aI G m13 30 bk, aI G m14 30 bh] H := hP
        have hD : va_D A [(m0, .inr (8, [.ref m1, .ref m2, .ref m3, .ref m4, .ref m5, .ref m6, .ref m7, .ref m8, .ref m9, .int fu, .int fd, .int fi, .int nu, .int nw, .int nf, .int bf, .int bn, .ref m10, .int ts, .int gm019_3, .int ap2_2, .int (gm019_3 - ap2_2), .int fo, .int fa, .ref m11, .ref m12, .ref m13, .ref m14, .int wr])), aJ G m1 560 mw, aZ G m2 2 ik, aI G m3 20 zs, aI G m4 20 cl, aI G m5 20 hs, aI G m6 20 ks, aI G m7 20 wa, aI G m8 20 ne, aI G m9 4 mn, aI G m10 400 tx, aI G m11 6 th, aI G m12 6 od, aI G m13 30 bk, aI G m14 30 bh] := hD
        exact x_vret (gm019_3, ap2_2, (gm019_3 - ap2_2)) hQ hx hb hr hlocks hS dX8_takeWord_72 hv hP hD
      · have hv := hv.2 hc_8
        refine lv_aload_n hx hb dX8_takeWord_24 rfl (lv_at hl 1 rfl) ?_
        refine va_get (D := G.1) (ci := 8) (v := .ref m10) (C := RX8) (T := TX8) (N := 29) hx hb hts hinX8 hown hKK.1 hP 0 rfl rfl 17 (by decide) kl46 (fun _ h9 => h9) rfl dX8_takeWord_25 ?_
        refine lv_aload_n hx hb dX8_takeWord_28 rfl (lv_at hl 1 rfl) ?_
        refine va_get (D := G.1) (ci := 8) (v := .int gm019_3) (C := RX8) (T := TX8) (N := 29) hx hb hts hinX8 hown hKK.1 hP 0 rfl rfl 19 (by decide) kl80 (fun _ h9 => h9) rfl dX8_takeWord_29 ?_
        obtain ⟨hin, hv⟩ := hv
        refine va_iald hx hb hKK.1 hP 10 0 rfl rfl hin dX8_takeWord_32 ?_
        refine lv_i2l hx hb dX8_takeWord_33 rfl ?_
        refine lv_ldc2 (v := 97) hx hb hown kl93 dX8_takeWord_34 ?_
        refine lv_ldc2 (v := 122) hx hb hown kl95 dX8_takeWord_37 ?_
        refine x_calliR (x_runS (As := [.long ((tx gm019_3.toNatClampNeg).toInt64), .long 97, .long 122]) (rest := []) (n := 3) ⟨hx, hb, hml, hown, hts⟩ (k_X8_in l G  _ ((tx gm019_3.toNatClampNeg).toInt64) 97 122) gX8_takeWord_X8_in rfl (by decide +kernel) ⟨Nat.le_trans (Nat.le_of_ble_eq_true rfl) hRf, Nat.le_trans (Nat.le_of_ble_eq_true rfl) hRl⟩ hKK hSS hS hA hP hD [] (by decide) rfl rfl hl.1 rfl (Nat.le_of_ble_eq_true rfl) dX8_takeWord_40) hP hD hS hA [] rfl (fun r_9 _ H locs hw hP hS => ?_)
        replace hw := hw.symm; subst hw
        refine lv_if_eq (tgt := 59) hx hb dX8_takeWord_43 (by decide) (fun hc_10 => ?_) (fun hc_10 => ?_)
        · have hv := hv.1 (tv_eq.mp hc_10)
          refine lv_aload_n hx hb dX8_takeWord_59 rfl (lv_at hl 1 rfl) ?_
          refine lv_aload_n hx hb dX8_takeWord_60 rfl (lv_at hl 1 rfl) ?_
          refine va_get (D := G.1) (ci := 8) (v := .int gm019_3) (C := RX8) (T := TX8) (N := 29) hx hb hts hinX8 hown hKK.1 hP 0 rfl rfl 19 (by decide) kl80 (fun _ h9 => h9) rfl dX8_takeWord_61 ?_
          refine lv_aload_n hx hb dX8_takeWord_64 rfl (lv_at hl 1 rfl) ?_
          refine va_get (D := G.1) (ci := 8) (v := .int ap2_2) (C := RX8) (T := TX8) (N := 29) hx hb hts hinX8 hown hKK.1 hP 0 rfl rfl 20 (by decide) kl90 (fun _ h9 => h9) rfl dX8_takeWord_65 ?_
          refine lv_isub hx hb dX8_takeWord_68 ?_
          refine va_put (D := G.1) (ci := 8) (v := .int (gm019_3 - ap2_2)) (ty := .int) (C := RX8) (T := TX8) (N := 29) hx hb hts hinX8 tyX8 tyX8_ok nmX8 hown hKK.1 hP hD hS 0 rfl rfl 21 (by decide) kl97 (fun _ h9 => h9) rfl (by decide +kernel) rfl rfl (Nat.le_of_ble_eq_true rfl) dX8_takeWord_69 (fun H locs hP hD hS => ?_)
          have hP : va_P G.1 vwCl [(m0, .inr (8, [.ref m1, .ref m2, .ref m3, .ref m4, .ref m5, .ref m6, .ref m7, .ref m8, .ref m9, .int fu, .int fd, .int fi, .int nu, .int nw, .int nf, .int bf, .int bn, .ref m10, .int ts, .int gm019_3, .int ap2_2, .int (gm019_3 - ap2_2), .int fo, .int fa, .ref m11, .ref m12, .ref m13, .ref m14, .int wr])), aJ G m1 560 mw, aZ G m2 2 ik, aI G m3 20 zs, aI G m4 20 cl, aI G m5 20 hs, aI G m6 20 ks, aI G m7 20 wa, aI G m8 20 ne, aI G m9 4 mn, aI G m10 400 tx, aI G m11 6 th, aI G m12 6 od, aI G m13 30 bk, aI G m14 30 bh] H := hP
          have hD : va_D A [(m0, .inr (8, [.ref m1, .ref m2, .ref m3, .ref m4, .ref m5, .ref m6, .ref m7, .ref m8, .ref m9, .int fu, .int fd, .int fi, .int nu, .int nw, .int nf, .int bf, .int bn, .ref m10, .int ts, .int gm019_3, .int ap2_2, .int (gm019_3 - ap2_2), .int fo, .int fa, .ref m11, .ref m12, .ref m13, .ref m14, .int wr])), aJ G m1 560 mw, aZ G m2 2 ik, aI G m3 20 zs, aI G m4 20 cl, aI G m5 20 hs, aI G m6 20 ks, aI G m7 20 wa, aI G m8 20 ne, aI G m9 4 mn, aI G m10 400 tx, aI G m11 6 th, aI G m12 6 od, aI G m13 30 bk, aI G m14 30 bh] := hD
          exact x_vret (gm019_3, ap2_2, (gm019_3 - ap2_2)) hQ hx hb hr hlocks hS dX8_takeWord_72 hv hP hD
        · have hv := hv.2 (tv_eqn.mp hc_10)
          refine lv_aload_n hx hb dX8_takeWord_46 rfl (lv_at hl 1 rfl) ?_
          refine lv_dup hx hb dX8_takeWord_47 rfl ?_
          refine va_get (D := G.1) (ci := 8) (v := .int gm019_3) (C := RX8) (T := TX8) (N := 29) hx hb hts hinX8 hown hKK.1 hP 0 rfl rfl 19 (by decide) kl80 (fun _ h9 => h9) rfl dX8_takeWord_48 ?_
          refine lv_iconst (v := 1) hx hb dX8_takeWord_51 (by decide) ?_
          refine lv_iadd hx hb dX8_takeWord_52 ?_
          refine va_put (D := G.1) (ci := 8) (v := .int (gm019_3 + 1)) (ty := .int) (C := RX8) (T := TX8) (N := 29) hx hb hts hinX8 tyX8 tyX8_ok nmX8 hown hKK.1 hP hD hS 0 rfl rfl 19 (by decide) kl80 (fun _ h9 => h9) rfl (by decide +kernel) rfl rfl (Nat.le_of_ble_eq_true rfl) dX8_takeWord_53 (fun H locs hP hD hS => ?_)
          have hP : va_P G.1 vwCl [(m0, .inr (8, [.ref m1, .ref m2, .ref m3, .ref m4, .ref m5, .ref m6, .ref m7, .ref m8, .ref m9, .int fu, .int fd, .int fi, .int nu, .int nw, .int nf, .int bf, .int bn, .ref m10, .int ts, .int (gm019_3 + 1), .int ap2_2, .int ln, .int fo, .int fa, .ref m11, .ref m12, .ref m13, .ref m14, .int wr])), aJ G m1 560 mw, aZ G m2 2 ik, aI G m3 20 zs, aI G m4 20 cl, aI G m5 20 hs, aI G m6 20 ks, aI G m7 20 wa, aI G m8 20 ne, aI G m9 4 mn, aI G m10 400 tx, aI G m11 6 th, aI G m12 6 od, aI G m13 30 bk, aI G m14 30 bh] H := hP
          have hD : va_D A [(m0, .inr (8, [.ref m1, .ref m2, .ref m3, .ref m4, .ref m5, .ref m6, .ref m7, .ref m8, .ref m9, .int fu, .int fd, .int fi, .int nu, .int nw, .int nf, .int bf, .int bn, .ref m10, .int ts, .int (gm019_3 + 1), .int ap2_2, .int ln, .int fo, .int fa, .ref m11, .ref m12, .ref m13, .ref m14, .int wr])), aJ G m1 560 mw, aZ G m2 2 ik, aI G m3 20 zs, aI G m4 20 cl, aI G m5 20 hs, aI G m6 20 ks, aI G m7 20 wa, aI G m8 20 ne, aI G m9 4 mn, aI G m10 400 tx, aI G m11 6 th, aI G m12 6 od, aI G m13 30 bk, aI G m14 30 bh] := hD
          refine lv_goto (tgt := 13) hx hb dX8_takeWord_56 (by decide) ?_
          exact ih_6 _ _ _ _ (Nat.lt_of_lt_of_le hv.2 (Nat.le_of_lt_succ hI_7)) hv.1 hP hD hS hl
  exact Lm_13 _ _ _ _ _ (Nat.lt_succ_self _) hi0 hP hD hS hl
theorem k_X8_takeWord (l : Launch) (G : Gt) (m0 m1 m2 m3 m4 m5 m6 m7 m8 m9 m10 m11 m12 m13 m14 : Nat) (sz : Nat) (mw : Nat → Int64) (ik : Nat → Int32) (zs : Nat → Int32) (cl : Nat → Int32) (hs : Nat → Int32) (ks : Nat → Int32) (wa : Nat → Int32) (ne : Nat → Int32) (mn : Nat → Int32) (tx : Nat → Int32) (th : Nat → Int32) (od : Nat → Int32) (bk : Nat → Int32) (bh : Nat → Int32) (fu : Int32) (fd : Int32) (fi : Int32) (nu : Int32) (nw : Int32) (nf : Int32) (bf : Int32) (bn : Int32) (ts : Int32) (ap : Int32) (fs : Int32) (ln : Int32) (fo : Int32) (fa : Int32) (wr : Int32) (hp : True) : MetV l yX8_takeWord wsX8_takeWord 1 25 G [.ref m0] [(m0, .inr (8, [.ref m1, .ref m2, .ref m3, .ref m4, .ref m5, .ref m6, .ref m7, .ref m8, .ref m9, .int fu, .int fd, .int fi, .int nu, .int nw, .int nf, .int bf, .int bn, .ref m10, .int ts, .int ap, .int fs, .int ln, .int fo, .int fa, .ref m11, .ref m12, .ref m13, .ref m14, .int wr])), aJ G m1 560 mw, aZ G m2 2 ik, aI G m3 20 zs, aI G m4 20 cl, aI G m5 20 hs, aI G m6 20 ks, aI G m7 20 wa, aI G m8 20 ne, aI G m9 4 mn, aI G m10 400 tx, aI G m11 6 th, aI G m12 6 od, aI G m13 30 bk, aI G m14 30 bh] sz (fun (u : (Int32) × (Int32) × (Int32)) => True) (fun (u : (Int32) × (Int32) × (Int32)) => [(m0, .inr (8, [.ref m1, .ref m2, .ref m3, .ref m4, .ref m5, .ref m6, .ref m7, .ref m8, .ref m9, .int fu, .int fd, .int fi, .int nu, .int nw, .int nf, .int bf, .int bn, .ref m10, .int ts, .int u.1, .int u.2.1, .int u.2.2, .int fo, .int fa, .ref m11, .ref m12, .ref m13, .ref m14, .int wr])), aJ G m1 560 mw, aZ G m2 2 ik, aI G m3 20 zs, aI G m4 20 cl, aI G m5 20 hs, aI G m6 20 ks, aI G m7 20 wa, aI G m8 20 ne, aI G m9 4 mn, aI G m10 400 tx, aI G m11 6 th, aI G m12 6 od, aI G m13 30 bk, aI G m14 30 bh]) :=
  c_X8_takeWord l G m0 m1 m2 m3 m4 m5 m6 m7 m8 m9 m10 m11 m12 m13 m14 sz mw ik zs cl hs ks wa ne mn tx th od bk bh fu fd fi nu nw nf bf bn ts ap fs ln fo fa wr (by
    sorry)

set_option maxHeartbeats 4000000 in
set_option maxRecDepth 100000 in
theorem c_X8_isWord (l : Launch) (G : Gt) (m0 m1 m2 m3 m4 m5 m6 m7 m8 m9 m10 m11 m12 m13 m14 : Nat) (sz : Nat) (mw : Nat → Int64) (ik : Nat → Int32) (zs : Nat → Int32) (cl : Nat → Int32) (hs : Nat → Int32) (ks : Nat → Int32) (wa : Nat → Int32) (ne : Nat → Int32) (mn : Nat → Int32) (tx : Nat → Int32) (th : Nat → Int32) (od : Nat → Int32) (bk : Nat → Int32) (bh : Nat → Int32) (fu : Int32) (fd : Int32) (fi : Int32) (nu : Int32) (nw : Int32) (nf : Int32) (bf : Int32) (bn : Int32) (ts : Int32) (ap : Int32) (fs : Int32) (ln : Int32) (fo : Int32) (fa : Int32) (wr : Int32) (x : Int32) (a1 : Int32) (a2 : Int32) (a3 : Int32) (a4 : Int32) (a5 : Int32) (a6 : Int32) (hv : (¬ ln = x → ∃ (I18_4 : Int32 → Int32 → Prop) (μ18_5 : Int32 → Int32 → Nat), I18_4 0 0 ∧ (∀ (x8_2 : Int32) (x9_3 : Int32), I18_4 x8_2 x9_3 → (x ≤ x9_3 → (narrow .boolean (.int x8_2) = .int x8_2) ∧ True) ∧ (¬ (x ≤ x9_3) → (x8_2 = 0 → (narrow .boolean (.int x8_2) = .int x8_2) ∧ True) ∧ (¬ (x8_2 = 0) → (vp_in (fs + x9_3) 400) ∧ ((¬ x9_3 = 0 → (¬ x9_3 = 1 → (¬ x9_3 = 2 → (¬ x9_3 = 3 → (¬ x9_3 = 4 → (¬ (tx (fs + x9_3).toNatClampNeg) = a6 → I18_4 0 (x9_3 + 1) ∧ μ18_5 0 (x9_3 + 1) < μ18_5 x8_2 x9_3) ∧ ((tx (fs + x9_3).toNatClampNeg) = a6 → I18_4 1 (x9_3 + 1) ∧ μ18_5 1 (x9_3 + 1) < μ18_5 x8_2 x9_3)) ∧ (x9_3 = 4 → (¬ (tx (fs + x9_3).toNatClampNeg) = a5 → I18_4 0 (x9_3 + 1) ∧ μ18_5 0 (x9_3 + 1) < μ18_5 x8_2 x9_3) ∧ ((tx (fs + x9_3).toNatClampNeg) = a5 → I18_4 1 (x9_3 + 1) ∧ μ18_5 1 (x9_3 + 1) < μ18_5 x8_2 x9_3))) ∧ (x9_3 = 3 → (¬ (tx (fs + x9_3).toNatClampNeg) = a4 → I18_4 0 (x9_3 + 1) ∧ μ18_5 0 (x9_3 + 1) < μ18_5 x8_2 x9_3) ∧ ((tx (fs + x9_3).toNatClampNeg) = a4 → I18_4 1 (x9_3 + 1) ∧ μ18_5 1 (x9_3 + 1) < μ18_5 x8_2 x9_3))) ∧ (x9_3 = 2 → (¬ (tx (fs + x9_3).toNatClampNeg) = a3 → I18_4 0 (x9_3 + 1) ∧ μ18_5 0 (x9_3 + 1) < μ18_5 x8_2 x9_3) ∧ ((tx (fs + x9_3).toNatClampNeg) = a3 → I18_4 1 (x9_3 + 1) ∧ μ18_5 1 (x9_3 + 1) < μ18_5 x8_2 x9_3))) ∧ (x9_3 = 1 → (¬ (tx (fs + x9_3).toNatClampNeg) = a2 → I18_4 0 (x9_3 + 1) ∧ μ18_5 0 (x9_3 + 1) < μ18_5 x8_2 x9_3) ∧ ((tx (fs + x9_3).toNatClampNeg) = a2 → I18_4 1 (x9_3 + 1) ∧ μ18_5 1 (x9_3 + 1) < μ18_5 x8_2 x9_3))) ∧ (x9_3 = 0 → (¬ (tx (fs + x9_3).toNatClampNeg) = a1 → I18_4 0 (x9_3 + 1) ∧ μ18_5 0 (x9_3 + 1) < μ18_5 x8_2 x9_3) ∧ ((tx (fs + x9_3).toNatClampNeg) = a1 → I18_4 1 (x9_3 + 1) ∧ μ18_5 1 (x9_3 + 1) < μ18_5 x8_2 x9_3))))))) ∧ (ln = x → ∃ (I18_26 : Int32 → Int32 → Prop) (μ18_27 : Int32 → Int32 → Nat), I18_26 1 0 ∧ (∀ (x8_24 : Int32) (x9_25 : Int32), I18_26 x8_24 x9_25 → (x ≤ x9_25 → (narrow .boolean (.int x8_24) = .int x8_24) ∧ True) ∧ (¬ (x ≤ x9_25) → (x8_24 = 0 → (narrow .boolean (.int x8_24) = .int x8_24) ∧ True) ∧ (¬ (x8_24 = 0) → (vp_in (fs + x9_25) 400) ∧ ((¬ x9_25 = 0 → (¬ x9_25 = 1 → (¬ x9_25 = 2 → (¬ x9_25 = 3 → (¬ x9_25 = 4 → (¬ (tx (fs + x9_25).toNatClampNeg) = a6 → I18_26 0 (x9_25 + 1) ∧ μ18_27 0 (x9_25 + 1) < μ18_27 x8_24 x9_25) ∧ ((tx (fs + x9_25).toNatClampNeg) = a6 → I18_26 1 (x9_25 + 1) ∧ μ18_27 1 (x9_25 + 1) < μ18_27 x8_24 x9_25)) ∧ (x9_25 = 4 → (¬ (tx (fs + x9_25).toNatClampNeg) = a5 → I18_26 0 (x9_25 + 1) ∧ μ18_27 0 (x9_25 + 1) < μ18_27 x8_24 x9_25) ∧ ((tx (fs + x9_25).toNatClampNeg) = a5 → I18_26 1 (x9_25 + 1) ∧ μ18_27 1 (x9_25 + 1) < μ18_27 x8_24 x9_25))) ∧ (x9_25 = 3 → (¬ (tx (fs + x9_25).toNatClampNeg) = a4 → I18_26 0 (x9_25 + 1) ∧ μ18_27 0 (x9_25 + 1) < μ18_27 x8_24 x9_25) ∧ ((tx (fs + x9_25).toNatClampNeg) = a4 → I18_26 1 (x9_25 + 1) ∧ μ18_27 1 (x9_25 + 1) < μ18_27 x8_24 x9_25))) ∧ (x9_25 = 2 → (¬ (tx (fs + x9_25).toNatClampNeg) = a3 → I18_26 0 (x9_25 + 1) ∧ μ18_27 0 (x9_25 + 1) < μ18_27 x8_24 x9_25) ∧ ((tx (fs + x9_25).toNatClampNeg) = a3 → I18_26 1 (x9_25 + 1) ∧ μ18_27 1 (x9_25 + 1) < μ18_27 x8_24 x9_25))) ∧ (x9_25 = 1 → (¬ (tx (fs + x9_25).toNatClampNeg) = a2 → I18_26 0 (x9_25 + 1) ∧ μ18_27 0 (x9_25 + 1) < μ18_27 x8_24 x9_25) ∧ ((tx (fs + x9_25).toNatClampNeg) = a2 → I18_26 1 (x9_25 + 1) ∧ μ18_27 1 (x9_25 + 1) < μ18_27 x8_24 x9_25))) ∧ (x9_25 = 0 → (¬ (tx (fs + x9_25).toNatClampNeg) = a1 → I18_26 0 (x9_25 + 1) ∧ μ18_27 0 (x9_25 + 1) < μ18_27 x8_24 x9_25) ∧ ((tx (fs + x9_25).toNatClampNeg) = a1 → I18_26 1 (x9_25 + 1) ∧ μ18_27 1 (x9_25 + 1) < μ18_27 x8_24 x9_25)))))))) : MetI l yX8_isWord wsX8_isWord 0 0 G [.ref m0, .int x, .int a1, .int a2, .int a3, .int a4, .int a5, .int a6] [(m0, .inr (8, [.ref m1, .ref m2, .ref m3, .ref m4, .ref m5, .ref m6, .ref m7, .ref m8, .ref m9, .int fu, .int fd, .int fi, .int nu, .int nw, .int nf, .int bf, .int bn, .ref m10, .int ts, .int ap, .int fs, .int ln, .int fo, .int fa, .ref m11, .ref m12, .ref m13, .ref m14, .int wr])), aJ G m1 560 mw, aZ G m2 2 ik, aI G m3 20 zs, aI G m4 20 cl, aI G m5 20 hs, aI G m6 20 ks, aI G m7 20 wa, aI G m8 20 ne, aI G m9 4 mn, aI G m10 400 tx, aI G m11 6 th, aI G m12 6 od, aI G m13 30 bk, aI G m14 30 bh] sz (fun (r : Int32) (_ : Unit) => True) (fun (_ : Unit) => [(m0, .inr (8, [.ref m1, .ref m2, .ref m3, .ref m4, .ref m5, .ref m6, .ref m7, .ref m8, .ref m9, .int fu, .int fd, .int fi, .int nu, .int nw, .int nf, .int bf, .int bn, .ref m10, .int ts, .int ap, .int fs, .int ln, .int fo, .int fa, .ref m11, .ref m12, .ref m13, .ref m14, .int wr])), aJ G m1 560 mw, aZ G m2 2 ik, aI G m3 20 zs, aI G m4 20 cl, aI G m5 20 hs, aI G m6 20 ks, aI G m7 20 wa, aI G m8 20 ne, aI G m9 4 mn, aI G m10 400 tx, aI G m11 6 th, aI G m12 6 od, aI G m13 30 bk, aI G m14 30 bh]) := by
  refine x_startI (cc := cX8_isWord) (maxL := 10) (ret := (some .boolean)) (by decide) rfl (Nat.le_of_ble_eq_true rfl) ?_
  intro p e s m args below meth c A R Q ls hRf hRl hQ C hP hD hS hA hSS hl
  obtain ⟨hx, hb, hr, hml, hown, hts, hlocks, hKK⟩ := C
  have hown : s.vm.findClass RX8 = some m.cls := hown
  have hl : lv_has ls 10 [(0, .ref m0), (1, .int x), (2, .int a1), (3, .int a2), (4, .int a3), (5, .int a4), (6, .int a5), (7, .int a6)] := hl
  have hinX8 : ∀ w ∈ u_ws RX8 TX8 29, w ∈ wsX8_isWord := by decide +kernel
  have kl46 := hts (.fieldLink RX8 46 "WarmStonesModel" "text" "[I") (by decide +kernel)
  have kl90 := hts (.fieldLink RX8 90 "WarmStonesModel" "first" "I") (by decide +kernel)
  have kl97 := hts (.fieldLink RX8 97 "WarmStonesModel" "length" "I") (by decide +kernel)
  refine lv_aload_n hx hb dX8_isWord_0 rfl (lv_at hl 0 rfl) ?_
  refine va_get (D := G.1) (ci := 8) (v := .int ln) (C := RX8) (T := TX8) (N := 29) hx hb hts hinX8 hown hKK.1 hP 0 rfl rfl 21 (by decide) kl97 (fun _ h9 => h9) rfl dX8_isWord_1 ?_
  refine lv_iload_n hx hb dX8_isWord_4 rfl (lv_at hl 1 rfl) ?_
  refine lv_icmp_ne (tgt := 12) hx hb dX8_isWord_5 (by decide) (fun hc_1 => ?_) (fun hc_1 => ?_)
  · have hv := hv.1 hc_1
    refine lv_iconst (v := 0) hx hb dX8_isWord_12 (by decide) ?_
    refine lv_istore (lv' := [(8, .int 0), (0, .ref m0), (1, .int x), (2, .int a1), (3, .int a2), (4, .int a3), (5, .int a4), (6, .int a5), (7, .int a6)]) hx hb dX8_isWord_13 hl (by decide) rfl (fun ls hl => ?_)
    refine lv_iconst (v := 0) hx hb dX8_isWord_15 (by decide) ?_
    refine lv_istore (lv' := [(9, .int 0), (8, .int 0), (0, .ref m0), (1, .int x), (2, .int a1), (3, .int a2), (4, .int a3), (5, .int a4), (6, .int a5), (7, .int a6)]) hx hb dX8_isWord_16 hl (by decide) rfl (fun ls hl => ?_)
    obtain ⟨I18_4, μ18_5, hi0, hs_21⟩ := hv
    have Lm_23 : ∀ (n_22 : Nat) (x8_2 : Int32) (x9_3 : Int32) (H : Heap) (locs : List Loc) (ls : Array Slot), μ18_5 x8_2 x9_3 < n_22 → I18_4 x8_2 x9_3 → va_P G.1 vwCl [(m0, .inr (8, [.ref m1, .ref m2, .ref m3, .ref m4, .ref m5, .ref m6, .ref m7, .ref m8, .ref m9, .int fu, .int fd, .int fi, .int nu, .int nw, .int nf, .int bf, .int bn, .ref m10, .int ts, .int ap, .int fs, .int ln, .int fo, .int fa, .ref m11, .ref m12, .ref m13, .ref m14, .int wr])), aJ G m1 560 mw, aZ G m2 2 ik, aI G m3 20 zs, aI G m4 20 cl, aI G m5 20 hs, aI G m6 20 ks, aI G m7 20 wa, aI G m8 20 ne, aI G m9 4 mn, aI G m10 400 tx, aI G m11 6 th, aI G m12 6 od, aI G m13 30 bk, aI G m14 30 bh] H → va_D A [(m0, .inr (8, [.ref m1, .ref m2, .ref m3, .ref m4, .ref m5, .ref m6, .ref m7, .ref m8, .ref m9, .int fu, .int fd, .int fi, .int nu, .int nw, .int nf, .int bf, .int bn, .ref m10, .int ts, .int ap, .int fs, .int ln, .int fo, .int fa, .ref m11, .ref m12, .ref m13, .ref m14, .int wr])), aJ G m1 560 mw, aZ G m2 2 ik, aI G m3 20 zs, aI G m4 20 cl, aI G m5 20 hs, aI G m6 20 ks, aI G m7 20 wa, aI G m8 20 ne, aI G m9 4 mn, aI G m10 400 tx, aI G m11 6 th, aI G m12 6 od, aI G m13 30 bk, aI G m14 30 bh] → va_S A s.heap H locs → lv_has ls 10 [(9, .int x9_3), (8, .int x8_2), (0, .ref m0), (1, .int x), (2, .int a1), (3, .int a2), (4, .int a3), (5, .int a4), (6, .int a5), (7, .int a6)] → W p l e R s m args below meth c H locs 0 0 Q (F0 m 18 ls []) := by
      intro n_22
      induction n_22 with
      | zero => intro x8_2 x9_3 H locs ls hm; exact absurd hm (Nat.not_lt_zero _)
      | succ n_22 ih_6 =>
        intro x8_2 x9_3 H locs ls hI_7 hi hP hD hS hl
        have hv := hs_21 x8_2 x9_3 hi
        refine lv_iload hx hb dX8_isWord_18 (lv_at hl 0 rfl) ?_
        refine lv_iload_n hx hb dX8_isWord_20 rfl (lv_at hl 3 rfl) ?_
        refine lv_icmp_ge (tgt := 111) hx hb dX8_isWord_21 (by decide) (fun hc_8 => ?_) (fun hc_8 => ?_)
        · have hv := hv.1 hc_8
          refine lv_iload hx hb dX8_isWord_111 (lv_at hl 1 rfl) ?_
          exact x_zret (v := x8_2) () hQ hx hb hr hlocks hS dX8_isWord_113 hv.1 hv.2 hP hD
        · have hv := hv.2 hc_8
          refine lv_iload hx hb dX8_isWord_24 (lv_at hl 1 rfl) ?_
          refine lv_if_eq (tgt := 111) hx hb dX8_isWord_26 (by decide) (fun hc_9 => ?_) (fun hc_9 => ?_)
          · have hv := hv.1 hc_9
            refine lv_iload hx hb dX8_isWord_111 (lv_at hl 1 rfl) ?_
            exact x_zret (v := x8_2) () hQ hx hb hr hlocks hS dX8_isWord_113 hv.1 hv.2 hP hD
          · have hv := hv.2 hc_9
            refine lv_aload_n hx hb dX8_isWord_29 rfl (lv_at hl 2 rfl) ?_
            refine va_get (D := G.1) (ci := 8) (v := .ref m10) (C := RX8) (T := TX8) (N := 29) hx hb hts hinX8 hown hKK.1 hP 0 rfl rfl 17 (by decide) kl46 (fun _ h9 => h9) rfl dX8_isWord_30 ?_
            refine lv_aload_n hx hb dX8_isWord_33 rfl (lv_at hl 2 rfl) ?_
            refine va_get (D := G.1) (ci := 8) (v := .int fs) (C := RX8) (T := TX8) (N := 29) hx hb hts hinX8 hown hKK.1 hP 0 rfl rfl 20 (by decide) kl90 (fun _ h9 => h9) rfl dX8_isWord_34 ?_
            refine lv_iload hx hb dX8_isWord_37 (lv_at hl 0 rfl) ?_
            refine lv_iadd hx hb dX8_isWord_39 ?_
            obtain ⟨hin, hv⟩ := hv
            refine va_iald hx hb hKK.1 hP 10 0 rfl rfl hin dX8_isWord_40 ?_
            refine lv_iload hx hb dX8_isWord_41 (lv_at hl 0 rfl) ?_
            refine lv_if_ne (tgt := 50) hx hb dX8_isWord_43 (by decide) (fun hc_10 => ?_) (fun hc_10 => ?_)
            · have hv := hv.1 hc_10
              refine lv_iload hx hb dX8_isWord_50 (lv_at hl 0 rfl) ?_
              refine lv_iconst (v := 1) hx hb dX8_isWord_52 (by decide) ?_
              refine lv_icmp_ne (tgt := 60) hx hb dX8_isWord_53 (by decide) (fun hc_11 => ?_) (fun hc_11 => ?_)
              · have hv := hv.1 hc_11
                refine lv_iload hx hb dX8_isWord_60 (lv_at hl 0 rfl) ?_
                refine lv_iconst (v := 2) hx hb dX8_isWord_62 (by decide) ?_
                refine lv_icmp_ne (tgt := 71) hx hb dX8_isWord_63 (by decide) (fun hc_12 => ?_) (fun hc_12 => ?_)
                · have hv := hv.1 hc_12
                  refine lv_iload hx hb dX8_isWord_71 (lv_at hl 0 rfl) ?_
                  refine lv_iconst (v := 3) hx hb dX8_isWord_73 (by decide) ?_
                  refine lv_icmp_ne (tgt := 82) hx hb dX8_isWord_74 (by decide) (fun hc_13 => ?_) (fun hc_13 => ?_)
                  · have hv := hv.1 hc_13
                    refine lv_iload hx hb dX8_isWord_82 (lv_at hl 0 rfl) ?_
                    refine lv_iconst (v := 4) hx hb dX8_isWord_84 (by decide) ?_
                    refine lv_icmp_ne (tgt := 93) hx hb dX8_isWord_85 (by decide) (fun hc_14 => ?_) (fun hc_14 => ?_)
                    · have hv := hv.1 hc_14
                      refine lv_iload hx hb dX8_isWord_93 (lv_at hl 9 rfl) ?_
                      refine lv_icmp_ne (tgt := 102) hx hb dX8_isWord_95 (by decide) (fun hc_15 => ?_) (fun hc_15 => ?_)
                      · have hv := hv.1 hc_15
                        refine lv_iconst (v := 0) hx hb dX8_isWord_102 (by decide) ?_
                        refine lv_istore (lv' := [(8, .int 0), (9, .int x9_3), (0, .ref m0), (1, .int x), (2, .int a1), (3, .int a2), (4, .int a3), (5, .int a4), (6, .int a5), (7, .int a6)]) hx hb dX8_isWord_103 hl (by decide) rfl (fun ls hl => ?_)
                        refine lv_iinc (v := (x9_3 + 1)) (lv' := [(9, .int (x9_3 + 1)), (8, .int 0), (0, .ref m0), (1, .int x), (2, .int a1), (3, .int a2), (4, .int a3), (5, .int a4), (6, .int a5), (7, .int a6)]) hx hb dX8_isWord_105 hl (k := 1) rfl rfl (by decide) rfl (fun ls hl => ?_)
                        refine lv_goto (tgt := 18) hx hb dX8_isWord_108 (by decide) ?_
                        exact ih_6 _ _ _ _ _ (Nat.lt_of_lt_of_le hv.2 (Nat.le_of_lt_succ hI_7)) hv.1 hP hD hS hl
                      · have hv := hv.2 hc_15
                        refine lv_iconst (v := 1) hx hb dX8_isWord_98 (by decide) ?_
                        refine lv_goto (tgt := 103) hx hb dX8_isWord_99 (by decide) ?_
                        refine lv_istore (lv' := [(8, .int 1), (9, .int x9_3), (0, .ref m0), (1, .int x), (2, .int a1), (3, .int a2), (4, .int a3), (5, .int a4), (6, .int a5), (7, .int a6)]) hx hb dX8_isWord_103 hl (by decide) rfl (fun ls hl => ?_)
                        refine lv_iinc (v := (x9_3 + 1)) (lv' := [(9, .int (x9_3 + 1)), (8, .int 1), (0, .ref m0), (1, .int x), (2, .int a1), (3, .int a2), (4, .int a3), (5, .int a4), (6, .int a5), (7, .int a6)]) hx hb dX8_isWord_105 hl (k := 1) rfl rfl (by decide) rfl (fun ls hl => ?_)
                        refine lv_goto (tgt := 18) hx hb dX8_isWord_108 (by decide) ?_
                        exact ih_6 _ _ _ _ _ (Nat.lt_of_lt_of_le hv.2 (Nat.le_of_lt_succ hI_7)) hv.1 hP hD hS hl
                    · have hv := hv.2 hc_14
                      refine lv_iload hx hb dX8_isWord_88 (lv_at hl 8 rfl) ?_
                      refine lv_goto (tgt := 95) hx hb dX8_isWord_90 (by decide) ?_
                      refine lv_icmp_ne (tgt := 102) hx hb dX8_isWord_95 (by decide) (fun hc_16 => ?_) (fun hc_16 => ?_)
                      · have hv := hv.1 hc_16
                        refine lv_iconst (v := 0) hx hb dX8_isWord_102 (by decide) ?_
                        refine lv_istore (lv' := [(8, .int 0), (9, .int x9_3), (0, .ref m0), (1, .int x), (2, .int a1), (3, .int a2), (4, .int a3), (5, .int a4), (6, .int a5), (7, .int a6)]) hx hb dX8_isWord_103 hl (by decide) rfl (fun ls hl => ?_)
                        refine lv_iinc (v := (x9_3 + 1)) (lv' := [(9, .int (x9_3 + 1)), (8, .int 0), (0, .ref m0), (1, .int x), (2, .int a1), (3, .int a2), (4, .int a3), (5, .int a4), (6, .int a5), (7, .int a6)]) hx hb dX8_isWord_105 hl (k := 1) rfl rfl (by decide) rfl (fun ls hl => ?_)
                        refine lv_goto (tgt := 18) hx hb dX8_isWord_108 (by decide) ?_
                        exact ih_6 _ _ _ _ _ (Nat.lt_of_lt_of_le hv.2 (Nat.le_of_lt_succ hI_7)) hv.1 hP hD hS hl
                      · have hv := hv.2 hc_16
                        refine lv_iconst (v := 1) hx hb dX8_isWord_98 (by decide) ?_
                        refine lv_goto (tgt := 103) hx hb dX8_isWord_99 (by decide) ?_
                        refine lv_istore (lv' := [(8, .int 1), (9, .int x9_3), (0, .ref m0), (1, .int x), (2, .int a1), (3, .int a2), (4, .int a3), (5, .int a4), (6, .int a5), (7, .int a6)]) hx hb dX8_isWord_103 hl (by decide) rfl (fun ls hl => ?_)
                        refine lv_iinc (v := (x9_3 + 1)) (lv' := [(9, .int (x9_3 + 1)), (8, .int 1), (0, .ref m0), (1, .int x), (2, .int a1), (3, .int a2), (4, .int a3), (5, .int a4), (6, .int a5), (7, .int a6)]) hx hb dX8_isWord_105 hl (k := 1) rfl rfl (by decide) rfl (fun ls hl => ?_)
                        refine lv_goto (tgt := 18) hx hb dX8_isWord_108 (by decide) ?_
                        exact ih_6 _ _ _ _ _ (Nat.lt_of_lt_of_le hv.2 (Nat.le_of_lt_succ hI_7)) hv.1 hP hD hS hl
                  · have hv := hv.2 hc_13
                    refine lv_iload hx hb dX8_isWord_77 (lv_at hl 7 rfl) ?_
                    refine lv_goto (tgt := 95) hx hb dX8_isWord_79 (by decide) ?_
                    refine lv_icmp_ne (tgt := 102) hx hb dX8_isWord_95 (by decide) (fun hc_17 => ?_) (fun hc_17 => ?_)
                    · have hv := hv.1 hc_17
                      refine lv_iconst (v := 0) hx hb dX8_isWord_102 (by decide) ?_
                      refine lv_istore (lv' := [(8, .int 0), (9, .int x9_3), (0, .ref m0), (1, .int x), (2, .int a1), (3, .int a2), (4, .int a3), (5, .int a4), (6, .int a5), (7, .int a6)]) hx hb dX8_isWord_103 hl (by decide) rfl (fun ls hl => ?_)
                      refine lv_iinc (v := (x9_3 + 1)) (lv' := [(9, .int (x9_3 + 1)), (8, .int 0), (0, .ref m0), (1, .int x), (2, .int a1), (3, .int a2), (4, .int a3), (5, .int a4), (6, .int a5), (7, .int a6)]) hx hb dX8_isWord_105 hl (k := 1) rfl rfl (by decide) rfl (fun ls hl => ?_)
                      refine lv_goto (tgt := 18) hx hb dX8_isWord_108 (by decide) ?_
                      exact ih_6 _ _ _ _ _ (Nat.lt_of_lt_of_le hv.2 (Nat.le_of_lt_succ hI_7)) hv.1 hP hD hS hl
                    · have hv := hv.2 hc_17
                      refine lv_iconst (v := 1) hx hb dX8_isWord_98 (by decide) ?_
                      refine lv_goto (tgt := 103) hx hb dX8_isWord_99 (by decide) ?_
                      refine lv_istore (lv' := [(8, .int 1), (9, .int x9_3), (0, .ref m0), (1, .int x), (2, .int a1), (3, .int a2), (4, .int a3), (5, .int a4), (6, .int a5), (7, .int a6)]) hx hb dX8_isWord_103 hl (by decide) rfl (fun ls hl => ?_)
                      refine lv_iinc (v := (x9_3 + 1)) (lv' := [(9, .int (x9_3 + 1)), (8, .int 1), (0, .ref m0), (1, .int x), (2, .int a1), (3, .int a2), (4, .int a3), (5, .int a4), (6, .int a5), (7, .int a6)]) hx hb dX8_isWord_105 hl (k := 1) rfl rfl (by decide) rfl (fun ls hl => ?_)
                      refine lv_goto (tgt := 18) hx hb dX8_isWord_108 (by decide) ?_
                      exact ih_6 _ _ _ _ _ (Nat.lt_of_lt_of_le hv.2 (Nat.le_of_lt_succ hI_7)) hv.1 hP hD hS hl
                · have hv := hv.2 hc_12
                  refine lv_iload hx hb dX8_isWord_66 (lv_at hl 6 rfl) ?_
                  refine lv_goto (tgt := 95) hx hb dX8_isWord_68 (by decide) ?_
                  refine lv_icmp_ne (tgt := 102) hx hb dX8_isWord_95 (by decide) (fun hc_18 => ?_) (fun hc_18 => ?_)
                  · have hv := hv.1 hc_18
                    refine lv_iconst (v := 0) hx hb dX8_isWord_102 (by decide) ?_
                    refine lv_istore (lv' := [(8, .int 0), (9, .int x9_3), (0, .ref m0), (1, .int x), (2, .int a1), (3, .int a2), (4, .int a3), (5, .int a4), (6, .int a5), (7, .int a6)]) hx hb dX8_isWord_103 hl (by decide) rfl (fun ls hl => ?_)
                    refine lv_iinc (v := (x9_3 + 1)) (lv' := [(9, .int (x9_3 + 1)), (8, .int 0), (0, .ref m0), (1, .int x), (2, .int a1), (3, .int a2), (4, .int a3), (5, .int a4), (6, .int a5), (7, .int a6)]) hx hb dX8_isWord_105 hl (k := 1) rfl rfl (by decide) rfl (fun ls hl => ?_)
                    refine lv_goto (tgt := 18) hx hb dX8_isWord_108 (by decide) ?_
                    exact ih_6 _ _ _ _ _ (Nat.lt_of_lt_of_le hv.2 (Nat.le_of_lt_succ hI_7)) hv.1 hP hD hS hl
                  · have hv := hv.2 hc_18
                    refine lv_iconst (v := 1) hx hb dX8_isWord_98 (by decide) ?_
                    refine lv_goto (tgt := 103) hx hb dX8_isWord_99 (by decide) ?_
                    refine lv_istore (lv' := [(8, .int 1), (9, .int x9_3), (0, .ref m0), (1, .int x), (2, .int a1), (3, .int a2), (4, .int a3), (5, .int a4), (6, .int a5), (7, .int a6)]) hx hb dX8_isWord_103 hl (by decide) rfl (fun ls hl => ?_)
                    refine lv_iinc (v := (x9_3 + 1)) (lv' := [(9, .int (x9_3 + 1)), (8, .int 1), (0, .ref m0), (1, .int x), (2, .int a1), (3, .int a2), (4, .int a3), (5, .int a4), (6, .int a5), (7, .int a6)]) hx hb dX8_isWord_105 hl (k := 1) rfl rfl (by decide) rfl (fun ls hl => ?_)
                    refine lv_goto (tgt := 18) hx hb dX8_isWord_108 (by decide) ?_
                    exact ih_6 _ _ _ _ _ (Nat.lt_of_lt_of_le hv.2 (Nat.le_of_lt_succ hI_7)) hv.1 hP hD hS hl
              · have hv := hv.2 hc_11
                refine lv_iload_n hx hb dX8_isWord_56 rfl (lv_at hl 5 rfl) ?_
                refine lv_goto (tgt := 95) hx hb dX8_isWord_57 (by decide) ?_
                refine lv_icmp_ne (tgt := 102) hx hb dX8_isWord_95 (by decide) (fun hc_19 => ?_) (fun hc_19 => ?_)
                · have hv := hv.1 hc_19
                  refine lv_iconst (v := 0) hx hb dX8_isWord_102 (by decide) ?_
                  refine lv_istore (lv' := [(8, .int 0), (9, .int x9_3), (0, .ref m0), (1, .int x), (2, .int a1), (3, .int a2), (4, .int a3), (5, .int a4), (6, .int a5), (7, .int a6)]) hx hb dX8_isWord_103 hl (by decide) rfl (fun ls hl => ?_)
                  refine lv_iinc (v := (x9_3 + 1)) (lv' := [(9, .int (x9_3 + 1)), (8, .int 0), (0, .ref m0), (1, .int x), (2, .int a1), (3, .int a2), (4, .int a3), (5, .int a4), (6, .int a5), (7, .int a6)]) hx hb dX8_isWord_105 hl (k := 1) rfl rfl (by decide) rfl (fun ls hl => ?_)
                  refine lv_goto (tgt := 18) hx hb dX8_isWord_108 (by decide) ?_
                  exact ih_6 _ _ _ _ _ (Nat.lt_of_lt_of_le hv.2 (Nat.le_of_lt_succ hI_7)) hv.1 hP hD hS hl
                · have hv := hv.2 hc_19
                  refine lv_iconst (v := 1) hx hb dX8_isWord_98 (by decide) ?_
                  refine lv_goto (tgt := 103) hx hb dX8_isWord_99 (by decide) ?_
                  refine lv_istore (lv' := [(8, .int 1), (9, .int x9_3), (0, .ref m0), (1, .int x), (2, .int a1), (3, .int a2), (4, .int a3), (5, .int a4), (6, .int a5), (7, .int a6)]) hx hb dX8_isWord_103 hl (by decide) rfl (fun ls hl => ?_)
                  refine lv_iinc (v := (x9_3 + 1)) (lv' := [(9, .int (x9_3 + 1)), (8, .int 1), (0, .ref m0), (1, .int x), (2, .int a1), (3, .int a2), (4, .int a3), (5, .int a4), (6, .int a5), (7, .int a6)]) hx hb dX8_isWord_105 hl (k := 1) rfl rfl (by decide) rfl (fun ls hl => ?_)
                  refine lv_goto (tgt := 18) hx hb dX8_isWord_108 (by decide) ?_
                  exact ih_6 _ _ _ _ _ (Nat.lt_of_lt_of_le hv.2 (Nat.le_of_lt_succ hI_7)) hv.1 hP hD hS hl
            · have hv := hv.2 hc_10
              refine lv_iload_n hx hb dX8_isWord_46 rfl (lv_at hl 4 rfl) ?_
              refine lv_goto (tgt := 95) hx hb dX8_isWord_47 (by decide) ?_
              refine lv_icmp_ne (tgt := 102) hx hb dX8_isWord_95 (by decide) (fun hc_20 => ?_) (fun hc_20 => ?_)
              · have hv := hv.1 hc_20
                refine lv_iconst (v := 0) hx hb dX8_isWord_102 (by decide) ?_
                refine lv_istore (lv' := [(8, .int 0), (9, .int x9_3), (0, .ref m0), (1, .int x), (2, .int a1), (3, .int a2), (4, .int a3), (5, .int a4), (6, .int a5), (7, .int a6)]) hx hb dX8_isWord_103 hl (by decide) rfl (fun ls hl => ?_)
                refine lv_iinc (v := (x9_3 + 1)) (lv' := [(9, .int (x9_3 + 1)), (8, .int 0), (0, .ref m0), (1, .int x), (2, .int a1), (3, .int a2), (4, .int a3), (5, .int a4), (6, .int a5), (7, .int a6)]) hx hb dX8_isWord_105 hl (k := 1) rfl rfl (by decide) rfl (fun ls hl => ?_)
                refine lv_goto (tgt := 18) hx hb dX8_isWord_108 (by decide) ?_
                exact ih_6 _ _ _ _ _ (Nat.lt_of_lt_of_le hv.2 (Nat.le_of_lt_succ hI_7)) hv.1 hP hD hS hl
              · have hv := hv.2 hc_20
                refine lv_iconst (v := 1) hx hb dX8_isWord_98 (by decide) ?_
                refine lv_goto (tgt := 103) hx hb dX8_isWord_99 (by decide) ?_
                refine lv_istore (lv' := [(8, .int 1), (9, .int x9_3), (0, .ref m0), (1, .int x), (2, .int a1), (3, .int a2), (4, .int a3), (5, .int a4), (6, .int a5), (7, .int a6)]) hx hb dX8_isWord_103 hl (by decide) rfl (fun ls hl => ?_)
                refine lv_iinc (v := (x9_3 + 1)) (lv' := [(9, .int (x9_3 + 1)), (8, .int 1), (0, .ref m0), (1, .int x), (2, .int a1), (3, .int a2), (4, .int a3), (5, .int a4), (6, .int a5), (7, .int a6)]) hx hb dX8_isWord_105 hl (k := 1) rfl rfl (by decide) rfl (fun ls hl => ?_)
                refine lv_goto (tgt := 18) hx hb dX8_isWord_108 (by decide) ?_
                exact ih_6 _ _ _ _ _ (Nat.lt_of_lt_of_le hv.2 (Nat.le_of_lt_succ hI_7)) hv.1 hP hD hS hl
    exact Lm_23 _ _ _ _ _ _ (Nat.lt_succ_self _) hi0 hP hD hS hl
  · have hv := hv.2 hc_1
    refine lv_iconst (v := 1) hx hb dX8_isWord_8 (by decide) ?_
    refine lv_goto (tgt := 13) hx hb dX8_isWord_9 (by decide) ?_
    refine lv_istore (lv' := [(8, .int 1), (0, .ref m0), (1, .int x), (2, .int a1), (3, .int a2), (4, .int a3), (5, .int a4), (6, .int a5), (7, .int a6)]) hx hb dX8_isWord_13 hl (by decide) rfl (fun ls hl => ?_)
    refine lv_iconst (v := 0) hx hb dX8_isWord_15 (by decide) ?_
    refine lv_istore (lv' := [(9, .int 0), (8, .int 1), (0, .ref m0), (1, .int x), (2, .int a1), (3, .int a2), (4, .int a3), (5, .int a4), (6, .int a5), (7, .int a6)]) hx hb dX8_isWord_16 hl (by decide) rfl (fun ls hl => ?_)
    obtain ⟨I18_26, μ18_27, hi0, hs_43⟩ := hv
    have Lm_45 : ∀ (n_44 : Nat) (x8_24 : Int32) (x9_25 : Int32) (H : Heap) (locs : List Loc) (ls : Array Slot), μ18_27 x8_24 x9_25 < n_44 → I18_26 x8_24 x9_25 → va_P G.1 vwCl [(m0, .inr (8, [.ref m1, .ref m2, .ref m3, .ref m4, .ref m5, .ref m6, .ref m7, .ref m8, .ref m9, .int fu, .int fd, .int fi, .int nu, .int nw, .int nf, .int bf, .int bn, .ref m10, .int ts, .int ap, .int fs, .int ln, .int fo, .int fa, .ref m11, .ref m12, .ref m13, .ref m14, .int wr])), aJ G m1 560 mw, aZ G m2 2 ik, aI G m3 20 zs, aI G m4 20 cl, aI G m5 20 hs, aI G m6 20 ks, aI G m7 20 wa, aI G m8 20 ne, aI G m9 4 mn, aI G m10 400 tx, aI G m11 6 th, aI G m12 6 od, aI G m13 30 bk, aI G m14 30 bh] H → va_D A [(m0, .inr (8, [.ref m1, .ref m2, .ref m3, .ref m4, .ref m5, .ref m6, .ref m7, .ref m8, .ref m9, .int fu, .int fd, .int fi, .int nu, .int nw, .int nf, .int bf, .int bn, .ref m10, .int ts, .int ap, .int fs, .int ln, .int fo, .int fa, .ref m11, .ref m12, .ref m13, .ref m14, .int wr])), aJ G m1 560 mw, aZ G m2 2 ik, aI G m3 20 zs, aI G m4 20 cl, aI G m5 20 hs, aI G m6 20 ks, aI G m7 20 wa, aI G m8 20 ne, aI G m9 4 mn, aI G m10 400 tx, aI G m11 6 th, aI G m12 6 od, aI G m13 30 bk, aI G m14 30 bh] → va_S A s.heap H locs → lv_has ls 10 [(9, .int x9_25), (8, .int x8_24), (0, .ref m0), (1, .int x), (2, .int a1), (3, .int a2), (4, .int a3), (5, .int a4), (6, .int a5), (7, .int a6)] → W p l e R s m args below meth c H locs 0 0 Q (F0 m 18 ls []) := by
      intro n_44
      induction n_44 with
      | zero => intro x8_24 x9_25 H locs ls hm; exact absurd hm (Nat.not_lt_zero _)
      | succ n_44 ih_28 =>
        intro x8_24 x9_25 H locs ls hI_29 hi hP hD hS hl
        have hv := hs_43 x8_24 x9_25 hi
        refine lv_iload hx hb dX8_isWord_18 (lv_at hl 0 rfl) ?_
        refine lv_iload_n hx hb dX8_isWord_20 rfl (lv_at hl 3 rfl) ?_
        refine lv_icmp_ge (tgt := 111) hx hb dX8_isWord_21 (by decide) (fun hc_30 => ?_) (fun hc_30 => ?_)
        · have hv := hv.1 hc_30
          refine lv_iload hx hb dX8_isWord_111 (lv_at hl 1 rfl) ?_
          exact x_zret (v := x8_24) () hQ hx hb hr hlocks hS dX8_isWord_113 hv.1 hv.2 hP hD
        · have hv := hv.2 hc_30
          refine lv_iload hx hb dX8_isWord_24 (lv_at hl 1 rfl) ?_
          refine lv_if_eq (tgt := 111) hx hb dX8_isWord_26 (by decide) (fun hc_31 => ?_) (fun hc_31 => ?_)
          · have hv := hv.1 hc_31
            refine lv_iload hx hb dX8_isWord_111 (lv_at hl 1 rfl) ?_
            exact x_zret (v := x8_24) () hQ hx hb hr hlocks hS dX8_isWord_113 hv.1 hv.2 hP hD
          · have hv := hv.2 hc_31
            refine lv_aload_n hx hb dX8_isWord_29 rfl (lv_at hl 2 rfl) ?_
            refine va_get (D := G.1) (ci := 8) (v := .ref m10) (C := RX8) (T := TX8) (N := 29) hx hb hts hinX8 hown hKK.1 hP 0 rfl rfl 17 (by decide) kl46 (fun _ h9 => h9) rfl dX8_isWord_30 ?_
            refine lv_aload_n hx hb dX8_isWord_33 rfl (lv_at hl 2 rfl) ?_
            refine va_get (D := G.1) (ci := 8) (v := .int fs) (C := RX8) (T := TX8) (N := 29) hx hb hts hinX8 hown hKK.1 hP 0 rfl rfl 20 (by decide) kl90 (fun _ h9 => h9) rfl dX8_isWord_34 ?_
            refine lv_iload hx hb dX8_isWord_37 (lv_at hl 0 rfl) ?_
            refine lv_iadd hx hb dX8_isWord_39 ?_
            obtain ⟨hin, hv⟩ := hv
            refine va_iald hx hb hKK.1 hP 10 0 rfl rfl hin dX8_isWord_40 ?_
            refine lv_iload hx hb dX8_isWord_41 (lv_at hl 0 rfl) ?_
            refine lv_if_ne (tgt := 50) hx hb dX8_isWord_43 (by decide) (fun hc_32 => ?_) (fun hc_32 => ?_)
            · have hv := hv.1 hc_32
              refine lv_iload hx hb dX8_isWord_50 (lv_at hl 0 rfl) ?_
              refine lv_iconst (v := 1) hx hb dX8_isWord_52 (by decide) ?_
              refine lv_icmp_ne (tgt := 60) hx hb dX8_isWord_53 (by decide) (fun hc_33 => ?_) (fun hc_33 => ?_)
              · have hv := hv.1 hc_33
                refine lv_iload hx hb dX8_isWord_60 (lv_at hl 0 rfl) ?_
                refine lv_iconst (v := 2) hx hb dX8_isWord_62 (by decide) ?_
                refine lv_icmp_ne (tgt := 71) hx hb dX8_isWord_63 (by decide) (fun hc_34 => ?_) (fun hc_34 => ?_)
                · have hv := hv.1 hc_34
                  refine lv_iload hx hb dX8_isWord_71 (lv_at hl 0 rfl) ?_
                  refine lv_iconst (v := 3) hx hb dX8_isWord_73 (by decide) ?_
                  refine lv_icmp_ne (tgt := 82) hx hb dX8_isWord_74 (by decide) (fun hc_35 => ?_) (fun hc_35 => ?_)
                  · have hv := hv.1 hc_35
                    refine lv_iload hx hb dX8_isWord_82 (lv_at hl 0 rfl) ?_
                    refine lv_iconst (v := 4) hx hb dX8_isWord_84 (by decide) ?_
                    refine lv_icmp_ne (tgt := 93) hx hb dX8_isWord_85 (by decide) (fun hc_36 => ?_) (fun hc_36 => ?_)
                    · have hv := hv.1 hc_36
                      refine lv_iload hx hb dX8_isWord_93 (lv_at hl 9 rfl) ?_
                      refine lv_icmp_ne (tgt := 102) hx hb dX8_isWord_95 (by decide) (fun hc_37 => ?_) (fun hc_37 => ?_)
                      · have hv := hv.1 hc_37
                        refine lv_iconst (v := 0) hx hb dX8_isWord_102 (by decide) ?_
                        refine lv_istore (lv' := [(8, .int 0), (9, .int x9_25), (0, .ref m0), (1, .int x), (2, .int a1), (3, .int a2), (4, .int a3), (5, .int a4), (6, .int a5), (7, .int a6)]) hx hb dX8_isWord_103 hl (by decide) rfl (fun ls hl => ?_)
                        refine lv_iinc (v := (x9_25 + 1)) (lv' := [(9, .int (x9_25 + 1)), (8, .int 0), (0, .ref m0), (1, .int x), (2, .int a1), (3, .int a2), (4, .int a3), (5, .int a4), (6, .int a5), (7, .int a6)]) hx hb dX8_isWord_105 hl (k := 1) rfl rfl (by decide) rfl (fun ls hl => ?_)
                        refine lv_goto (tgt := 18) hx hb dX8_isWord_108 (by decide) ?_
                        exact ih_28 _ _ _ _ _ (Nat.lt_of_lt_of_le hv.2 (Nat.le_of_lt_succ hI_29)) hv.1 hP hD hS hl
                      · have hv := hv.2 hc_37
                        refine lv_iconst (v := 1) hx hb dX8_isWord_98 (by decide) ?_
                        refine lv_goto (tgt := 103) hx hb dX8_isWord_99 (by decide) ?_
                        refine lv_istore (lv' := [(8, .int 1), (9, .int x9_25), (0, .ref m0), (1, .int x), (2, .int a1), (3, .int a2), (4, .int a3), (5, .int a4), (6, .int a5), (7, .int a6)]) hx hb dX8_isWord_103 hl (by decide) rfl (fun ls hl => ?_)
                        refine lv_iinc (v := (x9_25 + 1)) (lv' := [(9, .int (x9_25 + 1)), (8, .int 1), (0, .ref m0), (1, .int x), (2, .int a1), (3, .int a2), (4, .int a3), (5, .int a4), (6, .int a5), (7, .int a6)]) hx hb dX8_isWord_105 hl (k := 1) rfl rfl (by decide) rfl (fun ls hl => ?_)
                        refine lv_goto (tgt := 18) hx hb dX8_isWord_108 (by decide) ?_
                        exact ih_28 _ _ _ _ _ (Nat.lt_of_lt_of_le hv.2 (Nat.le_of_lt_succ hI_29)) hv.1 hP hD hS hl
                    · have hv := hv.2 hc_36
                      refine lv_iload hx hb dX8_isWord_88 (lv_at hl 8 rfl) ?_
                      refine lv_goto (tgt := 95) hx hb dX8_isWord_90 (by decide) ?_
                      refine lv_icmp_ne (tgt := 102) hx hb dX8_isWord_95 (by decide) (fun hc_38 => ?_) (fun hc_38 => ?_)
                      · have hv := hv.1 hc_38
                        refine lv_iconst (v := 0) hx hb dX8_isWord_102 (by decide) ?_
                        refine lv_istore (lv' := [(8, .int 0), (9, .int x9_25), (0, .ref m0), (1, .int x), (2, .int a1), (3, .int a2), (4, .int a3), (5, .int a4), (6, .int a5), (7, .int a6)]) hx hb dX8_isWord_103 hl (by decide) rfl (fun ls hl => ?_)
                        refine lv_iinc (v := (x9_25 + 1)) (lv' := [(9, .int (x9_25 + 1)), (8, .int 0), (0, .ref m0), (1, .int x), (2, .int a1), (3, .int a2), (4, .int a3), (5, .int a4), (6, .int a5), (7, .int a6)]) hx hb dX8_isWord_105 hl (k := 1) rfl rfl (by decide) rfl (fun ls hl => ?_)
                        refine lv_goto (tgt := 18) hx hb dX8_isWord_108 (by decide) ?_
                        exact ih_28 _ _ _ _ _ (Nat.lt_of_lt_of_le hv.2 (Nat.le_of_lt_succ hI_29)) hv.1 hP hD hS hl
                      · have hv := hv.2 hc_38
                        refine lv_iconst (v := 1) hx hb dX8_isWord_98 (by decide) ?_
                        refine lv_goto (tgt := 103) hx hb dX8_isWord_99 (by decide) ?_
                        refine lv_istore (lv' := [(8, .int 1), (9, .int x9_25), (0, .ref m0), (1, .int x), (2, .int a1), (3, .int a2), (4, .int a3), (5, .int a4), (6, .int a5), (7, .int a6)]) hx hb dX8_isWord_103 hl (by decide) rfl (fun ls hl => ?_)
                        refine lv_iinc (v := (x9_25 + 1)) (lv' := [(9, .int (x9_25 + 1)), (8, .int 1), (0, .ref m0), (1, .int x), (2, .int a1), (3, .int a2), (4, .int a3), (5, .int a4), (6, .int a5), (7, .int a6)]) hx hb dX8_isWord_105 hl (k := 1) rfl rfl (by decide) rfl (fun ls hl => ?_)
                        refine lv_goto (tgt := 18) hx hb dX8_isWord_108 (by decide) ?_
                        exact ih_28 _ _ _ _ _ (Nat.lt_of_lt_of_le hv.2 (Nat.le_of_lt_succ hI_29)) hv.1 hP hD hS hl
                  · have hv := hv.2 hc_35
                    refine lv_iload hx hb dX8_isWord_77 (lv_at hl 7 rfl) ?_
                    refine lv_goto (tgt := 95) hx hb dX8_isWord_79 (by decide) ?_
                    refine lv_icmp_ne (tgt := 102) hx hb dX8_isWord_95 (by decide) (fun hc_39 => ?_) (fun hc_39 => ?_)
                    · have hv := hv.1 hc_39
                      refine lv_iconst (v := 0) hx hb dX8_isWord_102 (by decide) ?_
                      refine lv_istore (lv' := [(8, .int 0), (9, .int x9_25), (0, .ref m0), (1, .int x), (2, .int a1), (3, .int a2), (4, .int a3), (5, .int a4), (6, .int a5), (7, .int a6)]) hx hb dX8_isWord_103 hl (by decide) rfl (fun ls hl => ?_)
                      refine lv_iinc (v := (x9_25 + 1)) (lv' := [(9, .int (x9_25 + 1)), (8, .int 0), (0, .ref m0), (1, .int x), (2, .int a1), (3, .int a2), (4, .int a3), (5, .int a4), (6, .int a5), (7, .int a6)]) hx hb dX8_isWord_105 hl (k := 1) rfl rfl (by decide) rfl (fun ls hl => ?_)
                      refine lv_goto (tgt := 18) hx hb dX8_isWord_108 (by decide) ?_
                      exact ih_28 _ _ _ _ _ (Nat.lt_of_lt_of_le hv.2 (Nat.le_of_lt_succ hI_29)) hv.1 hP hD hS hl
                    · have hv := hv.2 hc_39
                      refine lv_iconst (v := 1) hx hb dX8_isWord_98 (by decide) ?_
                      refine lv_goto (tgt := 103) hx hb dX8_isWord_99 (by decide) ?_
                      refine lv_istore (lv' := [(8, .int 1), (9, .int x9_25), (0, .ref m0), (1, .int x), (2, .int a1), (3, .int a2), (4, .int a3), (5, .int a4), (6, .int a5), (7, .int a6)]) hx hb dX8_isWord_103 hl (by decide) rfl (fun ls hl => ?_)
                      refine lv_iinc (v := (x9_25 + 1)) (lv' := [(9, .int (x9_25 + 1)), (8, .int 1), (0, .ref m0), (1, .int x), (2, .int a1), (3, .int a2), (4, .int a3), (5, .int a4), (6, .int a5), (7, .int a6)]) hx hb dX8_isWord_105 hl (k := 1) rfl rfl (by decide) rfl (fun ls hl => ?_)
                      refine lv_goto (tgt := 18) hx hb dX8_isWord_108 (by decide) ?_
                      exact ih_28 _ _ _ _ _ (Nat.lt_of_lt_of_le hv.2 (Nat.le_of_lt_succ hI_29)) hv.1 hP hD hS hl
                · have hv := hv.2 hc_34
                  refine lv_iload hx hb dX8_isWord_66 (lv_at hl 6 rfl) ?_
                  refine lv_goto (tgt := 95) hx hb dX8_isWord_68 (by decide) ?_
                  refine lv_icmp_ne (tgt := 102) hx hb dX8_isWord_95 (by decide) (fun hc_40 => ?_) (fun hc_40 => ?_)
                  · have hv := hv.1 hc_40
                    refine lv_iconst (v := 0) hx hb dX8_isWord_102 (by decide) ?_
                    refine lv_istore (lv' := [(8, .int 0), (9, .int x9_25), (0, .ref m0), (1, .int x), (2, .int a1), (3, .int a2), (4, .int a3), (5, .int a4), (6, .int a5), (7, .int a6)]) hx hb dX8_isWord_103 hl (by decide) rfl (fun ls hl => ?_)
                    refine lv_iinc (v := (x9_25 + 1)) (lv' := [(9, .int (x9_25 + 1)), (8, .int 0), (0, .ref m0), (1, .int x), (2, .int a1), (3, .int a2), (4, .int a3), (5, .int a4), (6, .int a5), (7, .int a6)]) hx hb dX8_isWord_105 hl (k := 1) rfl rfl (by decide) rfl (fun ls hl => ?_)
                    refine lv_goto (tgt := 18) hx hb dX8_isWord_108 (by decide) ?_
                    exact ih_28 _ _ _ _ _ (Nat.lt_of_lt_of_le hv.2 (Nat.le_of_lt_succ hI_29)) hv.1 hP hD hS hl
                  · have hv := hv.2 hc_40
                    refine lv_iconst (v := 1) hx hb dX8_isWord_98 (by decide) ?_
                    refine lv_goto (tgt := 103) hx hb dX8_isWord_99 (by decide) ?_
                    refine lv_istore (lv' := [(8, .int 1), (9, .int x9_25), (0, .ref m0), (1, .int x), (2, .int a1), (3, .int a2), (4, .int a3), (5, .int a4), (6, .int a5), (7, .int a6)]) hx hb dX8_isWord_103 hl (by decide) rfl (fun ls hl => ?_)
                    refine lv_iinc (v := (x9_25 + 1)) (lv' := [(9, .int (x9_25 + 1)), (8, .int 1), (0, .ref m0), (1, .int x), (2, .int a1), (3, .int a2), (4, .int a3), (5, .int a4), (6, .int a5), (7, .int a6)]) hx hb dX8_isWord_105 hl (k := 1) rfl rfl (by decide) rfl (fun ls hl => ?_)
                    refine lv_goto (tgt := 18) hx hb dX8_isWord_108 (by decide) ?_
                    exact ih_28 _ _ _ _ _ (Nat.lt_of_lt_of_le hv.2 (Nat.le_of_lt_succ hI_29)) hv.1 hP hD hS hl
              · have hv := hv.2 hc_33
                refine lv_iload_n hx hb dX8_isWord_56 rfl (lv_at hl 5 rfl) ?_
                refine lv_goto (tgt := 95) hx hb dX8_isWord_57 (by decide) ?_
                refine lv_icmp_ne (tgt := 102) hx hb dX8_isWord_95 (by decide) (fun hc_41 => ?_) (fun hc_41 => ?_)
                · have hv := hv.1 hc_41
                  refine lv_iconst (v := 0) hx hb dX8_isWord_102 (by decide) ?_
                  refine lv_istore (lv' := [(8, .int 0), (9, .int x9_25), (0, .ref m0), (1, .int x), (2, .int a1), (3, .int a2), (4, .int a3), (5, .int a4), (6, .int a5), (7, .int a6)]) hx hb dX8_isWord_103 hl (by decide) rfl (fun ls hl => ?_)
                  refine lv_iinc (v := (x9_25 + 1)) (lv' := [(9, .int (x9_25 + 1)), (8, .int 0), (0, .ref m0), (1, .int x), (2, .int a1), (3, .int a2), (4, .int a3), (5, .int a4), (6, .int a5), (7, .int a6)]) hx hb dX8_isWord_105 hl (k := 1) rfl rfl (by decide) rfl (fun ls hl => ?_)
                  refine lv_goto (tgt := 18) hx hb dX8_isWord_108 (by decide) ?_
                  exact ih_28 _ _ _ _ _ (Nat.lt_of_lt_of_le hv.2 (Nat.le_of_lt_succ hI_29)) hv.1 hP hD hS hl
                · have hv := hv.2 hc_41
                  refine lv_iconst (v := 1) hx hb dX8_isWord_98 (by decide) ?_
                  refine lv_goto (tgt := 103) hx hb dX8_isWord_99 (by decide) ?_
                  refine lv_istore (lv' := [(8, .int 1), (9, .int x9_25), (0, .ref m0), (1, .int x), (2, .int a1), (3, .int a2), (4, .int a3), (5, .int a4), (6, .int a5), (7, .int a6)]) hx hb dX8_isWord_103 hl (by decide) rfl (fun ls hl => ?_)
                  refine lv_iinc (v := (x9_25 + 1)) (lv' := [(9, .int (x9_25 + 1)), (8, .int 1), (0, .ref m0), (1, .int x), (2, .int a1), (3, .int a2), (4, .int a3), (5, .int a4), (6, .int a5), (7, .int a6)]) hx hb dX8_isWord_105 hl (k := 1) rfl rfl (by decide) rfl (fun ls hl => ?_)
                  refine lv_goto (tgt := 18) hx hb dX8_isWord_108 (by decide) ?_
                  exact ih_28 _ _ _ _ _ (Nat.lt_of_lt_of_le hv.2 (Nat.le_of_lt_succ hI_29)) hv.1 hP hD hS hl
            · have hv := hv.2 hc_32
              refine lv_iload_n hx hb dX8_isWord_46 rfl (lv_at hl 4 rfl) ?_
              refine lv_goto (tgt := 95) hx hb dX8_isWord_47 (by decide) ?_
              refine lv_icmp_ne (tgt := 102) hx hb dX8_isWord_95 (by decide) (fun hc_42 => ?_) (fun hc_42 => ?_)
              · have hv := hv.1 hc_42
                refine lv_iconst (v := 0) hx hb dX8_isWord_102 (by decide) ?_
                refine lv_istore (lv' := [(8, .int 0), (9, .int x9_25), (0, .ref m0), (1, .int x), (2, .int a1), (3, .int a2), (4, .int a3), (5, .int a4), (6, .int a5), (7, .int a6)]) hx hb dX8_isWord_103 hl (by decide) rfl (fun ls hl => ?_)
                refine lv_iinc (v := (x9_25 + 1)) (lv' := [(9, .int (x9_25 + 1)), (8, .int 0), (0, .ref m0), (1, .int x), (2, .int a1), (3, .int a2), (4, .int a3), (5, .int a4), (6, .int a5), (7, .int a6)]) hx hb dX8_isWord_105 hl (k := 1) rfl rfl (by decide) rfl (fun ls hl => ?_)
                refine lv_goto (tgt := 18) hx hb dX8_isWord_108 (by decide) ?_
                exact ih_28 _ _ _ _ _ (Nat.lt_of_lt_of_le hv.2 (Nat.le_of_lt_succ hI_29)) hv.1 hP hD hS hl
              · have hv := hv.2 hc_42
                refine lv_iconst (v := 1) hx hb dX8_isWord_98 (by decide) ?_
                refine lv_goto (tgt := 103) hx hb dX8_isWord_99 (by decide) ?_
                refine lv_istore (lv' := [(8, .int 1), (9, .int x9_25), (0, .ref m0), (1, .int x), (2, .int a1), (3, .int a2), (4, .int a3), (5, .int a4), (6, .int a5), (7, .int a6)]) hx hb dX8_isWord_103 hl (by decide) rfl (fun ls hl => ?_)
                refine lv_iinc (v := (x9_25 + 1)) (lv' := [(9, .int (x9_25 + 1)), (8, .int 1), (0, .ref m0), (1, .int x), (2, .int a1), (3, .int a2), (4, .int a3), (5, .int a4), (6, .int a5), (7, .int a6)]) hx hb dX8_isWord_105 hl (k := 1) rfl rfl (by decide) rfl (fun ls hl => ?_)
                refine lv_goto (tgt := 18) hx hb dX8_isWord_108 (by decide) ?_
                exact ih_28 _ _ _ _ _ (Nat.lt_of_lt_of_le hv.2 (Nat.le_of_lt_succ hI_29)) hv.1 hP hD hS hl
    exact Lm_45 _ _ _ _ _ _ (Nat.lt_succ_self _) hi0 hP hD hS hl
theorem k_X8_isWord (l : Launch) (G : Gt) (m0 m1 m2 m3 m4 m5 m6 m7 m8 m9 m10 m11 m12 m13 m14 : Nat) (sz : Nat) (mw : Nat → Int64) (ik : Nat → Int32) (zs : Nat → Int32) (cl : Nat → Int32) (hs : Nat → Int32) (ks : Nat → Int32) (wa : Nat → Int32) (ne : Nat → Int32) (mn : Nat → Int32) (tx : Nat → Int32) (th : Nat → Int32) (od : Nat → Int32) (bk : Nat → Int32) (bh : Nat → Int32) (fu : Int32) (fd : Int32) (fi : Int32) (nu : Int32) (nw : Int32) (nf : Int32) (bf : Int32) (bn : Int32) (ts : Int32) (ap : Int32) (fs : Int32) (ln : Int32) (fo : Int32) (fa : Int32) (wr : Int32) (x : Int32) (a1 : Int32) (a2 : Int32) (a3 : Int32) (a4 : Int32) (a5 : Int32) (a6 : Int32) (hp : True) : MetI l yX8_isWord wsX8_isWord 0 0 G [.ref m0, .int x, .int a1, .int a2, .int a3, .int a4, .int a5, .int a6] [(m0, .inr (8, [.ref m1, .ref m2, .ref m3, .ref m4, .ref m5, .ref m6, .ref m7, .ref m8, .ref m9, .int fu, .int fd, .int fi, .int nu, .int nw, .int nf, .int bf, .int bn, .ref m10, .int ts, .int ap, .int fs, .int ln, .int fo, .int fa, .ref m11, .ref m12, .ref m13, .ref m14, .int wr])), aJ G m1 560 mw, aZ G m2 2 ik, aI G m3 20 zs, aI G m4 20 cl, aI G m5 20 hs, aI G m6 20 ks, aI G m7 20 wa, aI G m8 20 ne, aI G m9 4 mn, aI G m10 400 tx, aI G m11 6 th, aI G m12 6 od, aI G m13 30 bk, aI G m14 30 bh] sz (fun (r : Int32) (_ : Unit) => True) (fun (_ : Unit) => [(m0, .inr (8, [.ref m1, .ref m2, .ref m3, .ref m4, .ref m5, .ref m6, .ref m7, .ref m8, .ref m9, .int fu, .int fd, .int fi, .int nu, .int nw, .int nf, .int bf, .int bn, .ref m10, .int ts, .int ap, .int fs, .int ln, .int fo, .int fa, .ref m11, .ref m12, .ref m13, .ref m14, .int wr])), aJ G m1 560 mw, aZ G m2 2 ik, aI G m3 20 zs, aI G m4 20 cl, aI G m5 20 hs, aI G m6 20 ks, aI G m7 20 wa, aI G m8 20 ne, aI G m9 4 mn, aI G m10 400 tx, aI G m11 6 th, aI G m12 6 od, aI G m13 30 bk, aI G m14 30 bh]) :=
  c_X8_isWord l G m0 m1 m2 m3 m4 m5 m6 m7 m8 m9 m10 m11 m12 m13 m14 sz mw ik zs cl hs ks wa ne mn tx th od bk bh fu fd fi nu nw nf bf bn ts ap fs ln fo fa wr x a1 a2 a3 a4 a5 a6 (by
    sorry)

set_option maxHeartbeats 4000000 in
set_option maxRecDepth 100000 in
theorem c_X8_takeNumber (l : Launch) (G : Gt) (m0 m1 m2 m3 m4 m5 m6 m7 m8 m9 m10 m11 m12 m13 m14 : Nat) (sz : Nat) (mw : Nat → Int64) (ik : Nat → Int32) (zs : Nat → Int32) (cl : Nat → Int32) (hs : Nat → Int32) (ks : Nat → Int32) (wa : Nat → Int32) (ne : Nat → Int32) (mn : Nat → Int32) (tx : Nat → Int32) (th : Nat → Int32) (od : Nat → Int32) (bk : Nat → Int32) (bh : Nat → Int32) (fu : Int32) (fd : Int32) (fi : Int32) (nu : Int32) (nw : Int32) (nf : Int32) (bf : Int32) (bn : Int32) (ts : Int32) (ap : Int32) (fs : Int32) (ln : Int32) (fo : Int32) (fa : Int32) (wr : Int32) (x : Int32) (y : Int32) (hv : (fo ≤ 0 → (True) ∧ (∀ (r_2 : Int32) (ap2_3 : Int32), (True) → ((True) ∧ (∀ (r_5 : Int32) (fo2_6 : Int32) (fa2_7 : Int32), (True) → ((¬ r_5 = 0 → ∃ (I50_11 : Int32 → Int32 → Prop) (μ50_12 : Int32 → Int32 → Nat), I50_11 ap2_3 0 ∧ (∀ (gm019_9 : Int32) (x4_10 : Int32), I50_11 gm019_9 x4_10 → (ts ≤ gm019_9 → (5 ≤ (gm019_9 - ap2_3) → (True) ∧ (∀ (r_17 : Int32) (fo2_18 : Int32) (fa2_19 : Int32), (True) → (True))) ∧ (¬ (5 ≤ (gm019_9 - ap2_3)) → (¬ (¬ x4_10.toInt64 < x.toInt64 ∧ ¬ y.toInt64 < x4_10.toInt64) → (True) ∧ (∀ (r_22 : Int32) (fo2_23 : Int32) (fa2_24 : Int32), (True) → (True))) ∧ (¬ x4_10.toInt64 < x.toInt64 ∧ ¬ y.toInt64 < x4_10.toInt64 → (True) ∧ (∀ (r_25 : Int32) (fo2_26 : Int32) (fa2_27 : Int32), (True) → (True))))) ∧ (¬ (ts ≤ gm019_9) → (vp_in gm019_9 400) ∧ ((¬ (¬ ((tx gm019_9.toNatClampNeg).toInt64) < 48 ∧ ¬ 57 < ((tx gm019_9.toNatClampNeg).toInt64)) → (5 ≤ (gm019_9 - ap2_3) → (True) ∧ (∀ (r_31 : Int32) (fo2_32 : Int32) (fa2_33 : Int32), (True) → (True))) ∧ (¬ (5 ≤ (gm019_9 - ap2_3)) → (¬ (¬ x4_10.toInt64 < x.toInt64 ∧ ¬ y.toInt64 < x4_10.toInt64) → (True) ∧ (∀ (r_36 : Int32) (fo2_37 : Int32) (fa2_38 : Int32), (True) → (True))) ∧ (¬ x4_10.toInt64 < x.toInt64 ∧ ¬ y.toInt64 < x4_10.toInt64 → (True) ∧ (∀ (r_39 : Int32) (fo2_40 : Int32) (fa2_41 : Int32), (True) → (True))))) ∧ (¬ ((tx gm019_9.toNatClampNeg).toInt64) < 48 ∧ ¬ 57 < ((tx gm019_9.toNatClampNeg).toInt64) → (x4_10 ≤ 999999 → (vp_in gm019_9 400) ∧ (∀ (y_43 : Int32), (y_43 = (((10 * x4_10) + (tx gm019_9.toNatClampNeg)) - 48)) → (I50_11 (gm019_9 + 1) y_43 ∧ μ50_12 (gm019_9 + 1) y_43 < μ50_12 gm019_9 x4_10))) ∧ (¬ (x4_10 ≤ 999999) → I50_11 (gm019_9 + 1) x4_10 ∧ μ50_12 (gm019_9 + 1) x4_10 < μ50_12 gm019_9 x4_10)))))) ∧ (r_5 = 0 → True)))))) ∧ (¬ (fo ≤ 0) → True)) : MetI l yX8_takeNumber wsX8_takeNumber 1 25 G [.ref m0, .int x, .int y] [(m0, .inr (8, [.ref m1, .ref m2, .ref m3, .ref m4, .ref m5, .ref m6, .ref m7, .ref m8, .ref m9, .int fu, .int fd, .int fi, .int nu, .int nw, .int nf, .int bf, .int bn, .ref m10, .int ts, .int ap, .int fs, .int ln, .int fo, .int fa, .ref m11, .ref m12, .ref m13, .ref m14, .int wr])), aJ G m1 560 mw, aZ G m2 2 ik, aI G m3 20 zs, aI G m4 20 cl, aI G m5 20 hs, aI G m6 20 ks, aI G m7 20 wa, aI G m8 20 ne, aI G m9 4 mn, aI G m10 400 tx, aI G m11 6 th, aI G m12 6 od, aI G m13 30 bk, aI G m14 30 bh] sz (fun (r : Int32) (u : (Int32) × (Int32) × (Int32) × (Int32)) => True) (fun (u : (Int32) × (Int32) × (Int32) × (Int32)) => [(m0, .inr (8, [.ref m1, .ref m2, .ref m3, .ref m4, .ref m5, .ref m6, .ref m7, .ref m8, .ref m9, .int fu, .int fd, .int fi, .int nu, .int nw, .int nf, .int bf, .int bn, .ref m10, .int ts, .int u.1, .int u.2.1, .int ln, .int u.2.2.1, .int u.2.2.2, .ref m11, .ref m12, .ref m13, .ref m14, .int wr])), aJ G m1 560 mw, aZ G m2 2 ik, aI G m3 20 zs, aI G m4 20 cl, aI G m5 20 hs, aI G m6 20 ks, aI G m7 20 wa, aI G m8 20 ne, aI G m9 4 mn, aI G m10 400 tx, aI G m11 6 th, aI G m12 6 od, aI G m13 30 bk, aI G m14 30 bh]) := by
  refine x_startI (cc := cX8_takeNumber) (maxL := 6) (ret := (some .int)) (by decide) rfl (Nat.le_of_ble_eq_true rfl) ?_
  intro p e s m args below meth c A R Q ls hRf hRl hQ C hP hD hS hA hSS hl
  obtain ⟨hx, hb, hr, hml, hown, hts, hlocks, hKK⟩ := C
  have hown : s.vm.findClass RX8 = some m.cls := hown
  have hl : lv_has ls 6 [(0, .ref m0), (1, .int x), (2, .int y)] := hl
  have hinX8 : ∀ w ∈ u_ws RX8 TX8 29, w ∈ wsX8_takeNumber := by decide +kernel
  have kl100 := hts (.constantLong RX8 100 (48)) (by decide +kernel)
  have kl102 := hts (.constantLong RX8 102 (57)) (by decide +kernel)
  have kl108 := hts (.constant RX8 108 (999999)) (by decide +kernel)
  have kl46 := hts (.fieldLink RX8 46 "WarmStonesModel" "text" "[I") (by decide +kernel)
  have kl74 := hts (.fieldLink RX8 74 "WarmStonesModel" "textSize" "I") (by decide +kernel)
  have kl80 := hts (.fieldLink RX8 80 "WarmStonesModel" "at" "I") (by decide +kernel)
  have kl83 := hts (.fieldLink RX8 83 "WarmStonesModel" "faultOf" "I") (by decide +kernel)
  have kl90 := hts (.fieldLink RX8 90 "WarmStonesModel" "first" "I") (by decide +kernel)
  refine lv_aload_n hx hb dX8_takeNumber_0 rfl (lv_at hl 0 rfl) ?_
  refine va_get (D := G.1) (ci := 8) (v := .int fo) (C := RX8) (T := TX8) (N := 29) hx hb hts hinX8 hown hKK.1 hP 0 rfl rfl 22 (by decide) kl83 (fun _ h9 => h9) rfl dX8_takeNumber_1 ?_
  refine lv_if_le (tgt := 9) hx hb dX8_takeNumber_4 (by decide) (fun hc_1 => ?_) (fun hc_1 => ?_)
  · have hv := hv.1 hc_1
    refine lv_aload_n hx hb dX8_takeNumber_9 rfl (lv_at hl 0 rfl) ?_
    obtain ⟨hp, hv⟩ := hv
    refine x_calli (wr := []) (w' := fun (u : (Int32)) => [(m0, .inr (8, [.ref m1, .ref m2, .ref m3, .ref m4, .ref m5, .ref m6, .ref m7, .ref m8, .ref m9, .int fu, .int fd, .int fi, .int nu, .int nw, .int nf, .int bf, .int bn, .ref m10, .int ts, .int u, .int fs, .int ln, .int fo, .int fa, .ref m11, .ref m12, .ref m13, .ref m14, .int wr])), aJ G m1 560 mw, aZ G m2 2 ik, aI G m3 20 zs, aI G m4 20 cl, aI G m5 20 hs, aI G m6 20 ks, aI G m7 20 wa, aI G m8 20 ne, aI G m9 4 mn, aI G m10 400 tx, aI G m11 6 th, aI G m12 6 od, aI G m13 30 bk, aI G m14 30 bh]) (x_runV (As := []) (rest := []) (n := 0) (C := RX8) (ci := 8) ⟨hx, hb, hml, hown, hts⟩ (k_X8_here l G m0 m1 m2 m3 m4 m5 m6 m7 m8 m9 m10 m11 m12 m13 m14 _ mw ik zs cl hs ks wa ne mn tx th od bk bh fu fd fi nu nw nf bf bn ts ap fs ln fo fa wr hp) gX8_takeNumber_X8_here rfl (by decide +kernel) ⟨Nat.le_trans (Nat.le_of_ble_eq_true rfl) hRf, Nat.le_trans (Nat.le_of_ble_eq_true rfl) hRl⟩ hKK hSS hS hA hP hD [0, 1, 2, 3, 4, 5, 6, 7, 8, 9, 10, 11, 12, 13, 14] (by decide) rfl rfl rfl 0 rfl rfl hl.1 rfl (Nat.le_of_ble_eq_true rfl) dX8_takeNumber_10) hP hD hS hA [0, 1, 2, 3, 4, 5, 6, 7, 8, 9, 10, 11, 12, 13, 14] [] [0, 1, 2, 3, 4, 5, 6, 7, 8, 9, 10, 11, 12, 13, 14] rfl rfl (by decide) (by decide) (by decide) (fun _ => rfl) (fun r_2 u H locs hw hP hD hS => ?_)
    obtain ⟨ap2_3, rfl⟩ : ∃ z9_, z9_ = u := ⟨_, rfl⟩
    have hP : va_P G.1 vwCl [(m0, .inr (8, [.ref m1, .ref m2, .ref m3, .ref m4, .ref m5, .ref m6, .ref m7, .ref m8, .ref m9, .int fu, .int fd, .int fi, .int nu, .int nw, .int nf, .int bf, .int bn, .ref m10, .int ts, .int ap2_3, .int fs, .int ln, .int fo, .int fa, .ref m11, .ref m12, .ref m13, .ref m14, .int wr])), aJ G m1 560 mw, aZ G m2 2 ik, aI G m3 20 zs, aI G m4 20 cl, aI G m5 20 hs, aI G m6 20 ks, aI G m7 20 wa, aI G m8 20 ne, aI G m9 4 mn, aI G m10 400 tx, aI G m11 6 th, aI G m12 6 od, aI G m13 30 bk, aI G m14 30 bh] H := hP
    have hD : va_D A [(m0, .inr (8, [.ref m1, .ref m2, .ref m3, .ref m4, .ref m5, .ref m6, .ref m7, .ref m8, .ref m9, .int fu, .int fd, .int fi, .int nu, .int nw, .int nf, .int bf, .int bn, .ref m10, .int ts, .int ap2_3, .int fs, .int ln, .int fo, .int fa, .ref m11, .ref m12, .ref m13, .ref m14, .int wr])), aJ G m1 560 mw, aZ G m2 2 ik, aI G m3 20 zs, aI G m4 20 cl, aI G m5 20 hs, aI G m6 20 ks, aI G m7 20 wa, aI G m8 20 ne, aI G m9 4 mn, aI G m10 400 tx, aI G m11 6 th, aI G m12 6 od, aI G m13 30 bk, aI G m14 30 bh] := hD
    have hv := hv r_2 ap2_3 hw
    refine lv_istore_n (lv' := [(3, .int r_2), (0, .ref m0), (1, .int x), (2, .int y)]) hx hb dX8_takeNumber_13 rfl hl (by decide) rfl (fun ls hl => ?_)
    refine lv_aload_n hx hb dX8_takeNumber_14 rfl (lv_at hl 1 rfl) ?_
    refine lv_aload_n hx hb dX8_takeNumber_15 rfl (lv_at hl 1 rfl) ?_
    refine va_get (D := G.1) (ci := 8) (v := .int ap2_3) (C := RX8) (T := TX8) (N := 29) hx hb hts hinX8 hown hKK.1 hP 0 rfl rfl 19 (by decide) kl80 (fun _ h9 => h9) rfl dX8_takeNumber_16 ?_
    refine va_put (D := G.1) (ci := 8) (v := .int ap2_3) (ty := .int) (C := RX8) (T := TX8) (N := 29) hx hb hts hinX8 tyX8 tyX8_ok nmX8 hown hKK.1 hP hD hS 0 rfl rfl 20 (by decide) kl90 (fun _ h9 => h9) rfl (by decide +kernel) rfl rfl (Nat.le_of_ble_eq_true rfl) dX8_takeNumber_19 (fun H locs hP hD hS => ?_)
    have hP : va_P G.1 vwCl [(m0, .inr (8, [.ref m1, .ref m2, .ref m3, .ref m4, .ref m5, .ref m6, .ref m7, .ref m8, .ref m9, .int fu, .int fd, .int fi, .int nu, .int nw, .int nf, .int bf, .int bn, .ref m10, .int ts, .int ap2_3, .int ap2_3, .int ln, .int fo, .int fa, .ref m11, .ref m12, .ref m13, .ref m14, .int wr])), aJ G m1 560 mw, aZ G m2 2 ik, aI G m3 20 zs, aI G m4 20 cl, aI G m5 20 hs, aI G m6 20 ks, aI G m7 20 wa, aI G m8 20 ne, aI G m9 4 mn, aI G m10 400 tx, aI G m11 6 th, aI G m12 6 od, aI G m13 30 bk, aI G m14 30 bh] H := hP
    have hD : va_D A [(m0, .inr (8, [.ref m1, .ref m2, .ref m3, .ref m4, .ref m5, .ref m6, .ref m7, .ref m8, .ref m9, .int fu, .int fd, .int fi, .int nu, .int nw, .int nf, .int bf, .int bn, .ref m10, .int ts, .int ap2_3, .int ap2_3, .int ln, .int fo, .int fa, .ref m11, .ref m12, .ref m13, .ref m14, .int wr])), aJ G m1 560 mw, aZ G m2 2 ik, aI G m3 20 zs, aI G m4 20 cl, aI G m5 20 hs, aI G m6 20 ks, aI G m7 20 wa, aI G m8 20 ne, aI G m9 4 mn, aI G m10 400 tx, aI G m11 6 th, aI G m12 6 od, aI G m13 30 bk, aI G m14 30 bh] := hD
    refine lv_aload_n hx hb dX8_takeNumber_22 rfl (lv_at hl 1 rfl) ?_
    refine lv_iload_n hx hb dX8_takeNumber_23 rfl (lv_at hl 0 rfl) ?_
    refine lv_i2l hx hb dX8_takeNumber_24 rfl ?_
    refine lv_ldc2 (v := 48) hx hb hown kl100 dX8_takeNumber_25 ?_
    refine lv_ldc2 (v := 57) hx hb hown kl102 dX8_takeNumber_28 ?_
    refine x_calliR (x_runS (As := [.long r_2.toInt64, .long 48, .long 57]) (rest := [.ref m0]) (n := 3) ⟨hx, hb, hml, hown, hts⟩ (k_X8_in l G  _ r_2.toInt64 48 57) gX8_takeNumber_X8_in rfl (by decide +kernel) ⟨Nat.le_trans (Nat.le_of_ble_eq_true rfl) hRf, Nat.le_trans (Nat.le_of_ble_eq_true rfl) hRl⟩ hKK hSS hS hA hP hD [] (by decide) rfl rfl hl.1 rfl (Nat.le_of_ble_eq_true rfl) dX8_takeNumber_31) hP hD hS hA [] rfl (fun r_4 _ H locs hw hP hS => ?_)
    replace hw := hw.symm; subst hw
    refine lv_iconst (v := 1) hx hb dX8_takeNumber_34 (by decide) ?_
    refine lv_aload_n hx hb dX8_takeNumber_35 rfl (lv_at hl 1 rfl) ?_
    refine va_get (D := G.1) (ci := 8) (v := .int ap2_3) (C := RX8) (T := TX8) (N := 29) hx hb hts hinX8 hown hKK.1 hP 0 rfl rfl 19 (by decide) kl80 (fun _ h9 => h9) rfl dX8_takeNumber_36 ?_
    obtain ⟨hp, hv⟩ := hv
    refine x_calli (wr := []) (w' := fun (u : (Int32) × (Int32)) => [(m0, .inr (8, [.ref m1, .ref m2, .ref m3, .ref m4, .ref m5, .ref m6, .ref m7, .ref m8, .ref m9, .int fu, .int fd, .int fi, .int nu, .int nw, .int nf, .int bf, .int bn, .ref m10, .int ts, .int ap2_3, .int ap2_3, .int ln, .int u.1, .int u.2, .ref m11, .ref m12, .ref m13, .ref m14, .int wr])), aJ G m1 560 mw, aZ G m2 2 ik, aI G m3 20 zs, aI G m4 20 cl, aI G m5 20 hs, aI G m6 20 ks, aI G m7 20 wa, aI G m8 20 ne, aI G m9 4 mn, aI G m10 400 tx, aI G m11 6 th, aI G m12 6 od, aI G m13 30 bk, aI G m14 30 bh]) (x_runV (As := [.int (if ¬ r_2.toInt64 < 48 ∧ ¬ 57 < r_2.toInt64 then 1 else 0), .int 1, .int ap2_3]) (rest := []) (n := 3) (C := RX8) (ci := 8) ⟨hx, hb, hml, hown, hts⟩ (k_X8_want l G m0 m1 m2 m3 m4 m5 m6 m7 m8 m9 m10 m11 m12 m13 m14 _ mw ik zs cl hs ks wa ne mn tx th od bk bh fu fd fi nu nw nf bf bn ts ap2_3 ap2_3 ln fo fa wr (if ¬ r_2.toInt64 < 48 ∧ ¬ 57 < r_2.toInt64 then 1 else 0) 1 ap2_3 hp) gX8_takeNumber_X8_want rfl (by decide +kernel) ⟨Nat.le_trans (Nat.le_of_ble_eq_true rfl) hRf, Nat.le_trans (Nat.le_of_ble_eq_true rfl) hRl⟩ hKK hSS hS hA hP hD [0, 1, 2, 3, 4, 5, 6, 7, 8, 9, 10, 11, 12, 13, 14] (by decide) rfl rfl rfl 0 rfl rfl hl.1 rfl (Nat.le_of_ble_eq_true rfl) dX8_takeNumber_39) hP hD hS hA [0, 1, 2, 3, 4, 5, 6, 7, 8, 9, 10, 11, 12, 13, 14] [] [0, 1, 2, 3, 4, 5, 6, 7, 8, 9, 10, 11, 12, 13, 14] rfl rfl (by decide) (by decide) (by decide) (fun _ => rfl) (fun r_5 u H locs hw hP hD hS => ?_)
    obtain ⟨fo2_6, fa2_7⟩ := u
    have hP : va_P G.1 vwCl [(m0, .inr (8, [.ref m1, .ref m2, .ref m3, .ref m4, .ref m5, .ref m6, .ref m7, .ref m8, .ref m9, .int fu, .int fd, .int fi, .int nu, .int nw, .int nf, .int bf, .int bn, .ref m10, .int ts, .int ap2_3, .int ap2_3, .int ln, .int fo2_6, .int fa2_7, .ref m11, .ref m12, .ref m13, .ref m14, .int wr])), aJ G m1 560 mw, aZ G m2 2 ik, aI G m3 20 zs, aI G m4 20 cl, aI G m5 20 hs, aI G m6 20 ks, aI G m7 20 wa, aI G m8 20 ne, aI G m9 4 mn, aI G m10 400 tx, aI G m11 6 th, aI G m12 6 od, aI G m13 30 bk, aI G m14 30 bh] H := hP
    have hD : va_D A [(m0, .inr (8, [.ref m1, .ref m2, .ref m3, .ref m4, .ref m5, .ref m6, .ref m7, .ref m8, .ref m9, .int fu, .int fd, .int fi, .int nu, .int nw, .int nf, .int bf, .int bn, .ref m10, .int ts, .int ap2_3, .int ap2_3, .int ln, .int fo2_6, .int fa2_7, .ref m11, .ref m12, .ref m13, .ref m14, .int wr])), aJ G m1 560 mw, aZ G m2 2 ik, aI G m3 20 zs, aI G m4 20 cl, aI G m5 20 hs, aI G m6 20 ks, aI G m7 20 wa, aI G m8 20 ne, aI G m9 4 mn, aI G m10 400 tx, aI G m11 6 th, aI G m12 6 od, aI G m13 30 bk, aI G m14 30 bh] := hD
    have hv := hv r_5 fo2_6 fa2_7 hw
    refine lv_if_ne (tgt := 47) hx hb dX8_takeNumber_42 (by decide) (fun hc_8 => ?_) (fun hc_8 => ?_)
    · have hv := hv.1 hc_8
      refine lv_iconst (v := 0) hx hb dX8_takeNumber_47 (by decide) ?_
      refine lv_istore (lv' := [(4, .int 0), (3, .int r_2), (0, .ref m0), (1, .int x), (2, .int y)]) hx hb dX8_takeNumber_48 hl (by decide) rfl (fun ls hl => ?_)
      obtain ⟨I50_11, μ50_12, hi0, hs_44⟩ := hv
      have Lm_46 : ∀ (n_45 : Nat) (gm019_9 : Int32) (x4_10 : Int32) (H : Heap) (locs : List Loc) (ls : Array Slot), μ50_12 gm019_9 x4_10 < n_45 → I50_11 gm019_9 x4_10 → va_P G.1 vwCl [(m0, .inr (8, [.ref m1, .ref m2, .ref m3, .ref m4, .ref m5, .ref m6, .ref m7, .ref m8, .ref m9, .int fu, .int fd, .int fi, .int nu, .int nw, .int nf, .int bf, .int bn, .ref m10, .int ts, .int gm019_9, .int ap2_3, .int ln, .int fo2_6, .int fa2_7, .ref m11, .ref m12, .ref m13, .ref m14, .int wr])), aJ G m1 560 mw, aZ G m2 2 ik, aI G m3 20 zs, aI G m4 20 cl, aI G m5 20 hs, aI G m6 20 ks, aI G m7 20 wa, aI G m8 20 ne, aI G m9 4 mn, aI G m10 400 tx, aI G m11 6 th, aI G m12 6 od, aI G m13 30 bk, aI G m14 30 bh] H → va_D A [(m0, .inr (8, [.ref m1, .ref m2, .ref m3, .ref m4, .ref m5, .ref m6, .ref m7, .ref m8, .ref m9, .int fu, .int fd, .int fi, .int nu, .int nw, .int nf, .int bf, .int bn, .ref m10, .int ts, .int gm019_9, .int ap2_3, .int ln, .int fo2_6, .int fa2_7, .ref m11, .ref m12, .ref m13, .ref m14, .int wr])), aJ G m1 560 mw, aZ G m2 2 ik, aI G m3 20 zs, aI G m4 20 cl, aI G m5 20 hs, aI G m6 20 ks, aI G m7 20 wa, aI G m8 20 ne, aI G m9 4 mn, aI G m10 400 tx, aI G m11 6 th, aI G m12 6 od, aI G m13 30 bk, aI G m14 30 bh] → va_S A s.heap H locs → lv_has ls 6 [(4, .int x4_10), (3, .int r_2), (0, .ref m0), (1, .int x), (2, .int y)] → W p l e R s m args below meth c H locs 0 0 Q (F0 m 50 ls []) := by
        intro n_45
        induction n_45 with
        | zero => intro gm019_9 x4_10 H locs ls hm; exact absurd hm (Nat.not_lt_zero _)
        | succ n_45 ih_13 =>
          intro gm019_9 x4_10 H locs ls hI_14 hi hP hD hS hl
          have hv := hs_44 gm019_9 x4_10 hi
          refine lv_aload_n hx hb dX8_takeNumber_50 rfl (lv_at hl 2 rfl) ?_
          refine va_get (D := G.1) (ci := 8) (v := .int gm019_9) (C := RX8) (T := TX8) (N := 29) hx hb hts hinX8 hown hKK.1 hP 0 rfl rfl 19 (by decide) kl80 (fun _ h9 => h9) rfl dX8_takeNumber_51 ?_
          refine lv_aload_n hx hb dX8_takeNumber_54 rfl (lv_at hl 2 rfl) ?_
          refine va_get (D := G.1) (ci := 8) (v := .int ts) (C := RX8) (T := TX8) (N := 29) hx hb hts hinX8 hown hKK.1 hP 0 rfl rfl 18 (by decide) kl74 (fun _ h9 => h9) rfl dX8_takeNumber_55 ?_
          refine lv_icmp_ge (tgt := 128) hx hb dX8_takeNumber_58 (by decide) (fun hc_15 => ?_) (fun hc_15 => ?_)
          · have hv := hv.1 hc_15
            refine lv_aload_n hx hb dX8_takeNumber_128 rfl (lv_at hl 2 rfl) ?_
            refine lv_aload_n hx hb dX8_takeNumber_129 rfl (lv_at hl 2 rfl) ?_
            refine va_get (D := G.1) (ci := 8) (v := .int gm019_9) (C := RX8) (T := TX8) (N := 29) hx hb hts hinX8 hown hKK.1 hP 0 rfl rfl 19 (by decide) kl80 (fun _ h9 => h9) rfl dX8_takeNumber_130 ?_
            refine lv_aload_n hx hb dX8_takeNumber_133 rfl (lv_at hl 2 rfl) ?_
            refine va_get (D := G.1) (ci := 8) (v := .int ap2_3) (C := RX8) (T := TX8) (N := 29) hx hb hts hinX8 hown hKK.1 hP 0 rfl rfl 20 (by decide) kl90 (fun _ h9 => h9) rfl dX8_takeNumber_134 ?_
            refine lv_isub hx hb dX8_takeNumber_137 ?_
            refine lv_iconst (v := 5) hx hb dX8_takeNumber_138 (by decide) ?_
            refine lv_icmp_ge (tgt := 159) hx hb dX8_takeNumber_139 (by decide) (fun hc_16 => ?_) (fun hc_16 => ?_)
            · have hv := hv.1 hc_16
              refine lv_iconst (v := 0) hx hb dX8_takeNumber_159 (by decide) ?_
              refine lv_iconst (v := 2) hx hb dX8_takeNumber_160 (by decide) ?_
              refine lv_aload_n hx hb dX8_takeNumber_161 rfl (lv_at hl 2 rfl) ?_
              refine va_get (D := G.1) (ci := 8) (v := .int ap2_3) (C := RX8) (T := TX8) (N := 29) hx hb hts hinX8 hown hKK.1 hP 0 rfl rfl 20 (by decide) kl90 (fun _ h9 => h9) rfl dX8_takeNumber_162 ?_
              obtain ⟨hp, hv⟩ := hv
              refine x_calli (wr := []) (w' := fun (u : (Int32) × (Int32)) => [(m0, .inr (8, [.ref m1, .ref m2, .ref m3, .ref m4, .ref m5, .ref m6, .ref m7, .ref m8, .ref m9, .int fu, .int fd, .int fi, .int nu, .int nw, .int nf, .int bf, .int bn, .ref m10, .int ts, .int gm019_9, .int ap2_3, .int ln, .int u.1, .int u.2, .ref m11, .ref m12, .ref m13, .ref m14, .int wr])), aJ G m1 560 mw, aZ G m2 2 ik, aI G m3 20 zs, aI G m4 20 cl, aI G m5 20 hs, aI G m6 20 ks, aI G m7 20 wa, aI G m8 20 ne, aI G m9 4 mn, aI G m10 400 tx, aI G m11 6 th, aI G m12 6 od, aI G m13 30 bk, aI G m14 30 bh]) (x_runV (As := [.int 0, .int 2, .int ap2_3]) (rest := []) (n := 3) (C := RX8) (ci := 8) ⟨hx, hb, hml, hown, hts⟩ (k_X8_want l G m0 m1 m2 m3 m4 m5 m6 m7 m8 m9 m10 m11 m12 m13 m14 _ mw ik zs cl hs ks wa ne mn tx th od bk bh fu fd fi nu nw nf bf bn ts gm019_9 ap2_3 ln fo2_6 fa2_7 wr 0 2 ap2_3 hp) gX8_takeNumber_X8_want rfl (by decide +kernel) ⟨Nat.le_trans (Nat.le_of_ble_eq_true rfl) hRf, Nat.le_trans (Nat.le_of_ble_eq_true rfl) hRl⟩ hKK hSS hS hA hP hD [0, 1, 2, 3, 4, 5, 6, 7, 8, 9, 10, 11, 12, 13, 14] (by decide) rfl rfl rfl 0 rfl rfl hl.1 rfl (Nat.le_of_ble_eq_true rfl) dX8_takeNumber_165) hP hD hS hA [0, 1, 2, 3, 4, 5, 6, 7, 8, 9, 10, 11, 12, 13, 14] [] [0, 1, 2, 3, 4, 5, 6, 7, 8, 9, 10, 11, 12, 13, 14] rfl rfl (by decide) (by decide) (by decide) (fun _ => rfl) (fun r_17 u H locs hw hP hD hS => ?_)
              obtain ⟨fo2_18, fa2_19⟩ := u
              have hP : va_P G.1 vwCl [(m0, .inr (8, [.ref m1, .ref m2, .ref m3, .ref m4, .ref m5, .ref m6, .ref m7, .ref m8, .ref m9, .int fu, .int fd, .int fi, .int nu, .int nw, .int nf, .int bf, .int bn, .ref m10, .int ts, .int gm019_9, .int ap2_3, .int ln, .int fo2_18, .int fa2_19, .ref m11, .ref m12, .ref m13, .ref m14, .int wr])), aJ G m1 560 mw, aZ G m2 2 ik, aI G m3 20 zs, aI G m4 20 cl, aI G m5 20 hs, aI G m6 20 ks, aI G m7 20 wa, aI G m8 20 ne, aI G m9 4 mn, aI G m10 400 tx, aI G m11 6 th, aI G m12 6 od, aI G m13 30 bk, aI G m14 30 bh] H := hP
              have hD : va_D A [(m0, .inr (8, [.ref m1, .ref m2, .ref m3, .ref m4, .ref m5, .ref m6, .ref m7, .ref m8, .ref m9, .int fu, .int fd, .int fi, .int nu, .int nw, .int nf, .int bf, .int bn, .ref m10, .int ts, .int gm019_9, .int ap2_3, .int ln, .int fo2_18, .int fa2_19, .ref m11, .ref m12, .ref m13, .ref m14, .int wr])), aJ G m1 560 mw, aZ G m2 2 ik, aI G m3 20 zs, aI G m4 20 cl, aI G m5 20 hs, aI G m6 20 ks, aI G m7 20 wa, aI G m8 20 ne, aI G m9 4 mn, aI G m10 400 tx, aI G m11 6 th, aI G m12 6 od, aI G m13 30 bk, aI G m14 30 bh] := hD
              have hv := hv r_17 fo2_18 fa2_19 hw
              refine lv_istore (lv' := [(5, .int r_17), (4, .int x4_10), (3, .int r_2), (0, .ref m0), (1, .int x), (2, .int y)]) hx hb dX8_takeNumber_168 hl (by decide) rfl (fun ls hl => ?_)
              refine lv_iload hx hb dX8_takeNumber_170 (lv_at hl 1 rfl) ?_
              exact x_iret (v := x4_10) (gm019_9, ap2_3, fo2_18, fa2_19) hQ hx hb hr hlocks hS dX8_takeNumber_172 hv hP hD
            · have hv := hv.2 hc_16
              refine lv_iload hx hb dX8_takeNumber_142 (lv_at hl 0 rfl) ?_
              refine lv_i2l hx hb dX8_takeNumber_144 rfl ?_
              refine lv_iload_n hx hb dX8_takeNumber_145 rfl (lv_at hl 3 rfl) ?_
              refine lv_i2l hx hb dX8_takeNumber_146 rfl ?_
              refine lv_iload_n hx hb dX8_takeNumber_147 rfl (lv_at hl 4 rfl) ?_
              refine lv_i2l hx hb dX8_takeNumber_148 rfl ?_
              refine x_calliR (x_runS (As := [.long x4_10.toInt64, .long x.toInt64, .long y.toInt64]) (rest := [.ref m0]) (n := 3) ⟨hx, hb, hml, hown, hts⟩ (k_X8_in l G  _ x4_10.toInt64 x.toInt64 y.toInt64) gX8_takeNumber_X8_in rfl (by decide +kernel) ⟨Nat.le_trans (Nat.le_of_ble_eq_true rfl) hRf, Nat.le_trans (Nat.le_of_ble_eq_true rfl) hRl⟩ hKK hSS hS hA hP hD [] (by decide) rfl rfl hl.1 rfl (Nat.le_of_ble_eq_true rfl) dX8_takeNumber_149) hP hD hS hA [] rfl (fun r_20 _ H locs hw hP hS => ?_)
              replace hw := hw.symm; subst hw
              refine lv_if_eq (tgt := 159) hx hb dX8_takeNumber_152 (by decide) (fun hc_21 => ?_) (fun hc_21 => ?_)
              · have hv := hv.1 (tv_eq.mp hc_21)
                refine lv_iconst (v := 0) hx hb dX8_takeNumber_159 (by decide) ?_
                refine lv_iconst (v := 2) hx hb dX8_takeNumber_160 (by decide) ?_
                refine lv_aload_n hx hb dX8_takeNumber_161 rfl (lv_at hl 2 rfl) ?_
                refine va_get (D := G.1) (ci := 8) (v := .int ap2_3) (C := RX8) (T := TX8) (N := 29) hx hb hts hinX8 hown hKK.1 hP 0 rfl rfl 20 (by decide) kl90 (fun _ h9 => h9) rfl dX8_takeNumber_162 ?_
                obtain ⟨hp, hv⟩ := hv
                refine x_calli (wr := []) (w' := fun (u : (Int32) × (Int32)) => [(m0, .inr (8, [.ref m1, .ref m2, .ref m3, .ref m4, .ref m5, .ref m6, .ref m7, .ref m8, .ref m9, .int fu, .int fd, .int fi, .int nu, .int nw, .int nf, .int bf, .int bn, .ref m10, .int ts, .int gm019_9, .int ap2_3, .int ln, .int u.1, .int u.2, .ref m11, .ref m12, .ref m13, .ref m14, .int wr])), aJ G m1 560 mw, aZ G m2 2 ik, aI G m3 20 zs, aI G m4 20 cl, aI G m5 20 hs, aI G m6 20 ks, aI G m7 20 wa, aI G m8 20 ne, aI G m9 4 mn, aI G m10 400 tx, aI G m11 6 th, aI G m12 6 od, aI G m13 30 bk, aI G m14 30 bh]) (x_runV (As := [.int 0, .int 2, .int ap2_3]) (rest := []) (n := 3) (C := RX8) (ci := 8) ⟨hx, hb, hml, hown, hts⟩ (k_X8_want l G m0 m1 m2 m3 m4 m5 m6 m7 m8 m9 m10 m11 m12 m13 m14 _ mw ik zs cl hs ks wa ne mn tx th od bk bh fu fd fi nu nw nf bf bn ts gm019_9 ap2_3 ln fo2_6 fa2_7 wr 0 2 ap2_3 hp) gX8_takeNumber_X8_want rfl (by decide +kernel) ⟨Nat.le_trans (Nat.le_of_ble_eq_true rfl) hRf, Nat.le_trans (Nat.le_of_ble_eq_true rfl) hRl⟩ hKK hSS hS hA hP hD [0, 1, 2, 3, 4, 5, 6, 7, 8, 9, 10, 11, 12, 13, 14] (by decide) rfl rfl rfl 0 rfl rfl hl.1 rfl (Nat.le_of_ble_eq_true rfl) dX8_takeNumber_165) hP hD hS hA [0, 1, 2, 3, 4, 5, 6, 7, 8, 9, 10, 11, 12, 13, 14] [] [0, 1, 2, 3, 4, 5, 6, 7, 8, 9, 10, 11, 12, 13, 14] rfl rfl (by decide) (by decide) (by decide) (fun _ => rfl) (fun r_22 u H locs hw hP hD hS => ?_)
                obtain ⟨fo2_23, fa2_24⟩ := u
                have hP : va_P G.1 vwCl [(m0, .inr (8, [.ref m1, .ref m2, .ref m3, .ref m4, .ref m5, .ref m6, .ref m7, .ref m8, .ref m9, .int fu, .int fd, .int fi, .int nu, .int nw, .int nf, .int bf, .int bn, .ref m10, .int ts, .int gm019_9, .int ap2_3, .int ln, .int fo2_23, .int fa2_24, .ref m11, .ref m12, .ref m13, .ref m14, .int wr])), aJ G m1 560 mw, aZ G m2 2 ik, aI G m3 20 zs, aI G m4 20 cl, aI G m5 20 hs, aI G m6 20 ks, aI G m7 20 wa, aI G m8 20 ne, aI G m9 4 mn, aI G m10 400 tx, aI G m11 6 th, aI G m12 6 od, aI G m13 30 bk, aI G m14 30 bh] H := hP
                have hD : va_D A [(m0, .inr (8, [.ref m1, .ref m2, .ref m3, .ref m4, .ref m5, .ref m6, .ref m7, .ref m8, .ref m9, .int fu, .int fd, .int fi, .int nu, .int nw, .int nf, .int bf, .int bn, .ref m10, .int ts, .int gm019_9, .int ap2_3, .int ln, .int fo2_23, .int fa2_24, .ref m11, .ref m12, .ref m13, .ref m14, .int wr])), aJ G m1 560 mw, aZ G m2 2 ik, aI G m3 20 zs, aI G m4 20 cl, aI G m5 20 hs, aI G m6 20 ks, aI G m7 20 wa, aI G m8 20 ne, aI G m9 4 mn, aI G m10 400 tx, aI G m11 6 th, aI G m12 6 od, aI G m13 30 bk, aI G m14 30 bh] := hD
                have hv := hv r_22 fo2_23 fa2_24 hw
                refine lv_istore (lv' := [(5, .int r_22), (4, .int x4_10), (3, .int r_2), (0, .ref m0), (1, .int x), (2, .int y)]) hx hb dX8_takeNumber_168 hl (by decide) rfl (fun ls hl => ?_)
                refine lv_iload hx hb dX8_takeNumber_170 (lv_at hl 1 rfl) ?_
                exact x_iret (v := x4_10) (gm019_9, ap2_3, fo2_23, fa2_24) hQ hx hb hr hlocks hS dX8_takeNumber_172 hv hP hD
              · have hv := hv.2 (tv_eqn.mp hc_21)
                refine lv_iconst (v := 1) hx hb dX8_takeNumber_155 (by decide) ?_
                refine lv_goto (tgt := 160) hx hb dX8_takeNumber_156 (by decide) ?_
                refine lv_iconst (v := 2) hx hb dX8_takeNumber_160 (by decide) ?_
                refine lv_aload_n hx hb dX8_takeNumber_161 rfl (lv_at hl 2 rfl) ?_
                refine va_get (D := G.1) (ci := 8) (v := .int ap2_3) (C := RX8) (T := TX8) (N := 29) hx hb hts hinX8 hown hKK.1 hP 0 rfl rfl 20 (by decide) kl90 (fun _ h9 => h9) rfl dX8_takeNumber_162 ?_
                obtain ⟨hp, hv⟩ := hv
                refine x_calli (wr := []) (w' := fun (u : (Int32) × (Int32)) => [(m0, .inr (8, [.ref m1, .ref m2, .ref m3, .ref m4, .ref m5, .ref m6, .ref m7, .ref m8, .ref m9, .int fu, .int fd, .int fi, .int nu, .int nw, .int nf, .int bf, .int bn, .ref m10, .int ts, .int gm019_9, .int ap2_3, .int ln, .int u.1, .int u.2, .ref m11, .ref m12, .ref m13, .ref m14, .int wr])), aJ G m1 560 mw, aZ G m2 2 ik, aI G m3 20 zs, aI G m4 20 cl, aI G m5 20 hs, aI G m6 20 ks, aI G m7 20 wa, aI G m8 20 ne, aI G m9 4 mn, aI G m10 400 tx, aI G m11 6 th, aI G m12 6 od, aI G m13 30 bk, aI G m14 30 bh]) (x_runV (As := [.int 1, .int 2, .int ap2_3]) (rest := []) (n := 3) (C := RX8) (ci := 8) ⟨hx, hb, hml, hown, hts⟩ (k_X8_want l G m0 m1 m2 m3 m4 m5 m6 m7 m8 m9 m10 m11 m12 m13 m14 _ mw ik zs cl hs ks wa ne mn tx th od bk bh fu fd fi nu nw nf bf bn ts gm019_9 ap2_3 ln fo2_6 fa2_7 wr 1 2 ap2_3 hp) gX8_takeNumber_X8_want rfl (by decide +kernel) ⟨Nat.le_trans (Nat.le_of_ble_eq_true rfl) hRf, Nat.le_trans (Nat.le_of_ble_eq_true rfl) hRl⟩ hKK hSS hS hA hP hD [0, 1, 2, 3, 4, 5, 6, 7, 8, 9, 10, 11, 12, 13, 14] (by decide) rfl rfl rfl 0 rfl rfl hl.1 rfl (Nat.le_of_ble_eq_true rfl) dX8_takeNumber_165) hP hD hS hA [0, 1, 2, 3, 4, 5, 6, 7, 8, 9, 10, 11, 12, 13, 14] [] [0, 1, 2, 3, 4, 5, 6, 7, 8, 9, 10, 11, 12, 13, 14] rfl rfl (by decide) (by decide) (by decide) (fun _ => rfl) (fun r_25 u H locs hw hP hD hS => ?_)
                obtain ⟨fo2_26, fa2_27⟩ := u
                have hP : va_P G.1 vwCl [(m0, .inr (8, [.ref m1, .ref m2, .ref m3, .ref m4, .ref m5, .ref m6, .ref m7, .ref m8, .ref m9, .int fu, .int fd, .int fi, .int nu, .int nw, .int nf, .int bf, .int bn, .ref m10, .int ts, .int gm019_9, .int ap2_3, .int ln, .int fo2_26, .int fa2_27, .ref m11, .ref m12, .ref m13, .ref m14, .int wr])), aJ G m1 560 mw, aZ G m2 2 ik, aI G m3 20 zs, aI G m4 20 cl, aI G m5 20 hs, aI G m6 20 ks, aI G m7 20 wa, aI G m8 20 ne, aI G m9 4 mn, aI G m10 400 tx, aI G m11 6 th, aI G m12 6 od, aI G m13 30 bk, aI G m14 30 bh] H := hP
                have hD : va_D A [(m0, .inr (8, [.ref m1, .ref m2, .ref m3, .ref m4, .ref m5, .ref m6, .ref m7, .ref m8, .ref m9, .int fu, .int fd, .int fi, .int nu, .int nw, .int nf, .int bf, .int bn, .ref m10, .int ts, .int gm019_9, .int ap2_3, .int ln, .int fo2_26, .int fa2_27, .ref m11, .ref m12, .ref m13, .ref m14, .int wr])), aJ G m1 560 mw, aZ G m2 2 ik, aI G m3 20 zs, aI G m4 20 cl, aI G m5 20 hs, aI G m6 20 ks, aI G m7 20 wa, aI G m8 20 ne, aI G m9 4 mn, aI G m10 400 tx, aI G m11 6 th, aI G m12 6 od, aI G m13 30 bk, aI G m14 30 bh] := hD
                have hv := hv r_25 fo2_26 fa2_27 hw
                refine lv_istore (lv' := [(5, .int r_25), (4, .int x4_10), (3, .int r_2), (0, .ref m0), (1, .int x), (2, .int y)]) hx hb dX8_takeNumber_168 hl (by decide) rfl (fun ls hl => ?_)
                refine lv_iload hx hb dX8_takeNumber_170 (lv_at hl 1 rfl) ?_
                exact x_iret (v := x4_10) (gm019_9, ap2_3, fo2_26, fa2_27) hQ hx hb hr hlocks hS dX8_takeNumber_172 hv hP hD
          · have hv := hv.2 hc_15
            refine lv_aload_n hx hb dX8_takeNumber_61 rfl (lv_at hl 2 rfl) ?_
            refine va_get (D := G.1) (ci := 8) (v := .ref m10) (C := RX8) (T := TX8) (N := 29) hx hb hts hinX8 hown hKK.1 hP 0 rfl rfl 17 (by decide) kl46 (fun _ h9 => h9) rfl dX8_takeNumber_62 ?_
            refine lv_aload_n hx hb dX8_takeNumber_65 rfl (lv_at hl 2 rfl) ?_
            refine va_get (D := G.1) (ci := 8) (v := .int gm019_9) (C := RX8) (T := TX8) (N := 29) hx hb hts hinX8 hown hKK.1 hP 0 rfl rfl 19 (by decide) kl80 (fun _ h9 => h9) rfl dX8_takeNumber_66 ?_
            obtain ⟨hin, hv⟩ := hv
            refine va_iald hx hb hKK.1 hP 10 0 rfl rfl hin dX8_takeNumber_69 ?_
            refine lv_i2l hx hb dX8_takeNumber_70 rfl ?_
            refine lv_ldc2 (v := 48) hx hb hown kl100 dX8_takeNumber_71 ?_
            refine lv_ldc2 (v := 57) hx hb hown kl102 dX8_takeNumber_74 ?_
            refine x_calliR (x_runS (As := [.long ((tx gm019_9.toNatClampNeg).toInt64), .long 48, .long 57]) (rest := []) (n := 3) ⟨hx, hb, hml, hown, hts⟩ (k_X8_in l G  _ ((tx gm019_9.toNatClampNeg).toInt64) 48 57) gX8_takeNumber_X8_in rfl (by decide +kernel) ⟨Nat.le_trans (Nat.le_of_ble_eq_true rfl) hRf, Nat.le_trans (Nat.le_of_ble_eq_true rfl) hRl⟩ hKK hSS hS hA hP hD [] (by decide) rfl rfl hl.1 rfl (Nat.le_of_ble_eq_true rfl) dX8_takeNumber_77) hP hD hS hA [] rfl (fun r_28 _ H locs hw hP hS => ?_)
            replace hw := hw.symm; subst hw
            refine lv_if_eq (tgt := 128) hx hb dX8_takeNumber_80 (by decide) (fun hc_29 => ?_) (fun hc_29 => ?_)
            · have hv := hv.1 (tv_eq.mp hc_29)
              refine lv_aload_n hx hb dX8_takeNumber_128 rfl (lv_at hl 2 rfl) ?_
              refine lv_aload_n hx hb dX8_takeNumber_129 rfl (lv_at hl 2 rfl) ?_
              refine va_get (D := G.1) (ci := 8) (v := .int gm019_9) (C := RX8) (T := TX8) (N := 29) hx hb hts hinX8 hown hKK.1 hP 0 rfl rfl 19 (by decide) kl80 (fun _ h9 => h9) rfl dX8_takeNumber_130 ?_
              refine lv_aload_n hx hb dX8_takeNumber_133 rfl (lv_at hl 2 rfl) ?_
              refine va_get (D := G.1) (ci := 8) (v := .int ap2_3) (C := RX8) (T := TX8) (N := 29) hx hb hts hinX8 hown hKK.1 hP 0 rfl rfl 20 (by decide) kl90 (fun _ h9 => h9) rfl dX8_takeNumber_134 ?_
              refine lv_isub hx hb dX8_takeNumber_137 ?_
              refine lv_iconst (v := 5) hx hb dX8_takeNumber_138 (by decide) ?_
              refine lv_icmp_ge (tgt := 159) hx hb dX8_takeNumber_139 (by decide) (fun hc_30 => ?_) (fun hc_30 => ?_)
              · have hv := hv.1 hc_30
                refine lv_iconst (v := 0) hx hb dX8_takeNumber_159 (by decide) ?_
                refine lv_iconst (v := 2) hx hb dX8_takeNumber_160 (by decide) ?_
                refine lv_aload_n hx hb dX8_takeNumber_161 rfl (lv_at hl 2 rfl) ?_
                refine va_get (D := G.1) (ci := 8) (v := .int ap2_3) (C := RX8) (T := TX8) (N := 29) hx hb hts hinX8 hown hKK.1 hP 0 rfl rfl 20 (by decide) kl90 (fun _ h9 => h9) rfl dX8_takeNumber_162 ?_
                obtain ⟨hp, hv⟩ := hv
                refine x_calli (wr := []) (w' := fun (u : (Int32) × (Int32)) => [(m0, .inr (8, [.ref m1, .ref m2, .ref m3, .ref m4, .ref m5, .ref m6, .ref m7, .ref m8, .ref m9, .int fu, .int fd, .int fi, .int nu, .int nw, .int nf, .int bf, .int bn, .ref m10, .int ts, .int gm019_9, .int ap2_3, .int ln, .int u.1, .int u.2, .ref m11, .ref m12, .ref m13, .ref m14, .int wr])), aJ G m1 560 mw, aZ G m2 2 ik, aI G m3 20 zs, aI G m4 20 cl, aI G m5 20 hs, aI G m6 20 ks, aI G m7 20 wa, aI G m8 20 ne, aI G m9 4 mn, aI G m10 400 tx, aI G m11 6 th, aI G m12 6 od, aI G m13 30 bk, aI G m14 30 bh]) (x_runV (As := [.int 0, .int 2, .int ap2_3]) (rest := []) (n := 3) (C := RX8) (ci := 8) ⟨hx, hb, hml, hown, hts⟩ (k_X8_want l G m0 m1 m2 m3 m4 m5 m6 m7 m8 m9 m10 m11 m12 m13 m14 _ mw ik zs cl hs ks wa ne mn tx th od bk bh fu fd fi nu nw nf bf bn ts gm019_9 ap2_3 ln fo2_6 fa2_7 wr 0 2 ap2_3 hp) gX8_takeNumber_X8_want rfl (by decide +kernel) ⟨Nat.le_trans (Nat.le_of_ble_eq_true rfl) hRf, Nat.le_trans (Nat.le_of_ble_eq_true rfl) hRl⟩ hKK hSS hS hA hP hD [0, 1, 2, 3, 4, 5, 6, 7, 8, 9, 10, 11, 12, 13, 14] (by decide) rfl rfl rfl 0 rfl rfl hl.1 rfl (Nat.le_of_ble_eq_true rfl) dX8_takeNumber_165) hP hD hS hA [0, 1, 2, 3, 4, 5, 6, 7, 8, 9, 10, 11, 12, 13, 14] [] [0, 1, 2, 3, 4, 5, 6, 7, 8, 9, 10, 11, 12, 13, 14] rfl rfl (by decide) (by decide) (by decide) (fun _ => rfl) (fun r_31 u H locs hw hP hD hS => ?_)
                obtain ⟨fo2_32, fa2_33⟩ := u
                have hP : va_P G.1 vwCl [(m0, .inr (8, [.ref m1, .ref m2, .ref m3, .ref m4, .ref m5, .ref m6, .ref m7, .ref m8, .ref m9, .int fu, .int fd, .int fi, .int nu, .int nw, .int nf, .int bf, .int bn, .ref m10, .int ts, .int gm019_9, .int ap2_3, .int ln, .int fo2_32, .int fa2_33, .ref m11, .ref m12, .ref m13, .ref m14, .int wr])), aJ G m1 560 mw, aZ G m2 2 ik, aI G m3 20 zs, aI G m4 20 cl, aI G m5 20 hs, aI G m6 20 ks, aI G m7 20 wa, aI G m8 20 ne, aI G m9 4 mn, aI G m10 400 tx, aI G m11 6 th, aI G m12 6 od, aI G m13 30 bk, aI G m14 30 bh] H := hP
                have hD : va_D A [(m0, .inr (8, [.ref m1, .ref m2, .ref m3, .ref m4, .ref m5, .ref m6, .ref m7, .ref m8, .ref m9, .int fu, .int fd, .int fi, .int nu, .int nw, .int nf, .int bf, .int bn, .ref m10, .int ts, .int gm019_9, .int ap2_3, .int ln, .int fo2_32, .int fa2_33, .ref m11, .ref m12, .ref m13, .ref m14, .int wr])), aJ G m1 560 mw, aZ G m2 2 ik, aI G m3 20 zs, aI G m4 20 cl, aI G m5 20 hs, aI G m6 20 ks, aI G m7 20 wa, aI G m8 20 ne, aI G m9 4 mn, aI G m10 400 tx, aI G m11 6 th, aI G m12 6 od, aI G m13 30 bk, aI G m14 30 bh] := hD
                have hv := hv r_31 fo2_32 fa2_33 hw
                refine lv_istore (lv' := [(5, .int r_31), (4, .int x4_10), (3, .int r_2), (0, .ref m0), (1, .int x), (2, .int y)]) hx hb dX8_takeNumber_168 hl (by decide) rfl (fun ls hl => ?_)
                refine lv_iload hx hb dX8_takeNumber_170 (lv_at hl 1 rfl) ?_
                exact x_iret (v := x4_10) (gm019_9, ap2_3, fo2_32, fa2_33) hQ hx hb hr hlocks hS dX8_takeNumber_172 hv hP hD
              · have hv := hv.2 hc_30
                refine lv_iload hx hb dX8_takeNumber_142 (lv_at hl 0 rfl) ?_
                refine lv_i2l hx hb dX8_takeNumber_144 rfl ?_
                refine lv_iload_n hx hb dX8_takeNumber_145 rfl (lv_at hl 3 rfl) ?_
                refine lv_i2l hx hb dX8_takeNumber_146 rfl ?_
                refine lv_iload_n hx hb dX8_takeNumber_147 rfl (lv_at hl 4 rfl) ?_
                refine lv_i2l hx hb dX8_takeNumber_148 rfl ?_
                refine x_calliR (x_runS (As := [.long x4_10.toInt64, .long x.toInt64, .long y.toInt64]) (rest := [.ref m0]) (n := 3) ⟨hx, hb, hml, hown, hts⟩ (k_X8_in l G  _ x4_10.toInt64 x.toInt64 y.toInt64) gX8_takeNumber_X8_in rfl (by decide +kernel) ⟨Nat.le_trans (Nat.le_of_ble_eq_true rfl) hRf, Nat.le_trans (Nat.le_of_ble_eq_true rfl) hRl⟩ hKK hSS hS hA hP hD [] (by decide) rfl rfl hl.1 rfl (Nat.le_of_ble_eq_true rfl) dX8_takeNumber_149) hP hD hS hA [] rfl (fun r_34 _ H locs hw hP hS => ?_)
                replace hw := hw.symm; subst hw
                refine lv_if_eq (tgt := 159) hx hb dX8_takeNumber_152 (by decide) (fun hc_35 => ?_) (fun hc_35 => ?_)
                · have hv := hv.1 (tv_eq.mp hc_35)
                  refine lv_iconst (v := 0) hx hb dX8_takeNumber_159 (by decide) ?_
                  refine lv_iconst (v := 2) hx hb dX8_takeNumber_160 (by decide) ?_
                  refine lv_aload_n hx hb dX8_takeNumber_161 rfl (lv_at hl 2 rfl) ?_
                  refine va_get (D := G.1) (ci := 8) (v := .int ap2_3) (C := RX8) (T := TX8) (N := 29) hx hb hts hinX8 hown hKK.1 hP 0 rfl rfl 20 (by decide) kl90 (fun _ h9 => h9) rfl dX8_takeNumber_162 ?_
                  obtain ⟨hp, hv⟩ := hv
                  refine x_calli (wr := []) (w' := fun (u : (Int32) × (Int32)) => [(m0, .inr (8, [.ref m1, .ref m2, .ref m3, .ref m4, .ref m5, .ref m6, .ref m7, .ref m8, .ref m9, .int fu, .int fd, .int fi, .int nu, .int nw, .int nf, .int bf, .int bn, .ref m10, .int ts, .int gm019_9, .int ap2_3, .int ln, .int u.1, .int u.2, .ref m11, .ref m12, .ref m13, .ref m14, .int wr])), aJ G m1 560 mw, aZ G m2 2 ik, aI G m3 20 zs, aI G m4 20 cl, aI G m5 20 hs, aI G m6 20 ks, aI G m7 20 wa, aI G m8 20 ne, aI G m9 4 mn, aI G m10 400 tx, aI G m11 6 th, aI G m12 6 od, aI G m13 30 bk, aI G m14 30 bh]) (x_runV (As := [.int 0, .int 2, .int ap2_3]) (rest := []) (n := 3) (C := RX8) (ci := 8) ⟨hx, hb, hml, hown, hts⟩ (k_X8_want l G m0 m1 m2 m3 m4 m5 m6 m7 m8 m9 m10 m11 m12 m13 m14 _ mw ik zs cl hs ks wa ne mn tx th od bk bh fu fd fi nu nw nf bf bn ts gm019_9 ap2_3 ln fo2_6 fa2_7 wr 0 2 ap2_3 hp) gX8_takeNumber_X8_want rfl (by decide +kernel) ⟨Nat.le_trans (Nat.le_of_ble_eq_true rfl) hRf, Nat.le_trans (Nat.le_of_ble_eq_true rfl) hRl⟩ hKK hSS hS hA hP hD [0, 1, 2, 3, 4, 5, 6, 7, 8, 9, 10, 11, 12, 13, 14] (by decide) rfl rfl rfl 0 rfl rfl hl.1 rfl (Nat.le_of_ble_eq_true rfl) dX8_takeNumber_165) hP hD hS hA [0, 1, 2, 3, 4, 5, 6, 7, 8, 9, 10, 11, 12, 13, 14] [] [0, 1, 2, 3, 4, 5, 6, 7, 8, 9, 10, 11, 12, 13, 14] rfl rfl (by decide) (by decide) (by decide) (fun _ => rfl) (fun r_36 u H locs hw hP hD hS => ?_)
                  obtain ⟨fo2_37, fa2_38⟩ := u
                  have hP : va_P G.1 vwCl [(m0, .inr (8, [.ref m1, .ref m2, .ref m3, .ref m4, .ref m5, .ref m6, .ref m7, .ref m8, .ref m9, .int fu, .int fd, .int fi, .int nu, .int nw, .int nf, .int bf, .int bn, .ref m10, .int ts, .int gm019_9, .int ap2_3, .int ln, .int fo2_37, .int fa2_38, .ref m11, .ref m12, .ref m13, .ref m14, .int wr])), aJ G m1 560 mw, aZ G m2 2 ik, aI G m3 20 zs, aI G m4 20 cl, aI G m5 20 hs, aI G m6 20 ks, aI G m7 20 wa, aI G m8 20 ne, aI G m9 4 mn, aI G m10 400 tx, aI G m11 6 th, aI G m12 6 od, aI G m13 30 bk, aI G m14 30 bh] H := hP
                  have hD : va_D A [(m0, .inr (8, [.ref m1, .ref m2, .ref m3, .ref m4, .ref m5, .ref m6, .ref m7, .ref m8, .ref m9, .int fu, .int fd, .int fi, .int nu, .int nw, .int nf, .int bf, .int bn, .ref m10, .int ts, .int gm019_9, .int ap2_3, .int ln, .int fo2_37, .int fa2_38, .ref m11, .ref m12, .ref m13, .ref m14, .int wr])), aJ G m1 560 mw, aZ G m2 2 ik, aI G m3 20 zs, aI G m4 20 cl, aI G m5 20 hs, aI G m6 20 ks, aI G m7 20 wa, aI G m8 20 ne, aI G m9 4 mn, aI G m10 400 tx, aI G m11 6 th, aI G m12 6 od, aI G m13 30 bk, aI G m14 30 bh] := hD
                  have hv := hv r_36 fo2_37 fa2_38 hw
                  refine lv_istore (lv' := [(5, .int r_36), (4, .int x4_10), (3, .int r_2), (0, .ref m0), (1, .int x), (2, .int y)]) hx hb dX8_takeNumber_168 hl (by decide) rfl (fun ls hl => ?_)
                  refine lv_iload hx hb dX8_takeNumber_170 (lv_at hl 1 rfl) ?_
                  exact x_iret (v := x4_10) (gm019_9, ap2_3, fo2_37, fa2_38) hQ hx hb hr hlocks hS dX8_takeNumber_172 hv hP hD
                · have hv := hv.2 (tv_eqn.mp hc_35)
                  refine lv_iconst (v := 1) hx hb dX8_takeNumber_155 (by decide) ?_
                  refine lv_goto (tgt := 160) hx hb dX8_takeNumber_156 (by decide) ?_
                  refine lv_iconst (v := 2) hx hb dX8_takeNumber_160 (by decide) ?_
                  refine lv_aload_n hx hb dX8_takeNumber_161 rfl (lv_at hl 2 rfl) ?_
                  refine va_get (D := G.1) (ci := 8) (v := .int ap2_3) (C := RX8) (T := TX8) (N := 29) hx hb hts hinX8 hown hKK.1 hP 0 rfl rfl 20 (by decide) kl90 (fun _ h9 => h9) rfl dX8_takeNumber_162 ?_
                  obtain ⟨hp, hv⟩ := hv
                  refine x_calli (wr := []) (w' := fun (u : (Int32) × (Int32)) => [(m0, .inr (8, [.ref m1, .ref m2, .ref m3, .ref m4, .ref m5, .ref m6, .ref m7, .ref m8, .ref m9, .int fu, .int fd, .int fi, .int nu, .int nw, .int nf, .int bf, .int bn, .ref m10, .int ts, .int gm019_9, .int ap2_3, .int ln, .int u.1, .int u.2, .ref m11, .ref m12, .ref m13, .ref m14, .int wr])), aJ G m1 560 mw, aZ G m2 2 ik, aI G m3 20 zs, aI G m4 20 cl, aI G m5 20 hs, aI G m6 20 ks, aI G m7 20 wa, aI G m8 20 ne, aI G m9 4 mn, aI G m10 400 tx, aI G m11 6 th, aI G m12 6 od, aI G m13 30 bk, aI G m14 30 bh]) (x_runV (As := [.int 1, .int 2, .int ap2_3]) (rest := []) (n := 3) (C := RX8) (ci := 8) ⟨hx, hb, hml, hown, hts⟩ (k_X8_want l G m0 m1 m2 m3 m4 m5 m6 m7 m8 m9 m10 m11 m12 m13 m14 _ mw ik zs cl hs ks wa ne mn tx th od bk bh fu fd fi nu nw nf bf bn ts gm019_9 ap2_3 ln fo2_6 fa2_7 wr 1 2 ap2_3 hp) gX8_takeNumber_X8_want rfl (by decide +kernel) ⟨Nat.le_trans (Nat.le_of_ble_eq_true rfl) hRf, Nat.le_trans (Nat.le_of_ble_eq_true rfl) hRl⟩ hKK hSS hS hA hP hD [0, 1, 2, 3, 4, 5, 6, 7, 8, 9, 10, 11, 12, 13, 14] (by decide) rfl rfl rfl 0 rfl rfl hl.1 rfl (Nat.le_of_ble_eq_true rfl) dX8_takeNumber_165) hP hD hS hA [0, 1, 2, 3, 4, 5, 6, 7, 8, 9, 10, 11, 12, 13, 14] [] [0, 1, 2, 3, 4, 5, 6, 7, 8, 9, 10, 11, 12, 13, 14] rfl rfl (by decide) (by decide) (by decide) (fun _ => rfl) (fun r_39 u H locs hw hP hD hS => ?_)
                  obtain ⟨fo2_40, fa2_41⟩ := u
                  have hP : va_P G.1 vwCl [(m0, .inr (8, [.ref m1, .ref m2, .ref m3, .ref m4, .ref m5, .ref m6, .ref m7, .ref m8, .ref m9, .int fu, .int fd, .int fi, .int nu, .int nw, .int nf, .int bf, .int bn, .ref m10, .int ts, .int gm019_9, .int ap2_3, .int ln, .int fo2_40, .int fa2_41, .ref m11, .ref m12, .ref m13, .ref m14, .int wr])), aJ G m1 560 mw, aZ G m2 2 ik, aI G m3 20 zs, aI G m4 20 cl, aI G m5 20 hs, aI G m6 20 ks, aI G m7 20 wa, aI G m8 20 ne, aI G m9 4 mn, aI G m10 400 tx, aI G m11 6 th, aI G m12 6 od, aI G m13 30 bk, aI G m14 30 bh] H := hP
                  have hD : va_D A [(m0, .inr (8, [.ref m1, .ref m2, .ref m3, .ref m4, .ref m5, .ref m6, .ref m7, .ref m8, .ref m9, .int fu, .int fd, .int fi, .int nu, .int nw, .int nf, .int bf, .int bn, .ref m10, .int ts, .int gm019_9, .int ap2_3, .int ln, .int fo2_40, .int fa2_41, .ref m11, .ref m12, .ref m13, .ref m14, .int wr])), aJ G m1 560 mw, aZ G m2 2 ik, aI G m3 20 zs, aI G m4 20 cl, aI G m5 20 hs, aI G m6 20 ks, aI G m7 20 wa, aI G m8 20 ne, aI G m9 4 mn, aI G m10 400 tx, aI G m11 6 th, aI G m12 6 od, aI G m13 30 bk, aI G m14 30 bh] := hD
                  have hv := hv r_39 fo2_40 fa2_41 hw
                  refine lv_istore (lv' := [(5, .int r_39), (4, .int x4_10), (3, .int r_2), (0, .ref m0), (1, .int x), (2, .int y)]) hx hb dX8_takeNumber_168 hl (by decide) rfl (fun ls hl => ?_)
                  refine lv_iload hx hb dX8_takeNumber_170 (lv_at hl 1 rfl) ?_
                  exact x_iret (v := x4_10) (gm019_9, ap2_3, fo2_40, fa2_41) hQ hx hb hr hlocks hS dX8_takeNumber_172 hv hP hD
            · have hv := hv.2 (tv_eqn.mp hc_29)
              refine lv_iload hx hb dX8_takeNumber_83 (lv_at hl 0 rfl) ?_
              refine lv_ldc (v := 999999) hx hb hown kl108 dX8_takeNumber_85 ?_
              refine lv_icmp_le (tgt := 95) hx hb dX8_takeNumber_87 (by decide) (fun hc_42 => ?_) (fun hc_42 => ?_)
              · have hv := hv.1 hc_42
                refine lv_bipush (v := 10) hx hb dX8_takeNumber_95 (by decide) ?_
                refine lv_iload hx hb dX8_takeNumber_97 (lv_at hl 0 rfl) ?_
                refine lv_imul hx hb dX8_takeNumber_99 ?_
                refine lv_aload_n hx hb dX8_takeNumber_100 rfl (lv_at hl 2 rfl) ?_
                refine va_get (D := G.1) (ci := 8) (v := .ref m10) (C := RX8) (T := TX8) (N := 29) hx hb hts hinX8 hown hKK.1 hP 0 rfl rfl 17 (by decide) kl46 (fun _ h9 => h9) rfl dX8_takeNumber_101 ?_
                refine lv_aload_n hx hb dX8_takeNumber_104 rfl (lv_at hl 2 rfl) ?_
                refine va_get (D := G.1) (ci := 8) (v := .int gm019_9) (C := RX8) (T := TX8) (N := 29) hx hb hts hinX8 hown hKK.1 hP 0 rfl rfl 19 (by decide) kl80 (fun _ h9 => h9) rfl dX8_takeNumber_105 ?_
                obtain ⟨hin, hv⟩ := hv
                refine va_iald hx hb hKK.1 hP 10 0 rfl rfl hin dX8_takeNumber_108 ?_
                refine lv_iadd hx hb dX8_takeNumber_109 ?_
                refine lv_bipush (v := 48) hx hb dX8_takeNumber_110 (by decide) ?_
                refine lv_isub hx hb dX8_takeNumber_112 ?_
                refine lv_topi (fun y_43 ey => ?_)
                have hv := hv y_43 ey
                refine lv_istore (lv' := [(4, .int y_43), (3, .int r_2), (0, .ref m0), (1, .int x), (2, .int y)]) hx hb dX8_takeNumber_113 hl (by decide) rfl (fun ls hl => ?_)
                refine lv_aload_n hx hb dX8_takeNumber_115 rfl (lv_at hl 2 rfl) ?_
                refine lv_dup hx hb dX8_takeNumber_116 rfl ?_
                refine va_get (D := G.1) (ci := 8) (v := .int gm019_9) (C := RX8) (T := TX8) (N := 29) hx hb hts hinX8 hown hKK.1 hP 0 rfl rfl 19 (by decide) kl80 (fun _ h9 => h9) rfl dX8_takeNumber_117 ?_
                refine lv_iconst (v := 1) hx hb dX8_takeNumber_120 (by decide) ?_
                refine lv_iadd hx hb dX8_takeNumber_121 ?_
                refine va_put (D := G.1) (ci := 8) (v := .int (gm019_9 + 1)) (ty := .int) (C := RX8) (T := TX8) (N := 29) hx hb hts hinX8 tyX8 tyX8_ok nmX8 hown hKK.1 hP hD hS 0 rfl rfl 19 (by decide) kl80 (fun _ h9 => h9) rfl (by decide +kernel) rfl rfl (Nat.le_of_ble_eq_true rfl) dX8_takeNumber_122 (fun H locs hP hD hS => ?_)
                have hP : va_P G.1 vwCl [(m0, .inr (8, [.ref m1, .ref m2, .ref m3, .ref m4, .ref m5, .ref m6, .ref m7, .ref m8, .ref m9, .int fu, .int fd, .int fi, .int nu, .int nw, .int nf, .int bf, .int bn, .ref m10, .int ts, .int (gm019_9 + 1), .int ap2_3, .int ln, .int fo2_6, .int fa2_7, .ref m11, .ref m12, .ref m13, .ref m14, .int wr])), aJ G m1 560 mw, aZ G m2 2 ik, aI G m3 20 zs, aI G m4 20 cl, aI G m5 20 hs, aI G m6 20 ks, aI G m7 20 wa, aI G m8 20 ne, aI G m9 4 mn, aI G m10 400 tx, aI G m11 6 th, aI G m12 6 od, aI G m13 30 bk, aI G m14 30 bh] H := hP
                have hD : va_D A [(m0, .inr (8, [.ref m1, .ref m2, .ref m3, .ref m4, .ref m5, .ref m6, .ref m7, .ref m8, .ref m9, .int fu, .int fd, .int fi, .int nu, .int nw, .int nf, .int bf, .int bn, .ref m10, .int ts, .int (gm019_9 + 1), .int ap2_3, .int ln, .int fo2_6, .int fa2_7, .ref m11, .ref m12, .ref m13, .ref m14, .int wr])), aJ G m1 560 mw, aZ G m2 2 ik, aI G m3 20 zs, aI G m4 20 cl, aI G m5 20 hs, aI G m6 20 ks, aI G m7 20 wa, aI G m8 20 ne, aI G m9 4 mn, aI G m10 400 tx, aI G m11 6 th, aI G m12 6 od, aI G m13 30 bk, aI G m14 30 bh] := hD
                refine lv_goto (tgt := 50) hx hb dX8_takeNumber_125 (by decide) ?_
                exact ih_13 _ _ _ _ _ (Nat.lt_of_lt_of_le hv.2 (Nat.le_of_lt_succ hI_14)) hv.1 hP hD hS hl
              · have hv := hv.2 hc_42
                refine lv_iload hx hb dX8_takeNumber_90 (lv_at hl 0 rfl) ?_
                refine lv_goto (tgt := 113) hx hb dX8_takeNumber_92 (by decide) ?_
                refine lv_istore (lv' := [(4, .int x4_10), (3, .int r_2), (0, .ref m0), (1, .int x), (2, .int y)]) hx hb dX8_takeNumber_113 hl (by decide) rfl (fun ls hl => ?_)
                refine lv_aload_n hx hb dX8_takeNumber_115 rfl (lv_at hl 2 rfl) ?_
                refine lv_dup hx hb dX8_takeNumber_116 rfl ?_
                refine va_get (D := G.1) (ci := 8) (v := .int gm019_9) (C := RX8) (T := TX8) (N := 29) hx hb hts hinX8 hown hKK.1 hP 0 rfl rfl 19 (by decide) kl80 (fun _ h9 => h9) rfl dX8_takeNumber_117 ?_
                refine lv_iconst (v := 1) hx hb dX8_takeNumber_120 (by decide) ?_
                refine lv_iadd hx hb dX8_takeNumber_121 ?_
                refine va_put (D := G.1) (ci := 8) (v := .int (gm019_9 + 1)) (ty := .int) (C := RX8) (T := TX8) (N := 29) hx hb hts hinX8 tyX8 tyX8_ok nmX8 hown hKK.1 hP hD hS 0 rfl rfl 19 (by decide) kl80 (fun _ h9 => h9) rfl (by decide +kernel) rfl rfl (Nat.le_of_ble_eq_true rfl) dX8_takeNumber_122 (fun H locs hP hD hS => ?_)
                have hP : va_P G.1 vwCl [(m0, .inr (8, [.ref m1, .ref m2, .ref m3, .ref m4, .ref m5, .ref m6, .ref m7, .ref m8, .ref m9, .int fu, .int fd, .int fi, .int nu, .int nw, .int nf, .int bf, .int bn, .ref m10, .int ts, .int (gm019_9 + 1), .int ap2_3, .int ln, .int fo2_6, .int fa2_7, .ref m11, .ref m12, .ref m13, .ref m14, .int wr])), aJ G m1 560 mw, aZ G m2 2 ik, aI G m3 20 zs, aI G m4 20 cl, aI G m5 20 hs, aI G m6 20 ks, aI G m7 20 wa, aI G m8 20 ne, aI G m9 4 mn, aI G m10 400 tx, aI G m11 6 th, aI G m12 6 od, aI G m13 30 bk, aI G m14 30 bh] H := hP
                have hD : va_D A [(m0, .inr (8, [.ref m1, .ref m2, .ref m3, .ref m4, .ref m5, .ref m6, .ref m7, .ref m8, .ref m9, .int fu, .int fd, .int fi, .int nu, .int nw, .int nf, .int bf, .int bn, .ref m10, .int ts, .int (gm019_9 + 1), .int ap2_3, .int ln, .int fo2_6, .int fa2_7, .ref m11, .ref m12, .ref m13, .ref m14, .int wr])), aJ G m1 560 mw, aZ G m2 2 ik, aI G m3 20 zs, aI G m4 20 cl, aI G m5 20 hs, aI G m6 20 ks, aI G m7 20 wa, aI G m8 20 ne, aI G m9 4 mn, aI G m10 400 tx, aI G m11 6 th, aI G m12 6 od, aI G m13 30 bk, aI G m14 30 bh] := hD
                refine lv_goto (tgt := 50) hx hb dX8_takeNumber_125 (by decide) ?_
                exact ih_13 _ _ _ _ _ (Nat.lt_of_lt_of_le hv.2 (Nat.le_of_lt_succ hI_14)) hv.1 hP hD hS hl
      exact Lm_46 _ _ _ _ _ _ (Nat.lt_succ_self _) hi0 hP hD hS hl
    · have hv := hv.2 hc_8
      refine lv_iconst (v := 0) hx hb dX8_takeNumber_45 (by decide) ?_
      exact x_iret (v := 0) (ap2_3, ap2_3, fo2_6, fa2_7) hQ hx hb hr hlocks hS dX8_takeNumber_46 hv hP hD
  · have hv := hv.2 hc_1
    refine lv_iconst (v := 0) hx hb dX8_takeNumber_7 (by decide) ?_
    exact x_iret (v := 0) (ap, fs, fo, fa) hQ hx hb hr hlocks hS dX8_takeNumber_8 hv hP hD
theorem k_X8_takeNumber (l : Launch) (G : Gt) (m0 m1 m2 m3 m4 m5 m6 m7 m8 m9 m10 m11 m12 m13 m14 : Nat) (sz : Nat) (mw : Nat → Int64) (ik : Nat → Int32) (zs : Nat → Int32) (cl : Nat → Int32) (hs : Nat → Int32) (ks : Nat → Int32) (wa : Nat → Int32) (ne : Nat → Int32) (mn : Nat → Int32) (tx : Nat → Int32) (th : Nat → Int32) (od : Nat → Int32) (bk : Nat → Int32) (bh : Nat → Int32) (fu : Int32) (fd : Int32) (fi : Int32) (nu : Int32) (nw : Int32) (nf : Int32) (bf : Int32) (bn : Int32) (ts : Int32) (ap : Int32) (fs : Int32) (ln : Int32) (fo : Int32) (fa : Int32) (wr : Int32) (x : Int32) (y : Int32) (hp : True) : MetI l yX8_takeNumber wsX8_takeNumber 1 25 G [.ref m0, .int x, .int y] [(m0, .inr (8, [.ref m1, .ref m2, .ref m3, .ref m4, .ref m5, .ref m6, .ref m7, .ref m8, .ref m9, .int fu, .int fd, .int fi, .int nu, .int nw, .int nf, .int bf, .int bn, .ref m10, .int ts, .int ap, .int fs, .int ln, .int fo, .int fa, .ref m11, .ref m12, .ref m13, .ref m14, .int wr])), aJ G m1 560 mw, aZ G m2 2 ik, aI G m3 20 zs, aI G m4 20 cl, aI G m5 20 hs, aI G m6 20 ks, aI G m7 20 wa, aI G m8 20 ne, aI G m9 4 mn, aI G m10 400 tx, aI G m11 6 th, aI G m12 6 od, aI G m13 30 bk, aI G m14 30 bh] sz (fun (r : Int32) (u : (Int32) × (Int32) × (Int32) × (Int32)) => True) (fun (u : (Int32) × (Int32) × (Int32) × (Int32)) => [(m0, .inr (8, [.ref m1, .ref m2, .ref m3, .ref m4, .ref m5, .ref m6, .ref m7, .ref m8, .ref m9, .int fu, .int fd, .int fi, .int nu, .int nw, .int nf, .int bf, .int bn, .ref m10, .int ts, .int u.1, .int u.2.1, .int ln, .int u.2.2.1, .int u.2.2.2, .ref m11, .ref m12, .ref m13, .ref m14, .int wr])), aJ G m1 560 mw, aZ G m2 2 ik, aI G m3 20 zs, aI G m4 20 cl, aI G m5 20 hs, aI G m6 20 ks, aI G m7 20 wa, aI G m8 20 ne, aI G m9 4 mn, aI G m10 400 tx, aI G m11 6 th, aI G m12 6 od, aI G m13 30 bk, aI G m14 30 bh]) :=
  c_X8_takeNumber l G m0 m1 m2 m3 m4 m5 m6 m7 m8 m9 m10 m11 m12 m13 m14 sz mw ik zs cl hs ks wa ne mn tx th od bk bh fu fd fi nu nw nf bf bn ts ap fs ln fo fa wr x y (by
    sorry)

set_option maxHeartbeats 4000000 in
set_option maxRecDepth 100000 in
theorem c_X8_takeStone (l : Launch) (G : Gt) (m0 m1 m2 m3 m4 m5 m6 m7 m8 m9 m10 m11 m12 m13 m14 : Nat) (sz : Nat) (mw : Nat → Int64) (ik : Nat → Int32) (zs : Nat → Int32) (cl : Nat → Int32) (hs : Nat → Int32) (ks : Nat → Int32) (wa : Nat → Int32) (ne : Nat → Int32) (mn : Nat → Int32) (tx : Nat → Int32) (th : Nat → Int32) (od : Nat → Int32) (bk : Nat → Int32) (bh : Nat → Int32) (fu : Int32) (fd : Int32) (fi : Int32) (nu : Int32) (nw : Int32) (nf : Int32) (bf : Int32) (bn : Int32) (ts : Int32) (ap : Int32) (fs : Int32) (ln : Int32) (fo : Int32) (fa : Int32) (wr : Int32) (x : Int32) (hv : (9 ≤ (mn 2) → (True) ∧ (∀ (r_2 : Int32) (fo2_3 : Int32) (fa2_4 : Int32), (True) → ((r_2 = 0 → True) ∧ (¬ (r_2 = 0) → ∀ (y_6 : Int32), (y_6 = (10 + (mn 2))) → ((True) ∧ (∀ (r_7 : Int32) (ap2_8 : Int32) (fs2_9 : Int32) (fo2_10 : Int32) (fa2_11 : Int32), (True) → ((vp_in y_6 20) ∧ (∀ (fm3_12 : (Nat → Int32)), (fm3_12 = (upd zs y_6.toNatClampNeg r_7)) → ((True) ∧ (∀ (r_13 : Int32) (ap2_14 : Int32) (fs2_15 : Int32) (fo2_16 : Int32) (fa2_17 : Int32), (True) → ((vp_in y_6 20) ∧ (∀ (fm4_18 : (Nat → Int32)), (fm4_18 = (upd cl y_6.toNatClampNeg r_13)) → ((True) ∧ (∀ (r_19 : Int32) (ap2_20 : Int32) (fs2_21 : Int32) (fo2_22 : Int32) (fa2_23 : Int32), (True) → ((vp_in y_6 20) ∧ (∀ (fm5_24 : (Nat → Int32)), (fm5_24 = (upd hs y_6.toNatClampNeg r_19)) → ((vp_in y_6 20) ∧ ((vp_in y_6 20) ∧ (((fm3_12 y_6.toNatClampNeg) < (fm5_24 y_6.toNatClampNeg) → (True) ∧ (∀ (r_26 : Int32) (fo2_27 : Int32) (fa2_28 : Int32), (True) → (∀ (fm9_29 : (Nat → Int32)), (fm9_29 = (upd mn 2 ((mn 2) + 1))) → (True)))) ∧ (¬ ((fm3_12 y_6.toNatClampNeg) < (fm5_24 y_6.toNatClampNeg)) → (True) ∧ (∀ (r_30 : Int32) (fo2_31 : Int32) (fa2_32 : Int32), (True) → (∀ (fm9_33 : (Nat → Int32)), (fm9_33 = (upd mn 2 ((mn 2) + 1))) → (True))))))))))))))))))))))) ∧ (¬ (9 ≤ (mn 2)) → (True) ∧ (∀ (r_34 : Int32) (fo2_35 : Int32) (fa2_36 : Int32), (True) → ((r_34 = 0 → True) ∧ (¬ (r_34 = 0) → ∀ (y_38 : Int32), (y_38 = (10 + (mn 2))) → ((True) ∧ (∀ (r_39 : Int32) (ap2_40 : Int32) (fs2_41 : Int32) (fo2_42 : Int32) (fa2_43 : Int32), (True) → ((vp_in y_38 20) ∧ (∀ (fm3_44 : (Nat → Int32)), (fm3_44 = (upd zs y_38.toNatClampNeg r_39)) → ((True) ∧ (∀ (r_45 : Int32) (ap2_46 : Int32) (fs2_47 : Int32) (fo2_48 : Int32) (fa2_49 : Int32), (True) → ((vp_in y_38 20) ∧ (∀ (fm4_50 : (Nat → Int32)), (fm4_50 = (upd cl y_38.toNatClampNeg r_45)) → ((True) ∧ (∀ (r_51 : Int32) (ap2_52 : Int32) (fs2_53 : Int32) (fo2_54 : Int32) (fa2_55 : Int32), (True) → ((vp_in y_38 20) ∧ (∀ (fm5_56 : (Nat → Int32)), (fm5_56 = (upd hs y_38.toNatClampNeg r_51)) → ((vp_in y_38 20) ∧ ((vp_in y_38 20) ∧ (((fm3_44 y_38.toNatClampNeg) < (fm5_56 y_38.toNatClampNeg) → (True) ∧ (∀ (r_58 : Int32) (fo2_59 : Int32) (fa2_60 : Int32), (True) → (∀ (fm9_61 : (Nat → Int32)), (fm9_61 = (upd mn 2 ((mn 2) + 1))) → (True)))) ∧ (¬ ((fm3_44 y_38.toNatClampNeg) < (fm5_56 y_38.toNatClampNeg)) → (True) ∧ (∀ (r_62 : Int32) (fo2_63 : Int32) (fa2_64 : Int32), (True) → (∀ (fm9_65 : (Nat → Int32)), (fm9_65 = (upd mn 2 ((mn 2) + 1))) → (True)))))))))))))))))))))))) : MetV l yX8_takeStone wsX8_takeStone 2 50 G [.ref m0, .int x] [(m0, .inr (8, [.ref m1, .ref m2, .ref m3, .ref m4, .ref m5, .ref m6, .ref m7, .ref m8, .ref m9, .int fu, .int fd, .int fi, .int nu, .int nw, .int nf, .int bf, .int bn, .ref m10, .int ts, .int ap, .int fs, .int ln, .int fo, .int fa, .ref m11, .ref m12, .ref m13, .ref m14, .int wr])), aJ G m1 560 mw, aZ G m2 2 ik, aI G m3 20 zs, aI G m4 20 cl, aI G m5 20 hs, aI G m6 20 ks, aI G m7 20 wa, aI G m8 20 ne, aI G m9 4 mn, aI G m10 400 tx, aI G m11 6 th, aI G m12 6 od, aI G m13 30 bk, aI G m14 30 bh] sz (fun (u : (Nat → Int32) × (Nat → Int32) × (Nat → Int32) × (Nat → Int32) × (Int32) × (Int32) × (Int32) × (Int32)) => True) (fun (u : (Nat → Int32) × (Nat → Int32) × (Nat → Int32) × (Nat → Int32) × (Int32) × (Int32) × (Int32) × (Int32)) => [(m0, .inr (8, [.ref m1, .ref m2, .ref m3, .ref m4, .ref m5, .ref m6, .ref m7, .ref m8, .ref m9, .int fu, .int fd, .int fi, .int nu, .int nw, .int nf, .int bf, .int bn, .ref m10, .int ts, .int u.2.2.2.2.1, .int u.2.2.2.2.2.1, .int ln, .int u.2.2.2.2.2.2.1, .int u.2.2.2.2.2.2.2, .ref m11, .ref m12, .ref m13, .ref m14, .int wr])), aJ G m1 560 mw, aZ G m2 2 ik, aI G m3 20 u.1, aI G m4 20 u.2.1, aI G m5 20 u.2.2.1, aI G m6 20 ks, aI G m7 20 wa, aI G m8 20 ne, aI G m9 4 u.2.2.2.1, aI G m10 400 tx, aI G m11 6 th, aI G m12 6 od, aI G m13 30 bk, aI G m14 30 bh]) := by
  refine x_startV (cc := cX8_takeStone) (maxL := 4) (ret := none) (by decide) rfl (Nat.le_of_ble_eq_true rfl) ?_
  intro p e s m args below meth c A R Q ls hRf hRl hQ C hP hD hS hA hSS hl
  obtain ⟨hx, hb, hr, hml, hown, hts, hlocks, hKK⟩ := C
  have hown : s.vm.findClass RX8 = some m.cls := hown
  have hl : lv_has ls 4 [(0, .ref m0), (1, .int x)] := hl
  have hinX8 : ∀ w ∈ u_ws RX8 TX8 29, w ∈ wsX8_takeStone := by decide +kernel
  have kl17 := hts (.fieldLink RX8 17 "WarmStonesModel" "sizes" "[I") (by decide +kernel)
  have kl21 := hts (.fieldLink RX8 21 "WarmStonesModel" "coolings" "[I") (by decide +kernel)
  have kl24 := hts (.fieldLink RX8 24 "WarmStonesModel" "heats" "[I") (by decide +kernel)
  have kl36 := hts (.fieldLink RX8 36 "WarmStonesModel" "many" "[I") (by decide +kernel)
  have kl90 := hts (.fieldLink RX8 90 "WarmStonesModel" "first" "I") (by decide +kernel)
  refine lv_aload_n hx hb dX8_takeStone_0 rfl (lv_at hl 0 rfl) ?_
  refine lv_aload_n hx hb dX8_takeStone_1 rfl (lv_at hl 0 rfl) ?_
  refine va_get (D := G.1) (ci := 8) (v := .ref m9) (C := RX8) (T := TX8) (N := 29) hx hb hts hinX8 hown hKK.1 hP 0 rfl rfl 8 (by decide) kl36 (fun _ h9 => h9) rfl dX8_takeStone_2 ?_
  refine lv_iconst (v := 2) hx hb dX8_takeStone_5 (by decide) ?_
  refine va_iald hx hb hKK.1 hP 9 0 rfl rfl (by unfold vp_in; decide) dX8_takeStone_6 ?_
  refine lv_bipush (v := 9) hx hb dX8_takeStone_7 (by decide) ?_
  refine lv_icmp_ge (tgt := 16) hx hb dX8_takeStone_9 (by decide) (fun hc_1 => ?_) (fun hc_1 => ?_)
  · have hv := hv.1 hc_1
    refine lv_iconst (v := 0) hx hb dX8_takeStone_16 (by decide) ?_
    refine lv_iconst (v := 3) hx hb dX8_takeStone_17 (by decide) ?_
    refine lv_iload_n hx hb dX8_takeStone_18 rfl (lv_at hl 1 rfl) ?_
    obtain ⟨hp, hv⟩ := hv
    refine x_calli (wr := []) (w' := fun (u : (Int32) × (Int32)) => [(m0, .inr (8, [.ref m1, .ref m2, .ref m3, .ref m4, .ref m5, .ref m6, .ref m7, .ref m8, .ref m9, .int fu, .int fd, .int fi, .int nu, .int nw, .int nf, .int bf, .int bn, .ref m10, .int ts, .int ap, .int fs, .int ln, .int u.1, .int u.2, .ref m11, .ref m12, .ref m13, .ref m14, .int wr])), aJ G m1 560 mw, aZ G m2 2 ik, aI G m3 20 zs, aI G m4 20 cl, aI G m5 20 hs, aI G m6 20 ks, aI G m7 20 wa, aI G m8 20 ne, aI G m9 4 mn, aI G m10 400 tx, aI G m11 6 th, aI G m12 6 od, aI G m13 30 bk, aI G m14 30 bh]) (x_runV (As := [.int 0, .int 3, .int x]) (rest := []) (n := 3) (C := RX8) (ci := 8) ⟨hx, hb, hml, hown, hts⟩ (k_X8_want l G m0 m1 m2 m3 m4 m5 m6 m7 m8 m9 m10 m11 m12 m13 m14 _ mw ik zs cl hs ks wa ne mn tx th od bk bh fu fd fi nu nw nf bf bn ts ap fs ln fo fa wr 0 3 x hp) gX8_takeStone_X8_want rfl (by decide +kernel) ⟨Nat.le_trans (Nat.le_of_ble_eq_true rfl) hRf, Nat.le_trans (Nat.le_of_ble_eq_true rfl) hRl⟩ hKK hSS hS hA hP hD [0, 1, 2, 3, 4, 5, 6, 7, 8, 9, 10, 11, 12, 13, 14] (by decide) rfl rfl rfl 0 rfl rfl hl.1 rfl (Nat.le_of_ble_eq_true rfl) dX8_takeStone_19) hP hD hS hA [0, 1, 2, 3, 4, 5, 6, 7, 8, 9, 10, 11, 12, 13, 14] [] [0, 1, 2, 3, 4, 5, 6, 7, 8, 9, 10, 11, 12, 13, 14] rfl rfl (by decide) (by decide) (by decide) (fun _ => rfl) (fun r_2 u H locs hw hP hD hS => ?_)
    obtain ⟨fo2_3, fa2_4⟩ := u
    have hP : va_P G.1 vwCl [(m0, .inr (8, [.ref m1, .ref m2, .ref m3, .ref m4, .ref m5, .ref m6, .ref m7, .ref m8, .ref m9, .int fu, .int fd, .int fi, .int nu, .int nw, .int nf, .int bf, .int bn, .ref m10, .int ts, .int ap, .int fs, .int ln, .int fo2_3, .int fa2_4, .ref m11, .ref m12, .ref m13, .ref m14, .int wr])), aJ G m1 560 mw, aZ G m2 2 ik, aI G m3 20 zs, aI G m4 20 cl, aI G m5 20 hs, aI G m6 20 ks, aI G m7 20 wa, aI G m8 20 ne, aI G m9 4 mn, aI G m10 400 tx, aI G m11 6 th, aI G m12 6 od, aI G m13 30 bk, aI G m14 30 bh] H := hP
    have hD : va_D A [(m0, .inr (8, [.ref m1, .ref m2, .ref m3, .ref m4, .ref m5, .ref m6, .ref m7, .ref m8, .ref m9, .int fu, .int fd, .int fi, .int nu, .int nw, .int nf, .int bf, .int bn, .ref m10, .int ts, .int ap, .int fs, .int ln, .int fo2_3, .int fa2_4, .ref m11, .ref m12, .ref m13, .ref m14, .int wr])), aJ G m1 560 mw, aZ G m2 2 ik, aI G m3 20 zs, aI G m4 20 cl, aI G m5 20 hs, aI G m6 20 ks, aI G m7 20 wa, aI G m8 20 ne, aI G m9 4 mn, aI G m10 400 tx, aI G m11 6 th, aI G m12 6 od, aI G m13 30 bk, aI G m14 30 bh] := hD
    have hv := hv r_2 fo2_3 fa2_4 hw
    refine lv_if_eq (tgt := 117) hx hb dX8_takeStone_22 (by decide) (fun hc_5 => ?_) (fun hc_5 => ?_)
    · have hv := hv.1 hc_5
      exact x_vret (zs, cl, hs, mn, ap, fs, fo2_3, fa2_4) hQ hx hb hr hlocks hS dX8_takeStone_117 hv hP hD
    · have hv := hv.2 hc_5
      refine lv_bipush (v := 10) hx hb dX8_takeStone_25 (by decide) ?_
      refine lv_aload_n hx hb dX8_takeStone_27 rfl (lv_at hl 0 rfl) ?_
      refine va_get (D := G.1) (ci := 8) (v := .ref m9) (C := RX8) (T := TX8) (N := 29) hx hb hts hinX8 hown hKK.1 hP 0 rfl rfl 8 (by decide) kl36 (fun _ h9 => h9) rfl dX8_takeStone_28 ?_
      refine lv_iconst (v := 2) hx hb dX8_takeStone_31 (by decide) ?_
      refine va_iald hx hb hKK.1 hP 9 0 rfl rfl (by unfold vp_in; decide) dX8_takeStone_32 ?_
      refine lv_iadd hx hb dX8_takeStone_33 ?_
      refine lv_topi (fun y_6 ey => ?_)
      have hv := hv y_6 ey
      refine lv_istore_n (lv' := [(2, .int y_6), (0, .ref m0), (1, .int x)]) hx hb dX8_takeStone_34 rfl hl (by decide) rfl (fun ls hl => ?_)
      refine lv_aload_n hx hb dX8_takeStone_35 rfl (lv_at hl 1 rfl) ?_
      refine va_get (D := G.1) (ci := 8) (v := .ref m3) (C := RX8) (T := TX8) (N := 29) hx hb hts hinX8 hown hKK.1 hP 0 rfl rfl 2 (by decide) kl17 (fun _ h9 => h9) rfl dX8_takeStone_36 ?_
      refine lv_iload_n hx hb dX8_takeStone_39 rfl (lv_at hl 0 rfl) ?_
      refine lv_aload_n hx hb dX8_takeStone_40 rfl (lv_at hl 1 rfl) ?_
      refine lv_iconst (v := 1) hx hb dX8_takeStone_41 (by decide) ?_
      refine lv_sipush (v := 9999) hx hb dX8_takeStone_42 (by decide) ?_
      obtain ⟨hp, hv⟩ := hv
      refine x_calli (wr := []) (w' := fun (u : (Int32) × (Int32) × (Int32) × (Int32)) => [(m0, .inr (8, [.ref m1, .ref m2, .ref m3, .ref m4, .ref m5, .ref m6, .ref m7, .ref m8, .ref m9, .int fu, .int fd, .int fi, .int nu, .int nw, .int nf, .int bf, .int bn, .ref m10, .int ts, .int u.1, .int u.2.1, .int ln, .int u.2.2.1, .int u.2.2.2, .ref m11, .ref m12, .ref m13, .ref m14, .int wr])), aJ G m1 560 mw, aZ G m2 2 ik, aI G m3 20 zs, aI G m4 20 cl, aI G m5 20 hs, aI G m6 20 ks, aI G m7 20 wa, aI G m8 20 ne, aI G m9 4 mn, aI G m10 400 tx, aI G m11 6 th, aI G m12 6 od, aI G m13 30 bk, aI G m14 30 bh]) (x_runV (As := [.int 1, .int 9999]) (rest := [.int y_6, .ref m3]) (n := 2) (C := RX8) (ci := 8) ⟨hx, hb, hml, hown, hts⟩ (k_X8_takeNumber l G m0 m1 m2 m3 m4 m5 m6 m7 m8 m9 m10 m11 m12 m13 m14 _ mw ik zs cl hs ks wa ne mn tx th od bk bh fu fd fi nu nw nf bf bn ts ap fs ln fo2_3 fa2_4 wr 1 9999 hp) gX8_takeStone_X8_takeNumber rfl (by decide +kernel) ⟨Nat.le_trans (Nat.le_of_ble_eq_true rfl) hRf, Nat.le_trans (Nat.le_of_ble_eq_true rfl) hRl⟩ hKK hSS hS hA hP hD [0, 1, 2, 3, 4, 5, 6, 7, 8, 9, 10, 11, 12, 13, 14] (by decide) rfl rfl rfl 0 rfl rfl hl.1 rfl (Nat.le_of_ble_eq_true rfl) dX8_takeStone_45) hP hD hS hA [0, 1, 2, 3, 4, 5, 6, 7, 8, 9, 10, 11, 12, 13, 14] [] [0, 1, 2, 3, 4, 5, 6, 7, 8, 9, 10, 11, 12, 13, 14] rfl rfl (by decide) (by decide) (by decide) (fun _ => rfl) (fun r_7 u H locs hw hP hD hS => ?_)
      obtain ⟨ap2_8, fs2_9, fo2_10, fa2_11⟩ := u
      have hP : va_P G.1 vwCl [(m0, .inr (8, [.ref m1, .ref m2, .ref m3, .ref m4, .ref m5, .ref m6, .ref m7, .ref m8, .ref m9, .int fu, .int fd, .int fi, .int nu, .int nw, .int nf, .int bf, .int bn, .ref m10, .int ts, .int ap2_8, .int fs2_9, .int ln, .int fo2_10, .int fa2_11, .ref m11, .ref m12, .ref m13, .ref m14, .int wr])), aJ G m1 560 mw, aZ G m2 2 ik, aI G m3 20 zs, aI G m4 20 cl, aI G m5 20 hs, aI G m6 20 ks, aI G m7 20 wa, aI G m8 20 ne, aI G m9 4 mn, aI G m10 400 tx, aI G m11 6 th, aI G m12 6 od, aI G m13 30 bk, aI G m14 30 bh] H := hP
      have hD : va_D A [(m0, .inr (8, [.ref m1, .ref m2, .ref m3, .ref m4, .ref m5, .ref m6, .ref m7, .ref m8, .ref m9, .int fu, .int fd, .int fi, .int nu, .int nw, .int nf, .int bf, .int bn, .ref m10, .int ts, .int ap2_8, .int fs2_9, .int ln, .int fo2_10, .int fa2_11, .ref m11, .ref m12, .ref m13, .ref m14, .int wr])), aJ G m1 560 mw, aZ G m2 2 ik, aI G m3 20 zs, aI G m4 20 cl, aI G m5 20 hs, aI G m6 20 ks, aI G m7 20 wa, aI G m8 20 ne, aI G m9 4 mn, aI G m10 400 tx, aI G m11 6 th, aI G m12 6 od, aI G m13 30 bk, aI G m14 30 bh] := hD
      have hv := hv r_7 ap2_8 fs2_9 fo2_10 fa2_11 hw
      obtain ⟨hin, hv⟩ := hv
      refine va_iast hx hb hKK.1 hP hD hS 3 0 rfl rfl hin dX8_takeStone_48 (fun H locs hP hD hS => ?_)
      obtain ⟨fm3_12, ef⟩ : ∃ z9_, z9_ = (upd zs y_6.toNatClampNeg r_7) := ⟨_, rfl⟩
      have hP : va_P G.1 vwCl [(m0, .inr (8, [.ref m1, .ref m2, .ref m3, .ref m4, .ref m5, .ref m6, .ref m7, .ref m8, .ref m9, .int fu, .int fd, .int fi, .int nu, .int nw, .int nf, .int bf, .int bn, .ref m10, .int ts, .int ap2_8, .int fs2_9, .int ln, .int fo2_10, .int fa2_11, .ref m11, .ref m12, .ref m13, .ref m14, .int wr])), aJ G m1 560 mw, aZ G m2 2 ik, aI G m3 20 fm3_12, aI G m4 20 cl, aI G m5 20 hs, aI G m6 20 ks, aI G m7 20 wa, aI G m8 20 ne, aI G m9 4 mn, aI G m10 400 tx, aI G m11 6 th, aI G m12 6 od, aI G m13 30 bk, aI G m14 30 bh] H := by rw [ef]; exact hP
      have hD : va_D A [(m0, .inr (8, [.ref m1, .ref m2, .ref m3, .ref m4, .ref m5, .ref m6, .ref m7, .ref m8, .ref m9, .int fu, .int fd, .int fi, .int nu, .int nw, .int nf, .int bf, .int bn, .ref m10, .int ts, .int ap2_8, .int fs2_9, .int ln, .int fo2_10, .int fa2_11, .ref m11, .ref m12, .ref m13, .ref m14, .int wr])), aJ G m1 560 mw, aZ G m2 2 ik, aI G m3 20 fm3_12, aI G m4 20 cl, aI G m5 20 hs, aI G m6 20 ks, aI G m7 20 wa, aI G m8 20 ne, aI G m9 4 mn, aI G m10 400 tx, aI G m11 6 th, aI G m12 6 od, aI G m13 30 bk, aI G m14 30 bh] := by rw [ef]; exact hD
      have hv := hv fm3_12 ef
      refine lv_aload_n hx hb dX8_takeStone_49 rfl (lv_at hl 1 rfl) ?_
      refine va_get (D := G.1) (ci := 8) (v := .ref m4) (C := RX8) (T := TX8) (N := 29) hx hb hts hinX8 hown hKK.1 hP 0 rfl rfl 3 (by decide) kl21 (fun _ h9 => h9) rfl dX8_takeStone_50 ?_
      refine lv_iload_n hx hb dX8_takeStone_53 rfl (lv_at hl 0 rfl) ?_
      refine lv_aload_n hx hb dX8_takeStone_54 rfl (lv_at hl 1 rfl) ?_
      refine lv_iconst (v := 2) hx hb dX8_takeStone_55 (by decide) ?_
      refine lv_sipush (v := 999) hx hb dX8_takeStone_56 (by decide) ?_
      obtain ⟨hp, hv⟩ := hv
      refine x_calli (wr := []) (w' := fun (u : (Int32) × (Int32) × (Int32) × (Int32)) => [(m0, .inr (8, [.ref m1, .ref m2, .ref m3, .ref m4, .ref m5, .ref m6, .ref m7, .ref m8, .ref m9, .int fu, .int fd, .int fi, .int nu, .int nw, .int nf, .int bf, .int bn, .ref m10, .int ts, .int u.1, .int u.2.1, .int ln, .int u.2.2.1, .int u.2.2.2, .ref m11, .ref m12, .ref m13, .ref m14, .int wr])), aJ G m1 560 mw, aZ G m2 2 ik, aI G m3 20 fm3_12, aI G m4 20 cl, aI G m5 20 hs, aI G m6 20 ks, aI G m7 20 wa, aI G m8 20 ne, aI G m9 4 mn, aI G m10 400 tx, aI G m11 6 th, aI G m12 6 od, aI G m13 30 bk, aI G m14 30 bh]) (x_runV (As := [.int 2, .int 999]) (rest := [.int y_6, .ref m4]) (n := 2) (C := RX8) (ci := 8) ⟨hx, hb, hml, hown, hts⟩ (k_X8_takeNumber l G m0 m1 m2 m3 m4 m5 m6 m7 m8 m9 m10 m11 m12 m13 m14 _ mw ik fm3_12 cl hs ks wa ne mn tx th od bk bh fu fd fi nu nw nf bf bn ts ap2_8 fs2_9 ln fo2_10 fa2_11 wr 2 999 hp) gX8_takeStone_X8_takeNumber rfl (by decide +kernel) ⟨Nat.le_trans (Nat.le_of_ble_eq_true rfl) hRf, Nat.le_trans (Nat.le_of_ble_eq_true rfl) hRl⟩ hKK hSS hS hA hP hD [0, 1, 2, 3, 4, 5, 6, 7, 8, 9, 10, 11, 12, 13, 14] (by decide) rfl rfl rfl 0 rfl rfl hl.1 rfl (Nat.le_of_ble_eq_true rfl) dX8_takeStone_59) hP hD hS hA [0, 1, 2, 3, 4, 5, 6, 7, 8, 9, 10, 11, 12, 13, 14] [] [0, 1, 2, 3, 4, 5, 6, 7, 8, 9, 10, 11, 12, 13, 14] rfl rfl (by decide) (by decide) (by decide) (fun _ => rfl) (fun r_13 u H locs hw hP hD hS => ?_)
      obtain ⟨ap2_14, fs2_15, fo2_16, fa2_17⟩ := u
      have hP : va_P G.1 vwCl [(m0, .inr (8, [.ref m1, .ref m2, .ref m3, .ref m4, .ref m5, .ref m6, .ref m7, .ref m8, .ref m9, .int fu, .int fd, .int fi, .int nu, .int nw, .int nf, .int bf, .int bn, .ref m10, .int ts, .int ap2_14, .int fs2_15, .int ln, .int fo2_16, .int fa2_17, .ref m11, .ref m12, .ref m13, .ref m14, .int wr])), aJ G m1 560 mw, aZ G m2 2 ik, aI G m3 20 fm3_12, aI G m4 20 cl, aI G m5 20 hs, aI G m6 20 ks, aI G m7 20 wa, aI G m8 20 ne, aI G m9 4 mn, aI G m10 400 tx, aI G m11 6 th, aI G m12 6 od, aI G m13 30 bk, aI G m14 30 bh] H := hP
      have hD : va_D A [(m0, .inr (8, [.ref m1, .ref m2, .ref m3, .ref m4, .ref m5, .ref m6, .ref m7, .ref m8, .ref m9, .int fu, .int fd, .int fi, .int nu, .int nw, .int nf, .int bf, .int bn, .ref m10, .int ts, .int ap2_14, .int fs2_15, .int ln, .int fo2_16, .int fa2_17, .ref m11, .ref m12, .ref m13, .ref m14, .int wr])), aJ G m1 560 mw, aZ G m2 2 ik, aI G m3 20 fm3_12, aI G m4 20 cl, aI G m5 20 hs, aI G m6 20 ks, aI G m7 20 wa, aI G m8 20 ne, aI G m9 4 mn, aI G m10 400 tx, aI G m11 6 th, aI G m12 6 od, aI G m13 30 bk, aI G m14 30 bh] := hD
      have hv := hv r_13 ap2_14 fs2_15 fo2_16 fa2_17 hw
      obtain ⟨hin, hv⟩ := hv
      refine va_iast hx hb hKK.1 hP hD hS 4 0 rfl rfl hin dX8_takeStone_62 (fun H locs hP hD hS => ?_)
      obtain ⟨fm4_18, ef⟩ : ∃ z9_, z9_ = (upd cl y_6.toNatClampNeg r_13) := ⟨_, rfl⟩
      have hP : va_P G.1 vwCl [(m0, .inr (8, [.ref m1, .ref m2, .ref m3, .ref m4, .ref m5, .ref m6, .ref m7, .ref m8, .ref m9, .int fu, .int fd, .int fi, .int nu, .int nw, .int nf, .int bf, .int bn, .ref m10, .int ts, .int ap2_14, .int fs2_15, .int ln, .int fo2_16, .int fa2_17, .ref m11, .ref m12, .ref m13, .ref m14, .int wr])), aJ G m1 560 mw, aZ G m2 2 ik, aI G m3 20 fm3_12, aI G m4 20 fm4_18, aI G m5 20 hs, aI G m6 20 ks, aI G m7 20 wa, aI G m8 20 ne, aI G m9 4 mn, aI G m10 400 tx, aI G m11 6 th, aI G m12 6 od, aI G m13 30 bk, aI G m14 30 bh] H := by rw [ef]; exact hP
      have hD : va_D A [(m0, .inr (8, [.ref m1, .ref m2, .ref m3, .ref m4, .ref m5, .ref m6, .ref m7, .ref m8, .ref m9, .int fu, .int fd, .int fi, .int nu, .int nw, .int nf, .int bf, .int bn, .ref m10, .int ts, .int ap2_14, .int fs2_15, .int ln, .int fo2_16, .int fa2_17, .ref m11, .ref m12, .ref m13, .ref m14, .int wr])), aJ G m1 560 mw, aZ G m2 2 ik, aI G m3 20 fm3_12, aI G m4 20 fm4_18, aI G m5 20 hs, aI G m6 20 ks, aI G m7 20 wa, aI G m8 20 ne, aI G m9 4 mn, aI G m10 400 tx, aI G m11 6 th, aI G m12 6 od, aI G m13 30 bk, aI G m14 30 bh] := by rw [ef]; exact hD
      have hv := hv fm4_18 ef
      refine lv_aload_n hx hb dX8_takeStone_63 rfl (lv_at hl 1 rfl) ?_
      refine va_get (D := G.1) (ci := 8) (v := .ref m5) (C := RX8) (T := TX8) (N := 29) hx hb hts hinX8 hown hKK.1 hP 0 rfl rfl 4 (by decide) kl24 (fun _ h9 => h9) rfl dX8_takeStone_64 ?_
      refine lv_iload_n hx hb dX8_takeStone_67 rfl (lv_at hl 0 rfl) ?_
      refine lv_aload_n hx hb dX8_takeStone_68 rfl (lv_at hl 1 rfl) ?_
      refine lv_iconst (v := 0) hx hb dX8_takeStone_69 (by decide) ?_
      refine lv_sipush (v := 9999) hx hb dX8_takeStone_70 (by decide) ?_
      obtain ⟨hp, hv⟩ := hv
      refine x_calli (wr := []) (w' := fun (u : (Int32) × (Int32) × (Int32) × (Int32)) => [(m0, .inr (8, [.ref m1, .ref m2, .ref m3, .ref m4, .ref m5, .ref m6, .ref m7, .ref m8, .ref m9, .int fu, .int fd, .int fi, .int nu, .int nw, .int nf, .int bf, .int bn, .ref m10, .int ts, .int u.1, .int u.2.1, .int ln, .int u.2.2.1, .int u.2.2.2, .ref m11, .ref m12, .ref m13, .ref m14, .int wr])), aJ G m1 560 mw, aZ G m2 2 ik, aI G m3 20 fm3_12, aI G m4 20 fm4_18, aI G m5 20 hs, aI G m6 20 ks, aI G m7 20 wa, aI G m8 20 ne, aI G m9 4 mn, aI G m10 400 tx, aI G m11 6 th, aI G m12 6 od, aI G m13 30 bk, aI G m14 30 bh]) (x_runV (As := [.int 0, .int 9999]) (rest := [.int y_6, .ref m5]) (n := 2) (C := RX8) (ci := 8) ⟨hx, hb, hml, hown, hts⟩ (k_X8_takeNumber l G m0 m1 m2 m3 m4 m5 m6 m7 m8 m9 m10 m11 m12 m13 m14 _ mw ik fm3_12 fm4_18 hs ks wa ne mn tx th od bk bh fu fd fi nu nw nf bf bn ts ap2_14 fs2_15 ln fo2_16 fa2_17 wr 0 9999 hp) gX8_takeStone_X8_takeNumber rfl (by decide +kernel) ⟨Nat.le_trans (Nat.le_of_ble_eq_true rfl) hRf, Nat.le_trans (Nat.le_of_ble_eq_true rfl) hRl⟩ hKK hSS hS hA hP hD [0, 1, 2, 3, 4, 5, 6, 7, 8, 9, 10, 11, 12, 13, 14] (by decide) rfl rfl rfl 0 rfl rfl hl.1 rfl (Nat.le_of_ble_eq_true rfl) dX8_takeStone_73) hP hD hS hA [0, 1, 2, 3, 4, 5, 6, 7, 8, 9, 10, 11, 12, 13, 14] [] [0, 1, 2, 3, 4, 5, 6, 7, 8, 9, 10, 11, 12, 13, 14] rfl rfl (by decide) (by decide) (by decide) (fun _ => rfl) (fun r_19 u H locs hw hP hD hS => ?_)
      obtain ⟨ap2_20, fs2_21, fo2_22, fa2_23⟩ := u
      have hP : va_P G.1 vwCl [(m0, .inr (8, [.ref m1, .ref m2, .ref m3, .ref m4, .ref m5, .ref m6, .ref m7, .ref m8, .ref m9, .int fu, .int fd, .int fi, .int nu, .int nw, .int nf, .int bf, .int bn, .ref m10, .int ts, .int ap2_20, .int fs2_21, .int ln, .int fo2_22, .int fa2_23, .ref m11, .ref m12, .ref m13, .ref m14, .int wr])), aJ G m1 560 mw, aZ G m2 2 ik, aI G m3 20 fm3_12, aI G m4 20 fm4_18, aI G m5 20 hs, aI G m6 20 ks, aI G m7 20 wa, aI G m8 20 ne, aI G m9 4 mn, aI G m10 400 tx, aI G m11 6 th, aI G m12 6 od, aI G m13 30 bk, aI G m14 30 bh] H := hP
      have hD : va_D A [(m0, .inr (8, [.ref m1, .ref m2, .ref m3, .ref m4, .ref m5, .ref m6, .ref m7, .ref m8, .ref m9, .int fu, .int fd, .int fi, .int nu, .int nw, .int nf, .int bf, .int bn, .ref m10, .int ts, .int ap2_20, .int fs2_21, .int ln, .int fo2_22, .int fa2_23, .ref m11, .ref m12, .ref m13, .ref m14, .int wr])), aJ G m1 560 mw, aZ G m2 2 ik, aI G m3 20 fm3_12, aI G m4 20 fm4_18, aI G m5 20 hs, aI G m6 20 ks, aI G m7 20 wa, aI G m8 20 ne, aI G m9 4 mn, aI G m10 400 tx, aI G m11 6 th, aI G m12 6 od, aI G m13 30 bk, aI G m14 30 bh] := hD
      have hv := hv r_19 ap2_20 fs2_21 fo2_22 fa2_23 hw
      obtain ⟨hin, hv⟩ := hv
      refine va_iast hx hb hKK.1 hP hD hS 5 0 rfl rfl hin dX8_takeStone_76 (fun H locs hP hD hS => ?_)
      obtain ⟨fm5_24, ef⟩ : ∃ z9_, z9_ = (upd hs y_6.toNatClampNeg r_19) := ⟨_, rfl⟩
      have hP : va_P G.1 vwCl [(m0, .inr (8, [.ref m1, .ref m2, .ref m3, .ref m4, .ref m5, .ref m6, .ref m7, .ref m8, .ref m9, .int fu, .int fd, .int fi, .int nu, .int nw, .int nf, .int bf, .int bn, .ref m10, .int ts, .int ap2_20, .int fs2_21, .int ln, .int fo2_22, .int fa2_23, .ref m11, .ref m12, .ref m13, .ref m14, .int wr])), aJ G m1 560 mw, aZ G m2 2 ik, aI G m3 20 fm3_12, aI G m4 20 fm4_18, aI G m5 20 fm5_24, aI G m6 20 ks, aI G m7 20 wa, aI G m8 20 ne, aI G m9 4 mn, aI G m10 400 tx, aI G m11 6 th, aI G m12 6 od, aI G m13 30 bk, aI G m14 30 bh] H := by rw [ef]; exact hP
      have hD : va_D A [(m0, .inr (8, [.ref m1, .ref m2, .ref m3, .ref m4, .ref m5, .ref m6, .ref m7, .ref m8, .ref m9, .int fu, .int fd, .int fi, .int nu, .int nw, .int nf, .int bf, .int bn, .ref m10, .int ts, .int ap2_20, .int fs2_21, .int ln, .int fo2_22, .int fa2_23, .ref m11, .ref m12, .ref m13, .ref m14, .int wr])), aJ G m1 560 mw, aZ G m2 2 ik, aI G m3 20 fm3_12, aI G m4 20 fm4_18, aI G m5 20 fm5_24, aI G m6 20 ks, aI G m7 20 wa, aI G m8 20 ne, aI G m9 4 mn, aI G m10 400 tx, aI G m11 6 th, aI G m12 6 od, aI G m13 30 bk, aI G m14 30 bh] := by rw [ef]; exact hD
      have hv := hv fm5_24 ef
      refine lv_aload_n hx hb dX8_takeStone_77 rfl (lv_at hl 1 rfl) ?_
      refine lv_aload_n hx hb dX8_takeStone_78 rfl (lv_at hl 1 rfl) ?_
      refine va_get (D := G.1) (ci := 8) (v := .ref m5) (C := RX8) (T := TX8) (N := 29) hx hb hts hinX8 hown hKK.1 hP 0 rfl rfl 4 (by decide) kl24 (fun _ h9 => h9) rfl dX8_takeStone_79 ?_
      refine lv_iload_n hx hb dX8_takeStone_82 rfl (lv_at hl 0 rfl) ?_
      obtain ⟨hin, hv⟩ := hv
      refine va_iald hx hb hKK.1 hP 5 0 rfl rfl hin dX8_takeStone_83 ?_
      refine lv_aload_n hx hb dX8_takeStone_84 rfl (lv_at hl 1 rfl) ?_
      refine va_get (D := G.1) (ci := 8) (v := .ref m3) (C := RX8) (T := TX8) (N := 29) hx hb hts hinX8 hown hKK.1 hP 0 rfl rfl 2 (by decide) kl17 (fun _ h9 => h9) rfl dX8_takeStone_85 ?_
      refine lv_iload_n hx hb dX8_takeStone_88 rfl (lv_at hl 0 rfl) ?_
      obtain ⟨hin, hv⟩ := hv
      refine va_iald hx hb hKK.1 hP 3 0 rfl rfl hin dX8_takeStone_89 ?_
      refine lv_icmp_gt (tgt := 97) hx hb dX8_takeStone_90 (by decide) (fun hc_25 => ?_) (fun hc_25 => ?_)
      · have hv := hv.1 hc_25
        refine lv_iconst (v := 0) hx hb dX8_takeStone_97 (by decide) ?_
        refine lv_iconst (v := 4) hx hb dX8_takeStone_98 (by decide) ?_
        refine lv_aload_n hx hb dX8_takeStone_99 rfl (lv_at hl 1 rfl) ?_
        refine va_get (D := G.1) (ci := 8) (v := .int fs2_21) (C := RX8) (T := TX8) (N := 29) hx hb hts hinX8 hown hKK.1 hP 0 rfl rfl 20 (by decide) kl90 (fun _ h9 => h9) rfl dX8_takeStone_100 ?_
        obtain ⟨hp, hv⟩ := hv
        refine x_calli (wr := []) (w' := fun (u : (Int32) × (Int32)) => [(m0, .inr (8, [.ref m1, .ref m2, .ref m3, .ref m4, .ref m5, .ref m6, .ref m7, .ref m8, .ref m9, .int fu, .int fd, .int fi, .int nu, .int nw, .int nf, .int bf, .int bn, .ref m10, .int ts, .int ap2_20, .int fs2_21, .int ln, .int u.1, .int u.2, .ref m11, .ref m12, .ref m13, .ref m14, .int wr])), aJ G m1 560 mw, aZ G m2 2 ik, aI G m3 20 fm3_12, aI G m4 20 fm4_18, aI G m5 20 fm5_24, aI G m6 20 ks, aI G m7 20 wa, aI G m8 20 ne, aI G m9 4 mn, aI G m10 400 tx, aI G m11 6 th, aI G m12 6 od, aI G m13 30 bk, aI G m14 30 bh]) (x_runV (As := [.int 0, .int 4, .int fs2_21]) (rest := []) (n := 3) (C := RX8) (ci := 8) ⟨hx, hb, hml, hown, hts⟩ (k_X8_want l G m0 m1 m2 m3 m4 m5 m6 m7 m8 m9 m10 m11 m12 m13 m14 _ mw ik fm3_12 fm4_18 fm5_24 ks wa ne mn tx th od bk bh fu fd fi nu nw nf bf bn ts ap2_20 fs2_21 ln fo2_22 fa2_23 wr 0 4 fs2_21 hp) gX8_takeStone_X8_want rfl (by decide +kernel) ⟨Nat.le_trans (Nat.le_of_ble_eq_true rfl) hRf, Nat.le_trans (Nat.le_of_ble_eq_true rfl) hRl⟩ hKK hSS hS hA hP hD [0, 1, 2, 3, 4, 5, 6, 7, 8, 9, 10, 11, 12, 13, 14] (by decide) rfl rfl rfl 0 rfl rfl hl.1 rfl (Nat.le_of_ble_eq_true rfl) dX8_takeStone_103) hP hD hS hA [0, 1, 2, 3, 4, 5, 6, 7, 8, 9, 10, 11, 12, 13, 14] [] [0, 1, 2, 3, 4, 5, 6, 7, 8, 9, 10, 11, 12, 13, 14] rfl rfl (by decide) (by decide) (by decide) (fun _ => rfl) (fun r_26 u H locs hw hP hD hS => ?_)
        obtain ⟨fo2_27, fa2_28⟩ := u
        have hP : va_P G.1 vwCl [(m0, .inr (8, [.ref m1, .ref m2, .ref m3, .ref m4, .ref m5, .ref m6, .ref m7, .ref m8, .ref m9, .int fu, .int fd, .int fi, .int nu, .int nw, .int nf, .int bf, .int bn, .ref m10, .int ts, .int ap2_20, .int fs2_21, .int ln, .int fo2_27, .int fa2_28, .ref m11, .ref m12, .ref m13, .ref m14, .int wr])), aJ G m1 560 mw, aZ G m2 2 ik, aI G m3 20 fm3_12, aI G m4 20 fm4_18, aI G m5 20 fm5_24, aI G m6 20 ks, aI G m7 20 wa, aI G m8 20 ne, aI G m9 4 mn, aI G m10 400 tx, aI G m11 6 th, aI G m12 6 od, aI G m13 30 bk, aI G m14 30 bh] H := hP
        have hD : va_D A [(m0, .inr (8, [.ref m1, .ref m2, .ref m3, .ref m4, .ref m5, .ref m6, .ref m7, .ref m8, .ref m9, .int fu, .int fd, .int fi, .int nu, .int nw, .int nf, .int bf, .int bn, .ref m10, .int ts, .int ap2_20, .int fs2_21, .int ln, .int fo2_27, .int fa2_28, .ref m11, .ref m12, .ref m13, .ref m14, .int wr])), aJ G m1 560 mw, aZ G m2 2 ik, aI G m3 20 fm3_12, aI G m4 20 fm4_18, aI G m5 20 fm5_24, aI G m6 20 ks, aI G m7 20 wa, aI G m8 20 ne, aI G m9 4 mn, aI G m10 400 tx, aI G m11 6 th, aI G m12 6 od, aI G m13 30 bk, aI G m14 30 bh] := hD
        have hv := hv r_26 fo2_27 fa2_28 hw
        refine lv_istore_n (lv' := [(3, .int r_26), (2, .int y_6), (0, .ref m0), (1, .int x)]) hx hb dX8_takeStone_106 rfl hl (by decide) rfl (fun ls hl => ?_)
        refine lv_aload_n hx hb dX8_takeStone_107 rfl (lv_at hl 2 rfl) ?_
        refine va_get (D := G.1) (ci := 8) (v := .ref m9) (C := RX8) (T := TX8) (N := 29) hx hb hts hinX8 hown hKK.1 hP 0 rfl rfl 8 (by decide) kl36 (fun _ h9 => h9) rfl dX8_takeStone_108 ?_
        refine lv_iconst (v := 2) hx hb dX8_takeStone_111 (by decide) ?_
        refine lv_dup2_11 hx hb dX8_takeStone_112 rfl rfl ?_
        refine va_iald hx hb hKK.1 hP 9 0 rfl rfl (by unfold vp_in; decide) dX8_takeStone_113 ?_
        refine lv_iconst (v := 1) hx hb dX8_takeStone_114 (by decide) ?_
        refine lv_iadd hx hb dX8_takeStone_115 ?_
        refine va_iast hx hb hKK.1 hP hD hS 9 0 rfl rfl (by unfold vp_in; decide) dX8_takeStone_116 (fun H locs hP hD hS => ?_)
        obtain ⟨fm9_29, ef⟩ : ∃ z9_, z9_ = (upd mn 2 ((mn 2) + 1)) := ⟨_, rfl⟩
        have hP : va_P G.1 vwCl [(m0, .inr (8, [.ref m1, .ref m2, .ref m3, .ref m4, .ref m5, .ref m6, .ref m7, .ref m8, .ref m9, .int fu, .int fd, .int fi, .int nu, .int nw, .int nf, .int bf, .int bn, .ref m10, .int ts, .int ap2_20, .int fs2_21, .int ln, .int fo2_27, .int fa2_28, .ref m11, .ref m12, .ref m13, .ref m14, .int wr])), aJ G m1 560 mw, aZ G m2 2 ik, aI G m3 20 fm3_12, aI G m4 20 fm4_18, aI G m5 20 fm5_24, aI G m6 20 ks, aI G m7 20 wa, aI G m8 20 ne, aI G m9 4 fm9_29, aI G m10 400 tx, aI G m11 6 th, aI G m12 6 od, aI G m13 30 bk, aI G m14 30 bh] H := by rw [ef]; exact hP
        have hD : va_D A [(m0, .inr (8, [.ref m1, .ref m2, .ref m3, .ref m4, .ref m5, .ref m6, .ref m7, .ref m8, .ref m9, .int fu, .int fd, .int fi, .int nu, .int nw, .int nf, .int bf, .int bn, .ref m10, .int ts, .int ap2_20, .int fs2_21, .int ln, .int fo2_27, .int fa2_28, .ref m11, .ref m12, .ref m13, .ref m14, .int wr])), aJ G m1 560 mw, aZ G m2 2 ik, aI G m3 20 fm3_12, aI G m4 20 fm4_18, aI G m5 20 fm5_24, aI G m6 20 ks, aI G m7 20 wa, aI G m8 20 ne, aI G m9 4 fm9_29, aI G m10 400 tx, aI G m11 6 th, aI G m12 6 od, aI G m13 30 bk, aI G m14 30 bh] := by rw [ef]; exact hD
        have hv := hv fm9_29 ef
        exact x_vret (fm3_12, fm4_18, fm5_24, fm9_29, ap2_20, fs2_21, fo2_27, fa2_28) hQ hx hb hr hlocks hS dX8_takeStone_117 hv hP hD
      · have hv := hv.2 hc_25
        refine lv_iconst (v := 1) hx hb dX8_takeStone_93 (by decide) ?_
        refine lv_goto (tgt := 98) hx hb dX8_takeStone_94 (by decide) ?_
        refine lv_iconst (v := 4) hx hb dX8_takeStone_98 (by decide) ?_
        refine lv_aload_n hx hb dX8_takeStone_99 rfl (lv_at hl 1 rfl) ?_
        refine va_get (D := G.1) (ci := 8) (v := .int fs2_21) (C := RX8) (T := TX8) (N := 29) hx hb hts hinX8 hown hKK.1 hP 0 rfl rfl 20 (by decide) kl90 (fun _ h9 => h9) rfl dX8_takeStone_100 ?_
        obtain ⟨hp, hv⟩ := hv
        refine x_calli (wr := []) (w' := fun (u : (Int32) × (Int32)) => [(m0, .inr (8, [.ref m1, .ref m2, .ref m3, .ref m4, .ref m5, .ref m6, .ref m7, .ref m8, .ref m9, .int fu, .int fd, .int fi, .int nu, .int nw, .int nf, .int bf, .int bn, .ref m10, .int ts, .int ap2_20, .int fs2_21, .int ln, .int u.1, .int u.2, .ref m11, .ref m12, .ref m13, .ref m14, .int wr])), aJ G m1 560 mw, aZ G m2 2 ik, aI G m3 20 fm3_12, aI G m4 20 fm4_18, aI G m5 20 fm5_24, aI G m6 20 ks, aI G m7 20 wa, aI G m8 20 ne, aI G m9 4 mn, aI G m10 400 tx, aI G m11 6 th, aI G m12 6 od, aI G m13 30 bk, aI G m14 30 bh]) (x_runV (As := [.int 1, .int 4, .int fs2_21]) (rest := []) (n := 3) (C := RX8) (ci := 8) ⟨hx, hb, hml, hown, hts⟩ (k_X8_want l G m0 m1 m2 m3 m4 m5 m6 m7 m8 m9 m10 m11 m12 m13 m14 _ mw ik fm3_12 fm4_18 fm5_24 ks wa ne mn tx th od bk bh fu fd fi nu nw nf bf bn ts ap2_20 fs2_21 ln fo2_22 fa2_23 wr 1 4 fs2_21 hp) gX8_takeStone_X8_want rfl (by decide +kernel) ⟨Nat.le_trans (Nat.le_of_ble_eq_true rfl) hRf, Nat.le_trans (Nat.le_of_ble_eq_true rfl) hRl⟩ hKK hSS hS hA hP hD [0, 1, 2, 3, 4, 5, 6, 7, 8, 9, 10, 11, 12, 13, 14] (by decide) rfl rfl rfl 0 rfl rfl hl.1 rfl (Nat.le_of_ble_eq_true rfl) dX8_takeStone_103) hP hD hS hA [0, 1, 2, 3, 4, 5, 6, 7, 8, 9, 10, 11, 12, 13, 14] [] [0, 1, 2, 3, 4, 5, 6, 7, 8, 9, 10, 11, 12, 13, 14] rfl rfl (by decide) (by decide) (by decide) (fun _ => rfl) (fun r_30 u H locs hw hP hD hS => ?_)
        obtain ⟨fo2_31, fa2_32⟩ := u
        have hP : va_P G.1 vwCl [(m0, .inr (8, [.ref m1, .ref m2, .ref m3, .ref m4, .ref m5, .ref m6, .ref m7, .ref m8, .ref m9, .int fu, .int fd, .int fi, .int nu, .int nw, .int nf, .int bf, .int bn, .ref m10, .int ts, .int ap2_20, .int fs2_21, .int ln, .int fo2_31, .int fa2_32, .ref m11, .ref m12, .ref m13, .ref m14, .int wr])), aJ G m1 560 mw, aZ G m2 2 ik, aI G m3 20 fm3_12, aI G m4 20 fm4_18, aI G m5 20 fm5_24, aI G m6 20 ks, aI G m7 20 wa, aI G m8 20 ne, aI G m9 4 mn, aI G m10 400 tx, aI G m11 6 th, aI G m12 6 od, aI G m13 30 bk, aI G m14 30 bh] H := hP
        have hD : va_D A [(m0, .inr (8, [.ref m1, .ref m2, .ref m3, .ref m4, .ref m5, .ref m6, .ref m7, .ref m8, .ref m9, .int fu, .int fd, .int fi, .int nu, .int nw, .int nf, .int bf, .int bn, .ref m10, .int ts, .int ap2_20, .int fs2_21, .int ln, .int fo2_31, .int fa2_32, .ref m11, .ref m12, .ref m13, .ref m14, .int wr])), aJ G m1 560 mw, aZ G m2 2 ik, aI G m3 20 fm3_12, aI G m4 20 fm4_18, aI G m5 20 fm5_24, aI G m6 20 ks, aI G m7 20 wa, aI G m8 20 ne, aI G m9 4 mn, aI G m10 400 tx, aI G m11 6 th, aI G m12 6 od, aI G m13 30 bk, aI G m14 30 bh] := hD
        have hv := hv r_30 fo2_31 fa2_32 hw
        refine lv_istore_n (lv' := [(3, .int r_30), (2, .int y_6), (0, .ref m0), (1, .int x)]) hx hb dX8_takeStone_106 rfl hl (by decide) rfl (fun ls hl => ?_)
        refine lv_aload_n hx hb dX8_takeStone_107 rfl (lv_at hl 2 rfl) ?_
        refine va_get (D := G.1) (ci := 8) (v := .ref m9) (C := RX8) (T := TX8) (N := 29) hx hb hts hinX8 hown hKK.1 hP 0 rfl rfl 8 (by decide) kl36 (fun _ h9 => h9) rfl dX8_takeStone_108 ?_
        refine lv_iconst (v := 2) hx hb dX8_takeStone_111 (by decide) ?_
        refine lv_dup2_11 hx hb dX8_takeStone_112 rfl rfl ?_
        refine va_iald hx hb hKK.1 hP 9 0 rfl rfl (by unfold vp_in; decide) dX8_takeStone_113 ?_
        refine lv_iconst (v := 1) hx hb dX8_takeStone_114 (by decide) ?_
        refine lv_iadd hx hb dX8_takeStone_115 ?_
        refine va_iast hx hb hKK.1 hP hD hS 9 0 rfl rfl (by unfold vp_in; decide) dX8_takeStone_116 (fun H locs hP hD hS => ?_)
        obtain ⟨fm9_33, ef⟩ : ∃ z9_, z9_ = (upd mn 2 ((mn 2) + 1)) := ⟨_, rfl⟩
        have hP : va_P G.1 vwCl [(m0, .inr (8, [.ref m1, .ref m2, .ref m3, .ref m4, .ref m5, .ref m6, .ref m7, .ref m8, .ref m9, .int fu, .int fd, .int fi, .int nu, .int nw, .int nf, .int bf, .int bn, .ref m10, .int ts, .int ap2_20, .int fs2_21, .int ln, .int fo2_31, .int fa2_32, .ref m11, .ref m12, .ref m13, .ref m14, .int wr])), aJ G m1 560 mw, aZ G m2 2 ik, aI G m3 20 fm3_12, aI G m4 20 fm4_18, aI G m5 20 fm5_24, aI G m6 20 ks, aI G m7 20 wa, aI G m8 20 ne, aI G m9 4 fm9_33, aI G m10 400 tx, aI G m11 6 th, aI G m12 6 od, aI G m13 30 bk, aI G m14 30 bh] H := by rw [ef]; exact hP
        have hD : va_D A [(m0, .inr (8, [.ref m1, .ref m2, .ref m3, .ref m4, .ref m5, .ref m6, .ref m7, .ref m8, .ref m9, .int fu, .int fd, .int fi, .int nu, .int nw, .int nf, .int bf, .int bn, .ref m10, .int ts, .int ap2_20, .int fs2_21, .int ln, .int fo2_31, .int fa2_32, .ref m11, .ref m12, .ref m13, .ref m14, .int wr])), aJ G m1 560 mw, aZ G m2 2 ik, aI G m3 20 fm3_12, aI G m4 20 fm4_18, aI G m5 20 fm5_24, aI G m6 20 ks, aI G m7 20 wa, aI G m8 20 ne, aI G m9 4 fm9_33, aI G m10 400 tx, aI G m11 6 th, aI G m12 6 od, aI G m13 30 bk, aI G m14 30 bh] := by rw [ef]; exact hD
        have hv := hv fm9_33 ef
        exact x_vret (fm3_12, fm4_18, fm5_24, fm9_33, ap2_20, fs2_21, fo2_31, fa2_32) hQ hx hb hr hlocks hS dX8_takeStone_117 hv hP hD
  · have hv := hv.2 hc_1
    refine lv_iconst (v := 1) hx hb dX8_takeStone_12 (by decide) ?_
    refine lv_goto (tgt := 17) hx hb dX8_takeStone_13 (by decide) ?_
    refine lv_iconst (v := 3) hx hb dX8_takeStone_17 (by decide) ?_
    refine lv_iload_n hx hb dX8_takeStone_18 rfl (lv_at hl 1 rfl) ?_
    obtain ⟨hp, hv⟩ := hv
    refine x_calli (wr := []) (w' := fun (u : (Int32) × (Int32)) => [(m0, .inr (8, [.ref m1, .ref m2, .ref m3, .ref m4, .ref m5, .ref m6, .ref m7, .ref m8, .ref m9, .int fu, .int fd, .int fi, .int nu, .int nw, .int nf, .int bf, .int bn, .ref m10, .int ts, .int ap, .int fs, .int ln, .int u.1, .int u.2, .ref m11, .ref m12, .ref m13, .ref m14, .int wr])), aJ G m1 560 mw, aZ G m2 2 ik, aI G m3 20 zs, aI G m4 20 cl, aI G m5 20 hs, aI G m6 20 ks, aI G m7 20 wa, aI G m8 20 ne, aI G m9 4 mn, aI G m10 400 tx, aI G m11 6 th, aI G m12 6 od, aI G m13 30 bk, aI G m14 30 bh]) (x_runV (As := [.int 1, .int 3, .int x]) (rest := []) (n := 3) (C := RX8) (ci := 8) ⟨hx, hb, hml, hown, hts⟩ (k_X8_want l G m0 m1 m2 m3 m4 m5 m6 m7 m8 m9 m10 m11 m12 m13 m14 _ mw ik zs cl hs ks wa ne mn tx th od bk bh fu fd fi nu nw nf bf bn ts ap fs ln fo fa wr 1 3 x hp) gX8_takeStone_X8_want rfl (by decide +kernel) ⟨Nat.le_trans (Nat.le_of_ble_eq_true rfl) hRf, Nat.le_trans (Nat.le_of_ble_eq_true rfl) hRl⟩ hKK hSS hS hA hP hD [0, 1, 2, 3, 4, 5, 6, 7, 8, 9, 10, 11, 12, 13, 14] (by decide) rfl rfl rfl 0 rfl rfl hl.1 rfl (Nat.le_of_ble_eq_true rfl) dX8_takeStone_19) hP hD hS hA [0, 1, 2, 3, 4, 5, 6, 7, 8, 9, 10, 11, 12, 13, 14] [] [0, 1, 2, 3, 4, 5, 6, 7, 8, 9, 10, 11, 12, 13, 14] rfl rfl (by decide) (by decide) (by decide) (fun _ => rfl) (fun r_34 u H locs hw hP hD hS => ?_)
    obtain ⟨fo2_35, fa2_36⟩ := u
    have hP : va_P G.1 vwCl [(m0, .inr (8, [.ref m1, .ref m2, .ref m3, .ref m4, .ref m5, .ref m6, .ref m7, .ref m8, .ref m9, .int fu, .int fd, .int fi, .int nu, .int nw, .int nf, .int bf, .int bn, .ref m10, .int ts, .int ap, .int fs, .int ln, .int fo2_35, .int fa2_36, .ref m11, .ref m12, .ref m13, .ref m14, .int wr])), aJ G m1 560 mw, aZ G m2 2 ik, aI G m3 20 zs, aI G m4 20 cl, aI G m5 20 hs, aI G m6 20 ks, aI G m7 20 wa, aI G m8 20 ne, aI G m9 4 mn, aI G m10 400 tx, aI G m11 6 th, aI G m12 6 od, aI G m13 30 bk, aI G m14 30 bh] H := hP
    have hD : va_D A [(m0, .inr (8, [.ref m1, .ref m2, .ref m3, .ref m4, .ref m5, .ref m6, .ref m7, .ref m8, .ref m9, .int fu, .int fd, .int fi, .int nu, .int nw, .int nf, .int bf, .int bn, .ref m10, .int ts, .int ap, .int fs, .int ln, .int fo2_35, .int fa2_36, .ref m11, .ref m12, .ref m13, .ref m14, .int wr])), aJ G m1 560 mw, aZ G m2 2 ik, aI G m3 20 zs, aI G m4 20 cl, aI G m5 20 hs, aI G m6 20 ks, aI G m7 20 wa, aI G m8 20 ne, aI G m9 4 mn, aI G m10 400 tx, aI G m11 6 th, aI G m12 6 od, aI G m13 30 bk, aI G m14 30 bh] := hD
    have hv := hv r_34 fo2_35 fa2_36 hw
    refine lv_if_eq (tgt := 117) hx hb dX8_takeStone_22 (by decide) (fun hc_37 => ?_) (fun hc_37 => ?_)
    · have hv := hv.1 hc_37
      exact x_vret (zs, cl, hs, mn, ap, fs, fo2_35, fa2_36) hQ hx hb hr hlocks hS dX8_takeStone_117 hv hP hD
    · have hv := hv.2 hc_37
      refine lv_bipush (v := 10) hx hb dX8_takeStone_25 (by decide) ?_
      refine lv_aload_n hx hb dX8_takeStone_27 rfl (lv_at hl 0 rfl) ?_
      refine va_get (D := G.1) (ci := 8) (v := .ref m9) (C := RX8) (T := TX8) (N := 29) hx hb hts hinX8 hown hKK.1 hP 0 rfl rfl 8 (by decide) kl36 (fun _ h9 => h9) rfl dX8_takeStone_28 ?_
      refine lv_iconst (v := 2) hx hb dX8_takeStone_31 (by decide) ?_
      refine va_iald hx hb hKK.1 hP 9 0 rfl rfl (by unfold vp_in; decide) dX8_takeStone_32 ?_
      refine lv_iadd hx hb dX8_takeStone_33 ?_
      refine lv_topi (fun y_38 ey => ?_)
      have hv := hv y_38 ey
      refine lv_istore_n (lv' := [(2, .int y_38), (0, .ref m0), (1, .int x)]) hx hb dX8_takeStone_34 rfl hl (by decide) rfl (fun ls hl => ?_)
      refine lv_aload_n hx hb dX8_takeStone_35 rfl (lv_at hl 1 rfl) ?_
      refine va_get (D := G.1) (ci := 8) (v := .ref m3) (C := RX8) (T := TX8) (N := 29) hx hb hts hinX8 hown hKK.1 hP 0 rfl rfl 2 (by decide) kl17 (fun _ h9 => h9) rfl dX8_takeStone_36 ?_
      refine lv_iload_n hx hb dX8_takeStone_39 rfl (lv_at hl 0 rfl) ?_
      refine lv_aload_n hx hb dX8_takeStone_40 rfl (lv_at hl 1 rfl) ?_
      refine lv_iconst (v := 1) hx hb dX8_takeStone_41 (by decide) ?_
      refine lv_sipush (v := 9999) hx hb dX8_takeStone_42 (by decide) ?_
      obtain ⟨hp, hv⟩ := hv
      refine x_calli (wr := []) (w' := fun (u : (Int32) × (Int32) × (Int32) × (Int32)) => [(m0, .inr (8, [.ref m1, .ref m2, .ref m3, .ref m4, .ref m5, .ref m6, .ref m7, .ref m8, .ref m9, .int fu, .int fd, .int fi, .int nu, .int nw, .int nf, .int bf, .int bn, .ref m10, .int ts, .int u.1, .int u.2.1, .int ln, .int u.2.2.1, .int u.2.2.2, .ref m11, .ref m12, .ref m13, .ref m14, .int wr])), aJ G m1 560 mw, aZ G m2 2 ik, aI G m3 20 zs, aI G m4 20 cl, aI G m5 20 hs, aI G m6 20 ks, aI G m7 20 wa, aI G m8 20 ne, aI G m9 4 mn, aI G m10 400 tx, aI G m11 6 th, aI G m12 6 od, aI G m13 30 bk, aI G m14 30 bh]) (x_runV (As := [.int 1, .int 9999]) (rest := [.int y_38, .ref m3]) (n := 2) (C := RX8) (ci := 8) ⟨hx, hb, hml, hown, hts⟩ (k_X8_takeNumber l G m0 m1 m2 m3 m4 m5 m6 m7 m8 m9 m10 m11 m12 m13 m14 _ mw ik zs cl hs ks wa ne mn tx th od bk bh fu fd fi nu nw nf bf bn ts ap fs ln fo2_35 fa2_36 wr 1 9999 hp) gX8_takeStone_X8_takeNumber rfl (by decide +kernel) ⟨Nat.le_trans (Nat.le_of_ble_eq_true rfl) hRf, Nat.le_trans (Nat.le_of_ble_eq_true rfl) hRl⟩ hKK hSS hS hA hP hD [0, 1, 2, 3, 4, 5, 6, 7, 8, 9, 10, 11, 12, 13, 14] (by decide) rfl rfl rfl 0 rfl rfl hl.1 rfl (Nat.le_of_ble_eq_true rfl) dX8_takeStone_45) hP hD hS hA [0, 1, 2, 3, 4, 5, 6, 7, 8, 9, 10, 11, 12, 13, 14] [] [0, 1, 2, 3, 4, 5, 6, 7, 8, 9, 10, 11, 12, 13, 14] rfl rfl (by decide) (by decide) (by decide) (fun _ => rfl) (fun r_39 u H locs hw hP hD hS => ?_)
      obtain ⟨ap2_40, fs2_41, fo2_42, fa2_43⟩ := u
      have hP : va_P G.1 vwCl [(m0, .inr (8, [.ref m1, .ref m2, .ref m3, .ref m4, .ref m5, .ref m6, .ref m7, .ref m8, .ref m9, .int fu, .int fd, .int fi, .int nu, .int nw, .int nf, .int bf, .int bn, .ref m10, .int ts, .int ap2_40, .int fs2_41, .int ln, .int fo2_42, .int fa2_43, .ref m11, .ref m12, .ref m13, .ref m14, .int wr])), aJ G m1 560 mw, aZ G m2 2 ik, aI G m3 20 zs, aI G m4 20 cl, aI G m5 20 hs, aI G m6 20 ks, aI G m7 20 wa, aI G m8 20 ne, aI G m9 4 mn, aI G m10 400 tx, aI G m11 6 th, aI G m12 6 od, aI G m13 30 bk, aI G m14 30 bh] H := hP
      have hD : va_D A [(m0, .inr (8, [.ref m1, .ref m2, .ref m3, .ref m4, .ref m5, .ref m6, .ref m7, .ref m8, .ref m9, .int fu, .int fd, .int fi, .int nu, .int nw, .int nf, .int bf, .int bn, .ref m10, .int ts, .int ap2_40, .int fs2_41, .int ln, .int fo2_42, .int fa2_43, .ref m11, .ref m12, .ref m13, .ref m14, .int wr])), aJ G m1 560 mw, aZ G m2 2 ik, aI G m3 20 zs, aI G m4 20 cl, aI G m5 20 hs, aI G m6 20 ks, aI G m7 20 wa, aI G m8 20 ne, aI G m9 4 mn, aI G m10 400 tx, aI G m11 6 th, aI G m12 6 od, aI G m13 30 bk, aI G m14 30 bh] := hD
      have hv := hv r_39 ap2_40 fs2_41 fo2_42 fa2_43 hw
      obtain ⟨hin, hv⟩ := hv
      refine va_iast hx hb hKK.1 hP hD hS 3 0 rfl rfl hin dX8_takeStone_48 (fun H locs hP hD hS => ?_)
      obtain ⟨fm3_44, ef⟩ : ∃ z9_, z9_ = (upd zs y_38.toNatClampNeg r_39) := ⟨_, rfl⟩
      have hP : va_P G.1 vwCl [(m0, .inr (8, [.ref m1, .ref m2, .ref m3, .ref m4, .ref m5, .ref m6, .ref m7, .ref m8, .ref m9, .int fu, .int fd, .int fi, .int nu, .int nw, .int nf, .int bf, .int bn, .ref m10, .int ts, .int ap2_40, .int fs2_41, .int ln, .int fo2_42, .int fa2_43, .ref m11, .ref m12, .ref m13, .ref m14, .int wr])), aJ G m1 560 mw, aZ G m2 2 ik, aI G m3 20 fm3_44, aI G m4 20 cl, aI G m5 20 hs, aI G m6 20 ks, aI G m7 20 wa, aI G m8 20 ne, aI G m9 4 mn, aI G m10 400 tx, aI G m11 6 th, aI G m12 6 od, aI G m13 30 bk, aI G m14 30 bh] H := by rw [ef]; exact hP
      have hD : va_D A [(m0, .inr (8, [.ref m1, .ref m2, .ref m3, .ref m4, .ref m5, .ref m6, .ref m7, .ref m8, .ref m9, .int fu, .int fd, .int fi, .int nu, .int nw, .int nf, .int bf, .int bn, .ref m10, .int ts, .int ap2_40, .int fs2_41, .int ln, .int fo2_42, .int fa2_43, .ref m11, .ref m12, .ref m13, .ref m14, .int wr])), aJ G m1 560 mw, aZ G m2 2 ik, aI G m3 20 fm3_44, aI G m4 20 cl, aI G m5 20 hs, aI G m6 20 ks, aI G m7 20 wa, aI G m8 20 ne, aI G m9 4 mn, aI G m10 400 tx, aI G m11 6 th, aI G m12 6 od, aI G m13 30 bk, aI G m14 30 bh] := by rw [ef]; exact hD
      have hv := hv fm3_44 ef
      refine lv_aload_n hx hb dX8_takeStone_49 rfl (lv_at hl 1 rfl) ?_
      refine va_get (D := G.1) (ci := 8) (v := .ref m4) (C := RX8) (T := TX8) (N := 29) hx hb hts hinX8 hown hKK.1 hP 0 rfl rfl 3 (by decide) kl21 (fun _ h9 => h9) rfl dX8_takeStone_50 ?_
      refine lv_iload_n hx hb dX8_takeStone_53 rfl (lv_at hl 0 rfl) ?_
      refine lv_aload_n hx hb dX8_takeStone_54 rfl (lv_at hl 1 rfl) ?_
      refine lv_iconst (v := 2) hx hb dX8_takeStone_55 (by decide) ?_
      refine lv_sipush (v := 999) hx hb dX8_takeStone_56 (by decide) ?_
      obtain ⟨hp, hv⟩ := hv
      refine x_calli (wr := []) (w' := fun (u : (Int32) × (Int32) × (Int32) × (Int32)) => [(m0, .inr (8, [.ref m1, .ref m2, .ref m3, .ref m4, .ref m5, .ref m6, .ref m7, .ref m8, .ref m9, .int fu, .int fd, .int fi, .int nu, .int nw, .int nf, .int bf, .int bn, .ref m10, .int ts, .int u.1, .int u.2.1, .int ln, .int u.2.2.1, .int u.2.2.2, .ref m11, .ref m12, .ref m13, .ref m14, .int wr])), aJ G m1 560 mw, aZ G m2 2 ik, aI G m3 20 fm3_44, aI G m4 20 cl, aI G m5 20 hs, aI G m6 20 ks, aI G m7 20 wa, aI G m8 20 ne, aI G m9 4 mn, aI G m10 400 tx, aI G m11 6 th, aI G m12 6 od, aI G m13 30 bk, aI G m14 30 bh]) (x_runV (As := [.int 2, .int 999]) (rest := [.int y_38, .ref m4]) (n := 2) (C := RX8) (ci := 8) ⟨hx, hb, hml, hown, hts⟩ (k_X8_takeNumber l G m0 m1 m2 m3 m4 m5 m6 m7 m8 m9 m10 m11 m12 m13 m14 _ mw ik fm3_44 cl hs ks wa ne mn tx th od bk bh fu fd fi nu nw nf bf bn ts ap2_40 fs2_41 ln fo2_42 fa2_43 wr 2 999 hp) gX8_takeStone_X8_takeNumber rfl (by decide +kernel) ⟨Nat.le_trans (Nat.le_of_ble_eq_true rfl) hRf, Nat.le_trans (Nat.le_of_ble_eq_true rfl) hRl⟩ hKK hSS hS hA hP hD [0, 1, 2, 3, 4, 5, 6, 7, 8, 9, 10, 11, 12, 13, 14] (by decide) rfl rfl rfl 0 rfl rfl hl.1 rfl (Nat.le_of_ble_eq_true rfl) dX8_takeStone_59) hP hD hS hA [0, 1, 2, 3, 4, 5, 6, 7, 8, 9, 10, 11, 12, 13, 14] [] [0, 1, 2, 3, 4, 5, 6, 7, 8, 9, 10, 11, 12, 13, 14] rfl rfl (by decide) (by decide) (by decide) (fun _ => rfl) (fun r_45 u H locs hw hP hD hS => ?_)
      obtain ⟨ap2_46, fs2_47, fo2_48, fa2_49⟩ := u
      have hP : va_P G.1 vwCl [(m0, .inr (8, [.ref m1, .ref m2, .ref m3, .ref m4, .ref m5, .ref m6, .ref m7, .ref m8, .ref m9, .int fu, .int fd, .int fi, .int nu, .int nw, .int nf, .int bf, .int bn, .ref m10, .int ts, .int ap2_46, .int fs2_47, .int ln, .int fo2_48, .int fa2_49, .ref m11, .ref m12, .ref m13, .ref m14, .int wr])), aJ G m1 560 mw, aZ G m2 2 ik, aI G m3 20 fm3_44, aI G m4 20 cl, aI G m5 20 hs, aI G m6 20 ks, aI G m7 20 wa, aI G m8 20 ne, aI G m9 4 mn, aI G m10 400 tx, aI G m11 6 th, aI G m12 6 od, aI G m13 30 bk, aI G m14 30 bh] H := hP
      have hD : va_D A [(m0, .inr (8, [.ref m1, .ref m2, .ref m3, .ref m4, .ref m5, .ref m6, .ref m7, .ref m8, .ref m9, .int fu, .int fd, .int fi, .int nu, .int nw, .int nf, .int bf, .int bn, .ref m10, .int ts, .int ap2_46, .int fs2_47, .int ln, .int fo2_48, .int fa2_49, .ref m11, .ref m12, .ref m13, .ref m14, .int wr])), aJ G m1 560 mw, aZ G m2 2 ik, aI G m3 20 fm3_44, aI G m4 20 cl, aI G m5 20 hs, aI G m6 20 ks, aI G m7 20 wa, aI G m8 20 ne, aI G m9 4 mn, aI G m10 400 tx, aI G m11 6 th, aI G m12 6 od, aI G m13 30 bk, aI G m14 30 bh] := hD
      have hv := hv r_45 ap2_46 fs2_47 fo2_48 fa2_49 hw
      obtain ⟨hin, hv⟩ := hv
      refine va_iast hx hb hKK.1 hP hD hS 4 0 rfl rfl hin dX8_takeStone_62 (fun H locs hP hD hS => ?_)
      obtain ⟨fm4_50, ef⟩ : ∃ z9_, z9_ = (upd cl y_38.toNatClampNeg r_45) := ⟨_, rfl⟩
      have hP : va_P G.1 vwCl [(m0, .inr (8, [.ref m1, .ref m2, .ref m3, .ref m4, .ref m5, .ref m6, .ref m7, .ref m8, .ref m9, .int fu, .int fd, .int fi, .int nu, .int nw, .int nf, .int bf, .int bn, .ref m10, .int ts, .int ap2_46, .int fs2_47, .int ln, .int fo2_48, .int fa2_49, .ref m11, .ref m12, .ref m13, .ref m14, .int wr])), aJ G m1 560 mw, aZ G m2 2 ik, aI G m3 20 fm3_44, aI G m4 20 fm4_50, aI G m5 20 hs, aI G m6 20 ks, aI G m7 20 wa, aI G m8 20 ne, aI G m9 4 mn, aI G m10 400 tx, aI G m11 6 th, aI G m12 6 od, aI G m13 30 bk, aI G m14 30 bh] H := by rw [ef]; exact hP
      have hD : va_D A [(m0, .inr (8, [.ref m1, .ref m2, .ref m3, .ref m4, .ref m5, .ref m6, .ref m7, .ref m8, .ref m9, .int fu, .int fd, .int fi, .int nu, .int nw, .int nf, .int bf, .int bn, .ref m10, .int ts, .int ap2_46, .int fs2_47, .int ln, .int fo2_48, .int fa2_49, .ref m11, .ref m12, .ref m13, .ref m14, .int wr])), aJ G m1 560 mw, aZ G m2 2 ik, aI G m3 20 fm3_44, aI G m4 20 fm4_50, aI G m5 20 hs, aI G m6 20 ks, aI G m7 20 wa, aI G m8 20 ne, aI G m9 4 mn, aI G m10 400 tx, aI G m11 6 th, aI G m12 6 od, aI G m13 30 bk, aI G m14 30 bh] := by rw [ef]; exact hD
      have hv := hv fm4_50 ef
      refine lv_aload_n hx hb dX8_takeStone_63 rfl (lv_at hl 1 rfl) ?_
      refine va_get (D := G.1) (ci := 8) (v := .ref m5) (C := RX8) (T := TX8) (N := 29) hx hb hts hinX8 hown hKK.1 hP 0 rfl rfl 4 (by decide) kl24 (fun _ h9 => h9) rfl dX8_takeStone_64 ?_
      refine lv_iload_n hx hb dX8_takeStone_67 rfl (lv_at hl 0 rfl) ?_
      refine lv_aload_n hx hb dX8_takeStone_68 rfl (lv_at hl 1 rfl) ?_
      refine lv_iconst (v := 0) hx hb dX8_takeStone_69 (by decide) ?_
      refine lv_sipush (v := 9999) hx hb dX8_takeStone_70 (by decide) ?_
      obtain ⟨hp, hv⟩ := hv
      refine x_calli (wr := []) (w' := fun (u : (Int32) × (Int32) × (Int32) × (Int32)) => [(m0, .inr (8, [.ref m1, .ref m2, .ref m3, .ref m4, .ref m5, .ref m6, .ref m7, .ref m8, .ref m9, .int fu, .int fd, .int fi, .int nu, .int nw, .int nf, .int bf, .int bn, .ref m10, .int ts, .int u.1, .int u.2.1, .int ln, .int u.2.2.1, .int u.2.2.2, .ref m11, .ref m12, .ref m13, .ref m14, .int wr])), aJ G m1 560 mw, aZ G m2 2 ik, aI G m3 20 fm3_44, aI G m4 20 fm4_50, aI G m5 20 hs, aI G m6 20 ks, aI G m7 20 wa, aI G m8 20 ne, aI G m9 4 mn, aI G m10 400 tx, aI G m11 6 th, aI G m12 6 od, aI G m13 30 bk, aI G m14 30 bh]) (x_runV (As := [.int 0, .int 9999]) (rest := [.int y_38, .ref m5]) (n := 2) (C := RX8) (ci := 8) ⟨hx, hb, hml, hown, hts⟩ (k_X8_takeNumber l G m0 m1 m2 m3 m4 m5 m6 m7 m8 m9 m10 m11 m12 m13 m14 _ mw ik fm3_44 fm4_50 hs ks wa ne mn tx th od bk bh fu fd fi nu nw nf bf bn ts ap2_46 fs2_47 ln fo2_48 fa2_49 wr 0 9999 hp) gX8_takeStone_X8_takeNumber rfl (by decide +kernel) ⟨Nat.le_trans (Nat.le_of_ble_eq_true rfl) hRf, Nat.le_trans (Nat.le_of_ble_eq_true rfl) hRl⟩ hKK hSS hS hA hP hD [0, 1, 2, 3, 4, 5, 6, 7, 8, 9, 10, 11, 12, 13, 14] (by decide) rfl rfl rfl 0 rfl rfl hl.1 rfl (Nat.le_of_ble_eq_true rfl) dX8_takeStone_73) hP hD hS hA [0, 1, 2, 3, 4, 5, 6, 7, 8, 9, 10, 11, 12, 13, 14] [] [0, 1, 2, 3, 4, 5, 6, 7, 8, 9, 10, 11, 12, 13, 14] rfl rfl (by decide) (by decide) (by decide) (fun _ => rfl) (fun r_51 u H locs hw hP hD hS => ?_)
      obtain ⟨ap2_52, fs2_53, fo2_54, fa2_55⟩ := u
      have hP : va_P G.1 vwCl [(m0, .inr (8, [.ref m1, .ref m2, .ref m3, .ref m4, .ref m5, .ref m6, .ref m7, .ref m8, .ref m9, .int fu, .int fd, .int fi, .int nu, .int nw, .int nf, .int bf, .int bn, .ref m10, .int ts, .int ap2_52, .int fs2_53, .int ln, .int fo2_54, .int fa2_55, .ref m11, .ref m12, .ref m13, .ref m14, .int wr])), aJ G m1 560 mw, aZ G m2 2 ik, aI G m3 20 fm3_44, aI G m4 20 fm4_50, aI G m5 20 hs, aI G m6 20 ks, aI G m7 20 wa, aI G m8 20 ne, aI G m9 4 mn, aI G m10 400 tx, aI G m11 6 th, aI G m12 6 od, aI G m13 30 bk, aI G m14 30 bh] H := hP
      have hD : va_D A [(m0, .inr (8, [.ref m1, .ref m2, .ref m3, .ref m4, .ref m5, .ref m6, .ref m7, .ref m8, .ref m9, .int fu, .int fd, .int fi, .int nu, .int nw, .int nf, .int bf, .int bn, .ref m10, .int ts, .int ap2_52, .int fs2_53, .int ln, .int fo2_54, .int fa2_55, .ref m11, .ref m12, .ref m13, .ref m14, .int wr])), aJ G m1 560 mw, aZ G m2 2 ik, aI G m3 20 fm3_44, aI G m4 20 fm4_50, aI G m5 20 hs, aI G m6 20 ks, aI G m7 20 wa, aI G m8 20 ne, aI G m9 4 mn, aI G m10 400 tx, aI G m11 6 th, aI G m12 6 od, aI G m13 30 bk, aI G m14 30 bh] := hD
      have hv := hv r_51 ap2_52 fs2_53 fo2_54 fa2_55 hw
      obtain ⟨hin, hv⟩ := hv
      refine va_iast hx hb hKK.1 hP hD hS 5 0 rfl rfl hin dX8_takeStone_76 (fun H locs hP hD hS => ?_)
      obtain ⟨fm5_56, ef⟩ : ∃ z9_, z9_ = (upd hs y_38.toNatClampNeg r_51) := ⟨_, rfl⟩
      have hP : va_P G.1 vwCl [(m0, .inr (8, [.ref m1, .ref m2, .ref m3, .ref m4, .ref m5, .ref m6, .ref m7, .ref m8, .ref m9, .int fu, .int fd, .int fi, .int nu, .int nw, .int nf, .int bf, .int bn, .ref m10, .int ts, .int ap2_52, .int fs2_53, .int ln, .int fo2_54, .int fa2_55, .ref m11, .ref m12, .ref m13, .ref m14, .int wr])), aJ G m1 560 mw, aZ G m2 2 ik, aI G m3 20 fm3_44, aI G m4 20 fm4_50, aI G m5 20 fm5_56, aI G m6 20 ks, aI G m7 20 wa, aI G m8 20 ne, aI G m9 4 mn, aI G m10 400 tx, aI G m11 6 th, aI G m12 6 od, aI G m13 30 bk, aI G m14 30 bh] H := by rw [ef]; exact hP
      have hD : va_D A [(m0, .inr (8, [.ref m1, .ref m2, .ref m3, .ref m4, .ref m5, .ref m6, .ref m7, .ref m8, .ref m9, .int fu, .int fd, .int fi, .int nu, .int nw, .int nf, .int bf, .int bn, .ref m10, .int ts, .int ap2_52, .int fs2_53, .int ln, .int fo2_54, .int fa2_55, .ref m11, .ref m12, .ref m13, .ref m14, .int wr])), aJ G m1 560 mw, aZ G m2 2 ik, aI G m3 20 fm3_44, aI G m4 20 fm4_50, aI G m5 20 fm5_56, aI G m6 20 ks, aI G m7 20 wa, aI G m8 20 ne, aI G m9 4 mn, aI G m10 400 tx, aI G m11 6 th, aI G m12 6 od, aI G m13 30 bk, aI G m14 30 bh] := by rw [ef]; exact hD
      have hv := hv fm5_56 ef
      refine lv_aload_n hx hb dX8_takeStone_77 rfl (lv_at hl 1 rfl) ?_
      refine lv_aload_n hx hb dX8_takeStone_78 rfl (lv_at hl 1 rfl) ?_
      refine va_get (D := G.1) (ci := 8) (v := .ref m5) (C := RX8) (T := TX8) (N := 29) hx hb hts hinX8 hown hKK.1 hP 0 rfl rfl 4 (by decide) kl24 (fun _ h9 => h9) rfl dX8_takeStone_79 ?_
      refine lv_iload_n hx hb dX8_takeStone_82 rfl (lv_at hl 0 rfl) ?_
      obtain ⟨hin, hv⟩ := hv
      refine va_iald hx hb hKK.1 hP 5 0 rfl rfl hin dX8_takeStone_83 ?_
      refine lv_aload_n hx hb dX8_takeStone_84 rfl (lv_at hl 1 rfl) ?_
      refine va_get (D := G.1) (ci := 8) (v := .ref m3) (C := RX8) (T := TX8) (N := 29) hx hb hts hinX8 hown hKK.1 hP 0 rfl rfl 2 (by decide) kl17 (fun _ h9 => h9) rfl dX8_takeStone_85 ?_
      refine lv_iload_n hx hb dX8_takeStone_88 rfl (lv_at hl 0 rfl) ?_
      obtain ⟨hin, hv⟩ := hv
      refine va_iald hx hb hKK.1 hP 3 0 rfl rfl hin dX8_takeStone_89 ?_
      refine lv_icmp_gt (tgt := 97) hx hb dX8_takeStone_90 (by decide) (fun hc_57 => ?_) (fun hc_57 => ?_)
      · have hv := hv.1 hc_57
        refine lv_iconst (v := 0) hx hb dX8_takeStone_97 (by decide) ?_
        refine lv_iconst (v := 4) hx hb dX8_takeStone_98 (by decide) ?_
        refine lv_aload_n hx hb dX8_takeStone_99 rfl (lv_at hl 1 rfl) ?_
        refine va_get (D := G.1) (ci := 8) (v := .int fs2_53) (C := RX8) (T := TX8) (N := 29) hx hb hts hinX8 hown hKK.1 hP 0 rfl rfl 20 (by decide) kl90 (fun _ h9 => h9) rfl dX8_takeStone_100 ?_
        obtain ⟨hp, hv⟩ := hv
        refine x_calli (wr := []) (w' := fun (u : (Int32) × (Int32)) => [(m0, .inr (8, [.ref m1, .ref m2, .ref m3, .ref m4, .ref m5, .ref m6, .ref m7, .ref m8, .ref m9, .int fu, .int fd, .int fi, .int nu, .int nw, .int nf, .int bf, .int bn, .ref m10, .int ts, .int ap2_52, .int fs2_53, .int ln, .int u.1, .int u.2, .ref m11, .ref m12, .ref m13, .ref m14, .int wr])), aJ G m1 560 mw, aZ G m2 2 ik, aI G m3 20 fm3_44, aI G m4 20 fm4_50, aI G m5 20 fm5_56, aI G m6 20 ks, aI G m7 20 wa, aI G m8 20 ne, aI G m9 4 mn, aI G m10 400 tx, aI G m11 6 th, aI G m12 6 od, aI G m13 30 bk, aI G m14 30 bh]) (x_runV (As := [.int 0, .int 4, .int fs2_53]) (rest := []) (n := 3) (C := RX8) (ci := 8) ⟨hx, hb, hml, hown, hts⟩ (k_X8_want l G m0 m1 m2 m3 m4 m5 m6 m7 m8 m9 m10 m11 m12 m13 m14 _ mw ik fm3_44 fm4_50 fm5_56 ks wa ne mn tx th od bk bh fu fd fi nu nw nf bf bn ts ap2_52 fs2_53 ln fo2_54 fa2_55 wr 0 4 fs2_53 hp) gX8_takeStone_X8_want rfl (by decide +kernel) ⟨Nat.le_trans (Nat.le_of_ble_eq_true rfl) hRf, Nat.le_trans (Nat.le_of_ble_eq_true rfl) hRl⟩ hKK hSS hS hA hP hD [0, 1, 2, 3, 4, 5, 6, 7, 8, 9, 10, 11, 12, 13, 14] (by decide) rfl rfl rfl 0 rfl rfl hl.1 rfl (Nat.le_of_ble_eq_true rfl) dX8_takeStone_103) hP hD hS hA [0, 1, 2, 3, 4, 5, 6, 7, 8, 9, 10, 11, 12, 13, 14] [] [0, 1, 2, 3, 4, 5, 6, 7, 8, 9, 10, 11, 12, 13, 14] rfl rfl (by decide) (by decide) (by decide) (fun _ => rfl) (fun r_58 u H locs hw hP hD hS => ?_)
        obtain ⟨fo2_59, fa2_60⟩ := u
        have hP : va_P G.1 vwCl [(m0, .inr (8, [.ref m1, .ref m2, .ref m3, .ref m4, .ref m5, .ref m6, .ref m7, .ref m8, .ref m9, .int fu, .int fd, .int fi, .int nu, .int nw, .int nf, .int bf, .int bn, .ref m10, .int ts, .int ap2_52, .int fs2_53, .int ln, .int fo2_59, .int fa2_60, .ref m11, .ref m12, .ref m13, .ref m14, .int wr])), aJ G m1 560 mw, aZ G m2 2 ik, aI G m3 20 fm3_44, aI G m4 20 fm4_50, aI G m5 20 fm5_56, aI G m6 20 ks, aI G m7 20 wa, aI G m8 20 ne, aI G m9 4 mn, aI G m10 400 tx, aI G m11 6 th, aI G m12 6 od, aI G m13 30 bk, aI G m14 30 bh] H := hP
        have hD : va_D A [(m0, .inr (8, [.ref m1, .ref m2, .ref m3, .ref m4, .ref m5, .ref m6, .ref m7, .ref m8, .ref m9, .int fu, .int fd, .int fi, .int nu, .int nw, .int nf, .int bf, .int bn, .ref m10, .int ts, .int ap2_52, .int fs2_53, .int ln, .int fo2_59, .int fa2_60, .ref m11, .ref m12, .ref m13, .ref m14, .int wr])), aJ G m1 560 mw, aZ G m2 2 ik, aI G m3 20 fm3_44, aI G m4 20 fm4_50, aI G m5 20 fm5_56, aI G m6 20 ks, aI G m7 20 wa, aI G m8 20 ne, aI G m9 4 mn, aI G m10 400 tx, aI G m11 6 th, aI G m12 6 od, aI G m13 30 bk, aI G m14 30 bh] := hD
        have hv := hv r_58 fo2_59 fa2_60 hw
        refine lv_istore_n (lv' := [(3, .int r_58), (2, .int y_38), (0, .ref m0), (1, .int x)]) hx hb dX8_takeStone_106 rfl hl (by decide) rfl (fun ls hl => ?_)
        refine lv_aload_n hx hb dX8_takeStone_107 rfl (lv_at hl 2 rfl) ?_
        refine va_get (D := G.1) (ci := 8) (v := .ref m9) (C := RX8) (T := TX8) (N := 29) hx hb hts hinX8 hown hKK.1 hP 0 rfl rfl 8 (by decide) kl36 (fun _ h9 => h9) rfl dX8_takeStone_108 ?_
        refine lv_iconst (v := 2) hx hb dX8_takeStone_111 (by decide) ?_
        refine lv_dup2_11 hx hb dX8_takeStone_112 rfl rfl ?_
        refine va_iald hx hb hKK.1 hP 9 0 rfl rfl (by unfold vp_in; decide) dX8_takeStone_113 ?_
        refine lv_iconst (v := 1) hx hb dX8_takeStone_114 (by decide) ?_
        refine lv_iadd hx hb dX8_takeStone_115 ?_
        refine va_iast hx hb hKK.1 hP hD hS 9 0 rfl rfl (by unfold vp_in; decide) dX8_takeStone_116 (fun H locs hP hD hS => ?_)
        obtain ⟨fm9_61, ef⟩ : ∃ z9_, z9_ = (upd mn 2 ((mn 2) + 1)) := ⟨_, rfl⟩
        have hP : va_P G.1 vwCl [(m0, .inr (8, [.ref m1, .ref m2, .ref m3, .ref m4, .ref m5, .ref m6, .ref m7, .ref m8, .ref m9, .int fu, .int fd, .int fi, .int nu, .int nw, .int nf, .int bf, .int bn, .ref m10, .int ts, .int ap2_52, .int fs2_53, .int ln, .int fo2_59, .int fa2_60, .ref m11, .ref m12, .ref m13, .ref m14, .int wr])), aJ G m1 560 mw, aZ G m2 2 ik, aI G m3 20 fm3_44, aI G m4 20 fm4_50, aI G m5 20 fm5_56, aI G m6 20 ks, aI G m7 20 wa, aI G m8 20 ne, aI G m9 4 fm9_61, aI G m10 400 tx, aI G m11 6 th, aI G m12 6 od, aI G m13 30 bk, aI G m14 30 bh] H := by rw [ef]; exact hP
        have hD : va_D A [(m0, .inr (8, [.ref m1, .ref m2, .ref m3, .ref m4, .ref m5, .ref m6, .ref m7, .ref m8, .ref m9, .int fu, .int fd, .int fi, .int nu, .int nw, .int nf, .int bf, .int bn, .ref m10, .int ts, .int ap2_52, .int fs2_53, .int ln, .int fo2_59, .int fa2_60, .ref m11, .ref m12, .ref m13, .ref m14, .int wr])), aJ G m1 560 mw, aZ G m2 2 ik, aI G m3 20 fm3_44, aI G m4 20 fm4_50, aI G m5 20 fm5_56, aI G m6 20 ks, aI G m7 20 wa, aI G m8 20 ne, aI G m9 4 fm9_61, aI G m10 400 tx, aI G m11 6 th, aI G m12 6 od, aI G m13 30 bk, aI G m14 30 bh] := by rw [ef]; exact hD
        have hv := hv fm9_61 ef
        exact x_vret (fm3_44, fm4_50, fm5_56, fm9_61, ap2_52, fs2_53, fo2_59, fa2_60) hQ hx hb hr hlocks hS dX8_takeStone_117 hv hP hD
      · have hv := hv.2 hc_57
        refine lv_iconst (v := 1) hx hb dX8_takeStone_93 (by decide) ?_
        refine lv_goto (tgt := 98) hx hb dX8_takeStone_94 (by decide) ?_
        refine lv_iconst (v := 4) hx hb dX8_takeStone_98 (by decide) ?_
        refine lv_aload_n hx hb dX8_takeStone_99 rfl (lv_at hl 1 rfl) ?_
        refine va_get (D := G.1) (ci := 8) (v := .int fs2_53) (C := RX8) (T := TX8) (N := 29) hx hb hts hinX8 hown hKK.1 hP 0 rfl rfl 20 (by decide) kl90 (fun _ h9 => h9) rfl dX8_takeStone_100 ?_
        obtain ⟨hp, hv⟩ := hv
        refine x_calli (wr := []) (w' := fun (u : (Int32) × (Int32)) => [(m0, .inr (8, [.ref m1, .ref m2, .ref m3, .ref m4, .ref m5, .ref m6, .ref m7, .ref m8, .ref m9, .int fu, .int fd, .int fi, .int nu, .int nw, .int nf, .int bf, .int bn, .ref m10, .int ts, .int ap2_52, .int fs2_53, .int ln, .int u.1, .int u.2, .ref m11, .ref m12, .ref m13, .ref m14, .int wr])), aJ G m1 560 mw, aZ G m2 2 ik, aI G m3 20 fm3_44, aI G m4 20 fm4_50, aI G m5 20 fm5_56, aI G m6 20 ks, aI G m7 20 wa, aI G m8 20 ne, aI G m9 4 mn, aI G m10 400 tx, aI G m11 6 th, aI G m12 6 od, aI G m13 30 bk, aI G m14 30 bh]) (x_runV (As := [.int 1, .int 4, .int fs2_53]) (rest := []) (n := 3) (C := RX8) (ci := 8) ⟨hx, hb, hml, hown, hts⟩ (k_X8_want l G m0 m1 m2 m3 m4 m5 m6 m7 m8 m9 m10 m11 m12 m13 m14 _ mw ik fm3_44 fm4_50 fm5_56 ks wa ne mn tx th od bk bh fu fd fi nu nw nf bf bn ts ap2_52 fs2_53 ln fo2_54 fa2_55 wr 1 4 fs2_53 hp) gX8_takeStone_X8_want rfl (by decide +kernel) ⟨Nat.le_trans (Nat.le_of_ble_eq_true rfl) hRf, Nat.le_trans (Nat.le_of_ble_eq_true rfl) hRl⟩ hKK hSS hS hA hP hD [0, 1, 2, 3, 4, 5, 6, 7, 8, 9, 10, 11, 12, 13, 14] (by decide) rfl rfl rfl 0 rfl rfl hl.1 rfl (Nat.le_of_ble_eq_true rfl) dX8_takeStone_103) hP hD hS hA [0, 1, 2, 3, 4, 5, 6, 7, 8, 9, 10, 11, 12, 13, 14] [] [0, 1, 2, 3, 4, 5, 6, 7, 8, 9, 10, 11, 12, 13, 14] rfl rfl (by decide) (by decide) (by decide) (fun _ => rfl) (fun r_62 u H locs hw hP hD hS => ?_)
        obtain ⟨fo2_63, fa2_64⟩ := u
        have hP : va_P G.1 vwCl [(m0, .inr (8, [.ref m1, .ref m2, .ref m3, .ref m4, .ref m5, .ref m6, .ref m7, .ref m8, .ref m9, .int fu, .int fd, .int fi, .int nu, .int nw, .int nf, .int bf, .int bn, .ref m10, .int ts, .int ap2_52, .int fs2_53, .int ln, .int fo2_63, .int fa2_64, .ref m11, .ref m12, .ref m13, .ref m14, .int wr])), aJ G m1 560 mw, aZ G m2 2 ik, aI G m3 20 fm3_44, aI G m4 20 fm4_50, aI G m5 20 fm5_56, aI G m6 20 ks, aI G m7 20 wa, aI G m8 20 ne, aI G m9 4 mn, aI G m10 400 tx, aI G m11 6 th, aI G m12 6 od, aI G m13 30 bk, aI G m14 30 bh] H := hP
        have hD : va_D A [(m0, .inr (8, [.ref m1, .ref m2, .ref m3, .ref m4, .ref m5, .ref m6, .ref m7, .ref m8, .ref m9, .int fu, .int fd, .int fi, .int nu, .int nw, .int nf, .int bf, .int bn, .ref m10, .int ts, .int ap2_52, .int fs2_53, .int ln, .int fo2_63, .int fa2_64, .ref m11, .ref m12, .ref m13, .ref m14, .int wr])), aJ G m1 560 mw, aZ G m2 2 ik, aI G m3 20 fm3_44, aI G m4 20 fm4_50, aI G m5 20 fm5_56, aI G m6 20 ks, aI G m7 20 wa, aI G m8 20 ne, aI G m9 4 mn, aI G m10 400 tx, aI G m11 6 th, aI G m12 6 od, aI G m13 30 bk, aI G m14 30 bh] := hD
        have hv := hv r_62 fo2_63 fa2_64 hw
        refine lv_istore_n (lv' := [(3, .int r_62), (2, .int y_38), (0, .ref m0), (1, .int x)]) hx hb dX8_takeStone_106 rfl hl (by decide) rfl (fun ls hl => ?_)
        refine lv_aload_n hx hb dX8_takeStone_107 rfl (lv_at hl 2 rfl) ?_
        refine va_get (D := G.1) (ci := 8) (v := .ref m9) (C := RX8) (T := TX8) (N := 29) hx hb hts hinX8 hown hKK.1 hP 0 rfl rfl 8 (by decide) kl36 (fun _ h9 => h9) rfl dX8_takeStone_108 ?_
        refine lv_iconst (v := 2) hx hb dX8_takeStone_111 (by decide) ?_
        refine lv_dup2_11 hx hb dX8_takeStone_112 rfl rfl ?_
        refine va_iald hx hb hKK.1 hP 9 0 rfl rfl (by unfold vp_in; decide) dX8_takeStone_113 ?_
        refine lv_iconst (v := 1) hx hb dX8_takeStone_114 (by decide) ?_
        refine lv_iadd hx hb dX8_takeStone_115 ?_
        refine va_iast hx hb hKK.1 hP hD hS 9 0 rfl rfl (by unfold vp_in; decide) dX8_takeStone_116 (fun H locs hP hD hS => ?_)
        obtain ⟨fm9_65, ef⟩ : ∃ z9_, z9_ = (upd mn 2 ((mn 2) + 1)) := ⟨_, rfl⟩
        have hP : va_P G.1 vwCl [(m0, .inr (8, [.ref m1, .ref m2, .ref m3, .ref m4, .ref m5, .ref m6, .ref m7, .ref m8, .ref m9, .int fu, .int fd, .int fi, .int nu, .int nw, .int nf, .int bf, .int bn, .ref m10, .int ts, .int ap2_52, .int fs2_53, .int ln, .int fo2_63, .int fa2_64, .ref m11, .ref m12, .ref m13, .ref m14, .int wr])), aJ G m1 560 mw, aZ G m2 2 ik, aI G m3 20 fm3_44, aI G m4 20 fm4_50, aI G m5 20 fm5_56, aI G m6 20 ks, aI G m7 20 wa, aI G m8 20 ne, aI G m9 4 fm9_65, aI G m10 400 tx, aI G m11 6 th, aI G m12 6 od, aI G m13 30 bk, aI G m14 30 bh] H := by rw [ef]; exact hP
        have hD : va_D A [(m0, .inr (8, [.ref m1, .ref m2, .ref m3, .ref m4, .ref m5, .ref m6, .ref m7, .ref m8, .ref m9, .int fu, .int fd, .int fi, .int nu, .int nw, .int nf, .int bf, .int bn, .ref m10, .int ts, .int ap2_52, .int fs2_53, .int ln, .int fo2_63, .int fa2_64, .ref m11, .ref m12, .ref m13, .ref m14, .int wr])), aJ G m1 560 mw, aZ G m2 2 ik, aI G m3 20 fm3_44, aI G m4 20 fm4_50, aI G m5 20 fm5_56, aI G m6 20 ks, aI G m7 20 wa, aI G m8 20 ne, aI G m9 4 fm9_65, aI G m10 400 tx, aI G m11 6 th, aI G m12 6 od, aI G m13 30 bk, aI G m14 30 bh] := by rw [ef]; exact hD
        have hv := hv fm9_65 ef
        exact x_vret (fm3_44, fm4_50, fm5_56, fm9_65, ap2_52, fs2_53, fo2_63, fa2_64) hQ hx hb hr hlocks hS dX8_takeStone_117 hv hP hD
theorem k_X8_takeStone (l : Launch) (G : Gt) (m0 m1 m2 m3 m4 m5 m6 m7 m8 m9 m10 m11 m12 m13 m14 : Nat) (sz : Nat) (mw : Nat → Int64) (ik : Nat → Int32) (zs : Nat → Int32) (cl : Nat → Int32) (hs : Nat → Int32) (ks : Nat → Int32) (wa : Nat → Int32) (ne : Nat → Int32) (mn : Nat → Int32) (tx : Nat → Int32) (th : Nat → Int32) (od : Nat → Int32) (bk : Nat → Int32) (bh : Nat → Int32) (fu : Int32) (fd : Int32) (fi : Int32) (nu : Int32) (nw : Int32) (nf : Int32) (bf : Int32) (bn : Int32) (ts : Int32) (ap : Int32) (fs : Int32) (ln : Int32) (fo : Int32) (fa : Int32) (wr : Int32) (x : Int32) (hp : True) : MetV l yX8_takeStone wsX8_takeStone 2 50 G [.ref m0, .int x] [(m0, .inr (8, [.ref m1, .ref m2, .ref m3, .ref m4, .ref m5, .ref m6, .ref m7, .ref m8, .ref m9, .int fu, .int fd, .int fi, .int nu, .int nw, .int nf, .int bf, .int bn, .ref m10, .int ts, .int ap, .int fs, .int ln, .int fo, .int fa, .ref m11, .ref m12, .ref m13, .ref m14, .int wr])), aJ G m1 560 mw, aZ G m2 2 ik, aI G m3 20 zs, aI G m4 20 cl, aI G m5 20 hs, aI G m6 20 ks, aI G m7 20 wa, aI G m8 20 ne, aI G m9 4 mn, aI G m10 400 tx, aI G m11 6 th, aI G m12 6 od, aI G m13 30 bk, aI G m14 30 bh] sz (fun (u : (Nat → Int32) × (Nat → Int32) × (Nat → Int32) × (Nat → Int32) × (Int32) × (Int32) × (Int32) × (Int32)) => True) (fun (u : (Nat → Int32) × (Nat → Int32) × (Nat → Int32) × (Nat → Int32) × (Int32) × (Int32) × (Int32) × (Int32)) => [(m0, .inr (8, [.ref m1, .ref m2, .ref m3, .ref m4, .ref m5, .ref m6, .ref m7, .ref m8, .ref m9, .int fu, .int fd, .int fi, .int nu, .int nw, .int nf, .int bf, .int bn, .ref m10, .int ts, .int u.2.2.2.2.1, .int u.2.2.2.2.2.1, .int ln, .int u.2.2.2.2.2.2.1, .int u.2.2.2.2.2.2.2, .ref m11, .ref m12, .ref m13, .ref m14, .int wr])), aJ G m1 560 mw, aZ G m2 2 ik, aI G m3 20 u.1, aI G m4 20 u.2.1, aI G m5 20 u.2.2.1, aI G m6 20 ks, aI G m7 20 wa, aI G m8 20 ne, aI G m9 4 u.2.2.2.1, aI G m10 400 tx, aI G m11 6 th, aI G m12 6 od, aI G m13 30 bk, aI G m14 30 bh]) :=
  c_X8_takeStone l G m0 m1 m2 m3 m4 m5 m6 m7 m8 m9 m10 m11 m12 m13 m14 sz mw ik zs cl hs ks wa ne mn tx th od bk bh fu fd fi nu nw nf bf bn ts ap fs ln fo fa wr x (by
    sorry)

set_option maxHeartbeats 4000000 in
set_option maxRecDepth 100000 in
theorem c_X8_takePerson (l : Launch) (G : Gt) (m0 m1 m2 m3 m4 m5 m6 m7 m8 m9 m10 m11 m12 m13 m14 : Nat) (sz : Nat) (mw : Nat → Int64) (ik : Nat → Int32) (zs : Nat → Int32) (cl : Nat → Int32) (hs : Nat → Int32) (ks : Nat → Int32) (wa : Nat → Int32) (ne : Nat → Int32) (mn : Nat → Int32) (tx : Nat → Int32) (th : Nat → Int32) (od : Nat → Int32) (bk : Nat → Int32) (bh : Nat → Int32) (fu : Int32) (fd : Int32) (fi : Int32) (nu : Int32) (nw : Int32) (nf : Int32) (bf : Int32) (bn : Int32) (ts : Int32) (ap : Int32) (fs : Int32) (ln : Int32) (fo : Int32) (fa : Int32) (wr : Int32) (x : Int32) (hv : (8 ≤ (mn 3) → (True) ∧ (∀ (r_2 : Int32) (fo2_3 : Int32) (fa2_4 : Int32), (True) → ((r_2 = 0 → True) ∧ (¬ (r_2 = 0) → ∀ (y_6 : Int32), (y_6 = (10 + (mn 3))) → ((True) ∧ (∀ (ap2_8 : Int32) (fs2_9 : Int32) (ln2_10 : Int32), (True) → (∃ (J160_12 : Int32 → Prop), ((True) ∧ (∀ (r_14 : Int32), (True) → ((r_14 = 0 → (True) ∧ (∀ (r_16 : Int32), (True) → ((r_16 = 0 → (True) ∧ (∀ (r_18 : Int32), (True) → ((r_18 = 0 → (True) ∧ (∀ (r_20 : Int32), (True) → ((r_20 = 0 → (True) ∧ (∀ (r_22 : Int32), (True) → ((r_22 = 0 → J160_12 (-1)) ∧ (¬ (r_22 = 0) → J160_12 4)))) ∧ (¬ (r_20 = 0) → J160_12 3)))) ∧ (¬ (r_18 = 0) → J160_12 2)))) ∧ (¬ (r_16 = 0) → J160_12 1)))) ∧ (¬ (r_14 = 0) → J160_12 0)))) ∧ (∀ (t0_11 : Int32), J160_12 t0_11 → (vp_in y_6 20) ∧ (∀ (fm6_24 : (Nat → Int32)), (fm6_24 = (upd ks y_6.toNatClampNeg t0_11)) → (∃ (J176_26 : Int32 → Prop), ((vp_in y_6 20) ∧ (((fm6_24 y_6.toNatClampNeg) < 0 → J176_26 0) ∧ (¬ ((fm6_24 y_6.toNatClampNeg) < 0) → J176_26 1))) ∧ (∀ (t0_25 : Int32), J176_26 t0_25 → (True) ∧ (∀ (r_29 : Int32) (fo2_30 : Int32) (fa2_31 : Int32), (True) → ((r_29 = 0 → True) ∧ (¬ (r_29 = 0) → (True) ∧ (∀ (r_33 : Int32) (ap2_34 : Int32) (fs2_35 : Int32) (fo2_36 : Int32) (fa2_37 : Int32), (True) → ((vp_in y_6 20) ∧ (∀ (fm7_38 : (Nat → Int32)), (fm7_38 = (upd wa y_6.toNatClampNeg r_33)) → ((True) ∧ (∀ (r_39 : Int32) (ap2_40 : Int32) (fs2_41 : Int32) (fo2_42 : Int32) (fa2_43 : Int32), (True) → ((vp_in y_6 20) ∧ (∀ (fm8_44 : (Nat → Int32)), (fm8_44 = (upd ne y_6.toNatClampNeg r_39)) → (∀ (fm9_45 : (Nat → Int32)), (fm9_45 = (upd mn 3 ((mn 3) + 1))) → (True))))))))))))))))))))))) ∧ (¬ (8 ≤ (mn 3)) → (True) ∧ (∀ (r_48 : Int32) (fo2_49 : Int32) (fa2_50 : Int32), (True) → ((r_48 = 0 → True) ∧ (¬ (r_48 = 0) → ∀ (y_52 : Int32), (y_52 = (10 + (mn 3))) → ((True) ∧ (∀ (ap2_54 : Int32) (fs2_55 : Int32) (ln2_56 : Int32), (True) → (∃ (J160_58 : Int32 → Prop), ((True) ∧ (∀ (r_60 : Int32), (True) → ((r_60 = 0 → (True) ∧ (∀ (r_62 : Int32), (True) → ((r_62 = 0 → (True) ∧ (∀ (r_64 : Int32), (True) → ((r_64 = 0 → (True) ∧ (∀ (r_66 : Int32), (True) → ((r_66 = 0 → (True) ∧ (∀ (r_68 : Int32), (True) → ((r_68 = 0 → J160_58 (-1)) ∧ (¬ (r_68 = 0) → J160_58 4)))) ∧ (¬ (r_66 = 0) → J160_58 3)))) ∧ (¬ (r_64 = 0) → J160_58 2)))) ∧ (¬ (r_62 = 0) → J160_58 1)))) ∧ (¬ (r_60 = 0) → J160_58 0)))) ∧ (∀ (t0_57 : Int32), J160_58 t0_57 → (vp_in y_52 20) ∧ (∀ (fm6_70 : (Nat → Int32)), (fm6_70 = (upd ks y_52.toNatClampNeg t0_57)) → (∃ (J176_72 : Int32 → Prop), ((vp_in y_52 20) ∧ (((fm6_70 y_52.toNatClampNeg) < 0 → J176_72 0) ∧ (¬ ((fm6_70 y_52.toNatClampNeg) < 0) → J176_72 1))) ∧ (∀ (t0_71 : Int32), J176_72 t0_71 → (True) ∧ (∀ (r_75 : Int32) (fo2_76 : Int32) (fa2_77 : Int32), (True) → ((r_75 = 0 → True) ∧ (¬ (r_75 = 0) → (True) ∧ (∀ (r_79 : Int32) (ap2_80 : Int32) (fs2_81 : Int32) (fo2_82 : Int32) (fa2_83 : Int32), (True) → ((vp_in y_52 20) ∧ (∀ (fm7_84 : (Nat → Int32)), (fm7_84 = (upd wa y_52.toNatClampNeg r_79)) → ((True) ∧ (∀ (r_85 : Int32) (ap2_86 : Int32) (fs2_87 : Int32) (fo2_88 : Int32) (fa2_89 : Int32), (True) → ((vp_in y_52 20) ∧ (∀ (fm8_90 : (Nat → Int32)), (fm8_90 = (upd ne y_52.toNatClampNeg r_85)) → (∀ (fm9_91 : (Nat → Int32)), (fm9_91 = (upd mn 3 ((mn 3) + 1))) → (True)))))))))))))))))))))))) : MetV l yX8_takePerson wsX8_takePerson 2 50 G [.ref m0, .int x] [(m0, .inr (8, [.ref m1, .ref m2, .ref m3, .ref m4, .ref m5, .ref m6, .ref m7, .ref m8, .ref m9, .int fu, .int fd, .int fi, .int nu, .int nw, .int nf, .int bf, .int bn, .ref m10, .int ts, .int ap, .int fs, .int ln, .int fo, .int fa, .ref m11, .ref m12, .ref m13, .ref m14, .int wr])), aJ G m1 560 mw, aZ G m2 2 ik, aI G m3 20 zs, aI G m4 20 cl, aI G m5 20 hs, aI G m6 20 ks, aI G m7 20 wa, aI G m8 20 ne, aI G m9 4 mn, aI G m10 400 tx, aI G m11 6 th, aI G m12 6 od, aI G m13 30 bk, aI G m14 30 bh] sz (fun (u : (Nat → Int32) × (Nat → Int32) × (Nat → Int32) × (Nat → Int32) × (Int32) × (Int32) × (Int32) × (Int32) × (Int32)) => True) (fun (u : (Nat → Int32) × (Nat → Int32) × (Nat → Int32) × (Nat → Int32) × (Int32) × (Int32) × (Int32) × (Int32) × (Int32)) => [(m0, .inr (8, [.ref m1, .ref m2, .ref m3, .ref m4, .ref m5, .ref m6, .ref m7, .ref m8, .ref m9, .int fu, .int fd, .int fi, .int nu, .int nw, .int nf, .int bf, .int bn, .ref m10, .int ts, .int u.2.2.2.2.1, .int u.2.2.2.2.2.1, .int u.2.2.2.2.2.2.1, .int u.2.2.2.2.2.2.2.1, .int u.2.2.2.2.2.2.2.2, .ref m11, .ref m12, .ref m13, .ref m14, .int wr])), aJ G m1 560 mw, aZ G m2 2 ik, aI G m3 20 zs, aI G m4 20 cl, aI G m5 20 hs, aI G m6 20 u.1, aI G m7 20 u.2.1, aI G m8 20 u.2.2.1, aI G m9 4 u.2.2.2.1, aI G m10 400 tx, aI G m11 6 th, aI G m12 6 od, aI G m13 30 bk, aI G m14 30 bh]) := by
  refine x_startV (cc := cX8_takePerson) (maxL := 3) (ret := none) (by decide) rfl (Nat.le_of_ble_eq_true rfl) ?_
  intro p e s m args below meth c A R Q ls hRf hRl hQ C hP hD hS hA hSS hl
  obtain ⟨hx, hb, hr, hml, hown, hts, hlocks, hKK⟩ := C
  have hown : s.vm.findClass RX8 = some m.cls := hown
  have hl : lv_has ls 3 [(0, .ref m0), (1, .int x)] := hl
  have hinX8 : ∀ w ∈ u_ws RX8 TX8 29, w ∈ wsX8_takePerson := by decide +kernel
  have kl27 := hts (.fieldLink RX8 27 "WarmStonesModel" "kinds" "[I") (by decide +kernel)
  have kl30 := hts (.fieldLink RX8 30 "WarmStonesModel" "warmths" "[I") (by decide +kernel)
  have kl33 := hts (.fieldLink RX8 33 "WarmStonesModel" "needs" "[I") (by decide +kernel)
  have kl36 := hts (.fieldLink RX8 36 "WarmStonesModel" "many" "[I") (by decide +kernel)
  have kl90 := hts (.fieldLink RX8 90 "WarmStonesModel" "first" "I") (by decide +kernel)
  refine lv_aload_n hx hb dX8_takePerson_0 rfl (lv_at hl 0 rfl) ?_
  refine lv_aload_n hx hb dX8_takePerson_1 rfl (lv_at hl 0 rfl) ?_
  refine va_get (D := G.1) (ci := 8) (v := .ref m9) (C := RX8) (T := TX8) (N := 29) hx hb hts hinX8 hown hKK.1 hP 0 rfl rfl 8 (by decide) kl36 (fun _ h9 => h9) rfl dX8_takePerson_2 ?_
  refine lv_iconst (v := 3) hx hb dX8_takePerson_5 (by decide) ?_
  refine va_iald hx hb hKK.1 hP 9 0 rfl rfl (by unfold vp_in; decide) dX8_takePerson_6 ?_
  refine lv_bipush (v := 8) hx hb dX8_takePerson_7 (by decide) ?_
  refine lv_icmp_ge (tgt := 16) hx hb dX8_takePerson_9 (by decide) (fun hc_1 => ?_) (fun hc_1 => ?_)
  · have hv := hv.1 hc_1
    refine lv_iconst (v := 0) hx hb dX8_takePerson_16 (by decide) ?_
    refine lv_iconst (v := 3) hx hb dX8_takePerson_17 (by decide) ?_
    refine lv_iload_n hx hb dX8_takePerson_18 rfl (lv_at hl 1 rfl) ?_
    obtain ⟨hp, hv⟩ := hv
    refine x_calli (wr := []) (w' := fun (u : (Int32) × (Int32)) => [(m0, .inr (8, [.ref m1, .ref m2, .ref m3, .ref m4, .ref m5, .ref m6, .ref m7, .ref m8, .ref m9, .int fu, .int fd, .int fi, .int nu, .int nw, .int nf, .int bf, .int bn, .ref m10, .int ts, .int ap, .int fs, .int ln, .int u.1, .int u.2, .ref m11, .ref m12, .ref m13, .ref m14, .int wr])), aJ G m1 560 mw, aZ G m2 2 ik, aI G m3 20 zs, aI G m4 20 cl, aI G m5 20 hs, aI G m6 20 ks, aI G m7 20 wa, aI G m8 20 ne, aI G m9 4 mn, aI G m10 400 tx, aI G m11 6 th, aI G m12 6 od, aI G m13 30 bk, aI G m14 30 bh]) (x_runV (As := [.int 0, .int 3, .int x]) (rest := []) (n := 3) (C := RX8) (ci := 8) ⟨hx, hb, hml, hown, hts⟩ (k_X8_want l G m0 m1 m2 m3 m4 m5 m6 m7 m8 m9 m10 m11 m12 m13 m14 _ mw ik zs cl hs ks wa ne mn tx th od bk bh fu fd fi nu nw nf bf bn ts ap fs ln fo fa wr 0 3 x hp) gX8_takePerson_X8_want rfl (by decide +kernel) ⟨Nat.le_trans (Nat.le_of_ble_eq_true rfl) hRf, Nat.le_trans (Nat.le_of_ble_eq_true rfl) hRl⟩ hKK hSS hS hA hP hD [0, 1, 2, 3, 4, 5, 6, 7, 8, 9, 10, 11, 12, 13, 14] (by decide) rfl rfl rfl 0 rfl rfl hl.1 rfl (Nat.le_of_ble_eq_true rfl) dX8_takePerson_19) hP hD hS hA [0, 1, 2, 3, 4, 5, 6, 7, 8, 9, 10, 11, 12, 13, 14] [] [0, 1, 2, 3, 4, 5, 6, 7, 8, 9, 10, 11, 12, 13, 14] rfl rfl (by decide) (by decide) (by decide) (fun _ => rfl) (fun r_2 u H locs hw hP hD hS => ?_)
    obtain ⟨fo2_3, fa2_4⟩ := u
    have hP : va_P G.1 vwCl [(m0, .inr (8, [.ref m1, .ref m2, .ref m3, .ref m4, .ref m5, .ref m6, .ref m7, .ref m8, .ref m9, .int fu, .int fd, .int fi, .int nu, .int nw, .int nf, .int bf, .int bn, .ref m10, .int ts, .int ap, .int fs, .int ln, .int fo2_3, .int fa2_4, .ref m11, .ref m12, .ref m13, .ref m14, .int wr])), aJ G m1 560 mw, aZ G m2 2 ik, aI G m3 20 zs, aI G m4 20 cl, aI G m5 20 hs, aI G m6 20 ks, aI G m7 20 wa, aI G m8 20 ne, aI G m9 4 mn, aI G m10 400 tx, aI G m11 6 th, aI G m12 6 od, aI G m13 30 bk, aI G m14 30 bh] H := hP
    have hD : va_D A [(m0, .inr (8, [.ref m1, .ref m2, .ref m3, .ref m4, .ref m5, .ref m6, .ref m7, .ref m8, .ref m9, .int fu, .int fd, .int fi, .int nu, .int nw, .int nf, .int bf, .int bn, .ref m10, .int ts, .int ap, .int fs, .int ln, .int fo2_3, .int fa2_4, .ref m11, .ref m12, .ref m13, .ref m14, .int wr])), aJ G m1 560 mw, aZ G m2 2 ik, aI G m3 20 zs, aI G m4 20 cl, aI G m5 20 hs, aI G m6 20 ks, aI G m7 20 wa, aI G m8 20 ne, aI G m9 4 mn, aI G m10 400 tx, aI G m11 6 th, aI G m12 6 od, aI G m13 30 bk, aI G m14 30 bh] := hD
    have hv := hv r_2 fo2_3 fa2_4 hw
    refine lv_if_eq (tgt := 225) hx hb dX8_takePerson_22 (by decide) (fun hc_5 => ?_) (fun hc_5 => ?_)
    · have hv := hv.1 hc_5
      exact x_vret (ks, wa, ne, mn, ap, fs, ln, fo2_3, fa2_4) hQ hx hb hr hlocks hS dX8_takePerson_225 hv hP hD
    · have hv := hv.2 hc_5
      refine lv_bipush (v := 10) hx hb dX8_takePerson_25 (by decide) ?_
      refine lv_aload_n hx hb dX8_takePerson_27 rfl (lv_at hl 0 rfl) ?_
      refine va_get (D := G.1) (ci := 8) (v := .ref m9) (C := RX8) (T := TX8) (N := 29) hx hb hts hinX8 hown hKK.1 hP 0 rfl rfl 8 (by decide) kl36 (fun _ h9 => h9) rfl dX8_takePerson_28 ?_
      refine lv_iconst (v := 3) hx hb dX8_takePerson_31 (by decide) ?_
      refine va_iald hx hb hKK.1 hP 9 0 rfl rfl (by unfold vp_in; decide) dX8_takePerson_32 ?_
      refine lv_iadd hx hb dX8_takePerson_33 ?_
      refine lv_topi (fun y_6 ey => ?_)
      have hv := hv y_6 ey
      refine lv_istore_n (lv' := [(2, .int y_6), (0, .ref m0), (1, .int x)]) hx hb dX8_takePerson_34 rfl hl (by decide) rfl (fun ls hl => ?_)
      refine lv_aload_n hx hb dX8_takePerson_35 rfl (lv_at hl 1 rfl) ?_
      obtain ⟨hp, hv⟩ := hv
      refine x_callv (wr := []) (w' := fun (u : (Int32) × (Int32) × (Int32)) => [(m0, .inr (8, [.ref m1, .ref m2, .ref m3, .ref m4, .ref m5, .ref m6, .ref m7, .ref m8, .ref m9, .int fu, .int fd, .int fi, .int nu, .int nw, .int nf, .int bf, .int bn, .ref m10, .int ts, .int u.1, .int u.2.1, .int u.2.2, .int fo2_3, .int fa2_4, .ref m11, .ref m12, .ref m13, .ref m14, .int wr])), aJ G m1 560 mw, aZ G m2 2 ik, aI G m3 20 zs, aI G m4 20 cl, aI G m5 20 hs, aI G m6 20 ks, aI G m7 20 wa, aI G m8 20 ne, aI G m9 4 mn, aI G m10 400 tx, aI G m11 6 th, aI G m12 6 od, aI G m13 30 bk, aI G m14 30 bh]) (x_runV (As := []) (rest := []) (n := 0) (C := RX8) (ci := 8) ⟨hx, hb, hml, hown, hts⟩ (k_X8_takeWord l G m0 m1 m2 m3 m4 m5 m6 m7 m8 m9 m10 m11 m12 m13 m14 _ mw ik zs cl hs ks wa ne mn tx th od bk bh fu fd fi nu nw nf bf bn ts ap fs ln fo2_3 fa2_4 wr hp) gX8_takePerson_X8_takeWord rfl (by decide +kernel) ⟨Nat.le_trans (Nat.le_of_ble_eq_true rfl) hRf, Nat.le_trans (Nat.le_of_ble_eq_true rfl) hRl⟩ hKK hSS hS hA hP hD [0, 1, 2, 3, 4, 5, 6, 7, 8, 9, 10, 11, 12, 13, 14] (by decide) rfl rfl rfl 0 rfl rfl hl.1 rfl (Nat.le_of_ble_eq_true rfl) dX8_takePerson_36) hP hD hS hA [0, 1, 2, 3, 4, 5, 6, 7, 8, 9, 10, 11, 12, 13, 14] [] [0, 1, 2, 3, 4, 5, 6, 7, 8, 9, 10, 11, 12, 13, 14] rfl rfl (by decide) (by decide) (by decide) (fun _ => rfl) (fun  u H locs hw hP hD hS => ?_)
      obtain ⟨ap2_8, fs2_9, ln2_10⟩ := u
      have hP : va_P G.1 vwCl [(m0, .inr (8, [.ref m1, .ref m2, .ref m3, .ref m4, .ref m5, .ref m6, .ref m7, .ref m8, .ref m9, .int fu, .int fd, .int fi, .int nu, .int nw, .int nf, .int bf, .int bn, .ref m10, .int ts, .int ap2_8, .int fs2_9, .int ln2_10, .int fo2_3, .int fa2_4, .ref m11, .ref m12, .ref m13, .ref m14, .int wr])), aJ G m1 560 mw, aZ G m2 2 ik, aI G m3 20 zs, aI G m4 20 cl, aI G m5 20 hs, aI G m6 20 ks, aI G m7 20 wa, aI G m8 20 ne, aI G m9 4 mn, aI G m10 400 tx, aI G m11 6 th, aI G m12 6 od, aI G m13 30 bk, aI G m14 30 bh] H := hP
      have hD : va_D A [(m0, .inr (8, [.ref m1, .ref m2, .ref m3, .ref m4, .ref m5, .ref m6, .ref m7, .ref m8, .ref m9, .int fu, .int fd, .int fi, .int nu, .int nw, .int nf, .int bf, .int bn, .ref m10, .int ts, .int ap2_8, .int fs2_9, .int ln2_10, .int fo2_3, .int fa2_4, .ref m11, .ref m12, .ref m13, .ref m14, .int wr])), aJ G m1 560 mw, aZ G m2 2 ik, aI G m3 20 zs, aI G m4 20 cl, aI G m5 20 hs, aI G m6 20 ks, aI G m7 20 wa, aI G m8 20 ne, aI G m9 4 mn, aI G m10 400 tx, aI G m11 6 th, aI G m12 6 od, aI G m13 30 bk, aI G m14 30 bh] := hD
      have hv := hv ap2_8 fs2_9 ln2_10 hw
      refine lv_aload_n hx hb dX8_takePerson_39 rfl (lv_at hl 1 rfl) ?_
      refine va_get (D := G.1) (ci := 8) (v := .ref m6) (C := RX8) (T := TX8) (N := 29) hx hb hts hinX8 hown hKK.1 hP 0 rfl rfl 5 (by decide) kl27 (fun _ h9 => h9) rfl dX8_takePerson_40 ?_
      refine lv_iload_n hx hb dX8_takePerson_43 rfl (lv_at hl 0 rfl) ?_
      obtain ⟨J160_12, hv, hj_47⟩ := hv
      have K_13 : ∀ (t0_11 : Int32) (H : Heap) (locs : List Loc) (ls : Array Slot), J160_12 t0_11 → va_P G.1 vwCl [(m0, .inr (8, [.ref m1, .ref m2, .ref m3, .ref m4, .ref m5, .ref m6, .ref m7, .ref m8, .ref m9, .int fu, .int fd, .int fi, .int nu, .int nw, .int nf, .int bf, .int bn, .ref m10, .int ts, .int ap2_8, .int fs2_9, .int ln2_10, .int fo2_3, .int fa2_4, .ref m11, .ref m12, .ref m13, .ref m14, .int wr])), aJ G m1 560 mw, aZ G m2 2 ik, aI G m3 20 zs, aI G m4 20 cl, aI G m5 20 hs, aI G m6 20 ks, aI G m7 20 wa, aI G m8 20 ne, aI G m9 4 mn, aI G m10 400 tx, aI G m11 6 th, aI G m12 6 od, aI G m13 30 bk, aI G m14 30 bh] H → va_D A [(m0, .inr (8, [.ref m1, .ref m2, .ref m3, .ref m4, .ref m5, .ref m6, .ref m7, .ref m8, .ref m9, .int fu, .int fd, .int fi, .int nu, .int nw, .int nf, .int bf, .int bn, .ref m10, .int ts, .int ap2_8, .int fs2_9, .int ln2_10, .int fo2_3, .int fa2_4, .ref m11, .ref m12, .ref m13, .ref m14, .int wr])), aJ G m1 560 mw, aZ G m2 2 ik, aI G m3 20 zs, aI G m4 20 cl, aI G m5 20 hs, aI G m6 20 ks, aI G m7 20 wa, aI G m8 20 ne, aI G m9 4 mn, aI G m10 400 tx, aI G m11 6 th, aI G m12 6 od, aI G m13 30 bk, aI G m14 30 bh] → va_S A s.heap H locs → lv_has ls 3 [(2, .int y_6), (0, .ref m0), (1, .int x)] → W p l e R s m args below meth c H locs 0 0 Q (F0 m 160 ls [.int t0_11, .int y_6, .ref m6]) := by
        intro t0_11 H locs ls hi hP hD hS hl
        have hv := hj_47 t0_11 hi
        obtain ⟨hin, hv⟩ := hv
        refine va_iast hx hb hKK.1 hP hD hS 6 0 rfl rfl hin dX8_takePerson_160 (fun H locs hP hD hS => ?_)
        obtain ⟨fm6_24, ef⟩ : ∃ z9_, z9_ = (upd ks y_6.toNatClampNeg t0_11) := ⟨_, rfl⟩
        have hP : va_P G.1 vwCl [(m0, .inr (8, [.ref m1, .ref m2, .ref m3, .ref m4, .ref m5, .ref m6, .ref m7, .ref m8, .ref m9, .int fu, .int fd, .int fi, .int nu, .int nw, .int nf, .int bf, .int bn, .ref m10, .int ts, .int ap2_8, .int fs2_9, .int ln2_10, .int fo2_3, .int fa2_4, .ref m11, .ref m12, .ref m13, .ref m14, .int wr])), aJ G m1 560 mw, aZ G m2 2 ik, aI G m3 20 zs, aI G m4 20 cl, aI G m5 20 hs, aI G m6 20 fm6_24, aI G m7 20 wa, aI G m8 20 ne, aI G m9 4 mn, aI G m10 400 tx, aI G m11 6 th, aI G m12 6 od, aI G m13 30 bk, aI G m14 30 bh] H := by rw [ef]; exact hP
        have hD : va_D A [(m0, .inr (8, [.ref m1, .ref m2, .ref m3, .ref m4, .ref m5, .ref m6, .ref m7, .ref m8, .ref m9, .int fu, .int fd, .int fi, .int nu, .int nw, .int nf, .int bf, .int bn, .ref m10, .int ts, .int ap2_8, .int fs2_9, .int ln2_10, .int fo2_3, .int fa2_4, .ref m11, .ref m12, .ref m13, .ref m14, .int wr])), aJ G m1 560 mw, aZ G m2 2 ik, aI G m3 20 zs, aI G m4 20 cl, aI G m5 20 hs, aI G m6 20 fm6_24, aI G m7 20 wa, aI G m8 20 ne, aI G m9 4 mn, aI G m10 400 tx, aI G m11 6 th, aI G m12 6 od, aI G m13 30 bk, aI G m14 30 bh] := by rw [ef]; exact hD
        have hv := hv fm6_24 ef
        obtain ⟨J176_26, hv, hj_46⟩ := hv
        have K_27 : ∀ (t0_25 : Int32) (H : Heap) (locs : List Loc) (ls : Array Slot), J176_26 t0_25 → va_P G.1 vwCl [(m0, .inr (8, [.ref m1, .ref m2, .ref m3, .ref m4, .ref m5, .ref m6, .ref m7, .ref m8, .ref m9, .int fu, .int fd, .int fi, .int nu, .int nw, .int nf, .int bf, .int bn, .ref m10, .int ts, .int ap2_8, .int fs2_9, .int ln2_10, .int fo2_3, .int fa2_4, .ref m11, .ref m12, .ref m13, .ref m14, .int wr])), aJ G m1 560 mw, aZ G m2 2 ik, aI G m3 20 zs, aI G m4 20 cl, aI G m5 20 hs, aI G m6 20 fm6_24, aI G m7 20 wa, aI G m8 20 ne, aI G m9 4 mn, aI G m10 400 tx, aI G m11 6 th, aI G m12 6 od, aI G m13 30 bk, aI G m14 30 bh] H → va_D A [(m0, .inr (8, [.ref m1, .ref m2, .ref m3, .ref m4, .ref m5, .ref m6, .ref m7, .ref m8, .ref m9, .int fu, .int fd, .int fi, .int nu, .int nw, .int nf, .int bf, .int bn, .ref m10, .int ts, .int ap2_8, .int fs2_9, .int ln2_10, .int fo2_3, .int fa2_4, .ref m11, .ref m12, .ref m13, .ref m14, .int wr])), aJ G m1 560 mw, aZ G m2 2 ik, aI G m3 20 zs, aI G m4 20 cl, aI G m5 20 hs, aI G m6 20 fm6_24, aI G m7 20 wa, aI G m8 20 ne, aI G m9 4 mn, aI G m10 400 tx, aI G m11 6 th, aI G m12 6 od, aI G m13 30 bk, aI G m14 30 bh] → va_S A s.heap H locs → lv_has ls 3 [(2, .int y_6), (0, .ref m0), (1, .int x)] → W p l e R s m args below meth c H locs 0 0 Q (F0 m 176 ls [.int t0_25, .ref m0]) := by
          intro t0_25 H locs ls hi hP hD hS hl
          have hv := hj_46 t0_25 hi
          refine lv_iconst (v := 1) hx hb dX8_takePerson_176 (by decide) ?_
          refine lv_aload_n hx hb dX8_takePerson_177 rfl (lv_at hl 1 rfl) ?_
          refine va_get (D := G.1) (ci := 8) (v := .int fs2_9) (C := RX8) (T := TX8) (N := 29) hx hb hts hinX8 hown hKK.1 hP 0 rfl rfl 20 (by decide) kl90 (fun _ h9 => h9) rfl dX8_takePerson_178 ?_
          obtain ⟨hp, hv⟩ := hv
          refine x_calli (wr := []) (w' := fun (u : (Int32) × (Int32)) => [(m0, .inr (8, [.ref m1, .ref m2, .ref m3, .ref m4, .ref m5, .ref m6, .ref m7, .ref m8, .ref m9, .int fu, .int fd, .int fi, .int nu, .int nw, .int nf, .int bf, .int bn, .ref m10, .int ts, .int ap2_8, .int fs2_9, .int ln2_10, .int u.1, .int u.2, .ref m11, .ref m12, .ref m13, .ref m14, .int wr])), aJ G m1 560 mw, aZ G m2 2 ik, aI G m3 20 zs, aI G m4 20 cl, aI G m5 20 hs, aI G m6 20 fm6_24, aI G m7 20 wa, aI G m8 20 ne, aI G m9 4 mn, aI G m10 400 tx, aI G m11 6 th, aI G m12 6 od, aI G m13 30 bk, aI G m14 30 bh]) (x_runV (As := [.int t0_25, .int 1, .int fs2_9]) (rest := []) (n := 3) (C := RX8) (ci := 8) ⟨hx, hb, hml, hown, hts⟩ (k_X8_want l G m0 m1 m2 m3 m4 m5 m6 m7 m8 m9 m10 m11 m12 m13 m14 _ mw ik zs cl hs fm6_24 wa ne mn tx th od bk bh fu fd fi nu nw nf bf bn ts ap2_8 fs2_9 ln2_10 fo2_3 fa2_4 wr t0_25 1 fs2_9 hp) gX8_takePerson_X8_want rfl (by decide +kernel) ⟨Nat.le_trans (Nat.le_of_ble_eq_true rfl) hRf, Nat.le_trans (Nat.le_of_ble_eq_true rfl) hRl⟩ hKK hSS hS hA hP hD [0, 1, 2, 3, 4, 5, 6, 7, 8, 9, 10, 11, 12, 13, 14] (by decide) rfl rfl rfl 0 rfl rfl hl.1 rfl (Nat.le_of_ble_eq_true rfl) dX8_takePerson_181) hP hD hS hA [0, 1, 2, 3, 4, 5, 6, 7, 8, 9, 10, 11, 12, 13, 14] [] [0, 1, 2, 3, 4, 5, 6, 7, 8, 9, 10, 11, 12, 13, 14] rfl rfl (by decide) (by decide) (by decide) (fun _ => rfl) (fun r_29 u H locs hw hP hD hS => ?_)
          obtain ⟨fo2_30, fa2_31⟩ := u
          have hP : va_P G.1 vwCl [(m0, .inr (8, [.ref m1, .ref m2, .ref m3, .ref m4, .ref m5, .ref m6, .ref m7, .ref m8, .ref m9, .int fu, .int fd, .int fi, .int nu, .int nw, .int nf, .int bf, .int bn, .ref m10, .int ts, .int ap2_8, .int fs2_9, .int ln2_10, .int fo2_30, .int fa2_31, .ref m11, .ref m12, .ref m13, .ref m14, .int wr])), aJ G m1 560 mw, aZ G m2 2 ik, aI G m3 20 zs, aI G m4 20 cl, aI G m5 20 hs, aI G m6 20 fm6_24, aI G m7 20 wa, aI G m8 20 ne, aI G m9 4 mn, aI G m10 400 tx, aI G m11 6 th, aI G m12 6 od, aI G m13 30 bk, aI G m14 30 bh] H := hP
          have hD : va_D A [(m0, .inr (8, [.ref m1, .ref m2, .ref m3, .ref m4, .ref m5, .ref m6, .ref m7, .ref m8, .ref m9, .int fu, .int fd, .int fi, .int nu, .int nw, .int nf, .int bf, .int bn, .ref m10, .int ts, .int ap2_8, .int fs2_9, .int ln2_10, .int fo2_30, .int fa2_31, .ref m11, .ref m12, .ref m13, .ref m14, .int wr])), aJ G m1 560 mw, aZ G m2 2 ik, aI G m3 20 zs, aI G m4 20 cl, aI G m5 20 hs, aI G m6 20 fm6_24, aI G m7 20 wa, aI G m8 20 ne, aI G m9 4 mn, aI G m10 400 tx, aI G m11 6 th, aI G m12 6 od, aI G m13 30 bk, aI G m14 30 bh] := hD
          have hv := hv r_29 fo2_30 fa2_31 hw
          refine lv_if_eq (tgt := 225) hx hb dX8_takePerson_184 (by decide) (fun hc_32 => ?_) (fun hc_32 => ?_)
          · have hv := hv.1 hc_32
            exact x_vret (fm6_24, wa, ne, mn, ap2_8, fs2_9, ln2_10, fo2_30, fa2_31) hQ hx hb hr hlocks hS dX8_takePerson_225 hv hP hD
          · have hv := hv.2 hc_32
            refine lv_aload_n hx hb dX8_takePerson_187 rfl (lv_at hl 1 rfl) ?_
            refine va_get (D := G.1) (ci := 8) (v := .ref m7) (C := RX8) (T := TX8) (N := 29) hx hb hts hinX8 hown hKK.1 hP 0 rfl rfl 6 (by decide) kl30 (fun _ h9 => h9) rfl dX8_takePerson_188 ?_
            refine lv_iload_n hx hb dX8_takePerson_191 rfl (lv_at hl 0 rfl) ?_
            refine lv_aload_n hx hb dX8_takePerson_192 rfl (lv_at hl 1 rfl) ?_
            refine lv_iconst (v := 0) hx hb dX8_takePerson_193 (by decide) ?_
            refine lv_sipush (v := 9999) hx hb dX8_takePerson_194 (by decide) ?_
            obtain ⟨hp, hv⟩ := hv
            refine x_calli (wr := []) (w' := fun (u : (Int32) × (Int32) × (Int32) × (Int32)) => [(m0, .inr (8, [.ref m1, .ref m2, .ref m3, .ref m4, .ref m5, .ref m6, .ref m7, .ref m8, .ref m9, .int fu, .int fd, .int fi, .int nu, .int nw, .int nf, .int bf, .int bn, .ref m10, .int ts, .int u.1, .int u.2.1, .int ln2_10, .int u.2.2.1, .int u.2.2.2, .ref m11, .ref m12, .ref m13, .ref m14, .int wr])), aJ G m1 560 mw, aZ G m2 2 ik, aI G m3 20 zs, aI G m4 20 cl, aI G m5 20 hs, aI G m6 20 fm6_24, aI G m7 20 wa, aI G m8 20 ne, aI G m9 4 mn, aI G m10 400 tx, aI G m11 6 th, aI G m12 6 od, aI G m13 30 bk, aI G m14 30 bh]) (x_runV (As := [.int 0, .int 9999]) (rest := [.int y_6, .ref m7]) (n := 2) (C := RX8) (ci := 8) ⟨hx, hb, hml, hown, hts⟩ (k_X8_takeNumber l G m0 m1 m2 m3 m4 m5 m6 m7 m8 m9 m10 m11 m12 m13 m14 _ mw ik zs cl hs fm6_24 wa ne mn tx th od bk bh fu fd fi nu nw nf bf bn ts ap2_8 fs2_9 ln2_10 fo2_30 fa2_31 wr 0 9999 hp) gX8_takePerson_X8_takeNumber rfl (by decide +kernel) ⟨Nat.le_trans (Nat.le_of_ble_eq_true rfl) hRf, Nat.le_trans (Nat.le_of_ble_eq_true rfl) hRl⟩ hKK hSS hS hA hP hD [0, 1, 2, 3, 4, 5, 6, 7, 8, 9, 10, 11, 12, 13, 14] (by decide) rfl rfl rfl 0 rfl rfl hl.1 rfl (Nat.le_of_ble_eq_true rfl) dX8_takePerson_197) hP hD hS hA [0, 1, 2, 3, 4, 5, 6, 7, 8, 9, 10, 11, 12, 13, 14] [] [0, 1, 2, 3, 4, 5, 6, 7, 8, 9, 10, 11, 12, 13, 14] rfl rfl (by decide) (by decide) (by decide) (fun _ => rfl) (fun r_33 u H locs hw hP hD hS => ?_)
            obtain ⟨ap2_34, fs2_35, fo2_36, fa2_37⟩ := u
            have hP : va_P G.1 vwCl [(m0, .inr (8, [.ref m1, .ref m2, .ref m3, .ref m4, .ref m5, .ref m6, .ref m7, .ref m8, .ref m9, .int fu, .int fd, .int fi, .int nu, .int nw, .int nf, .int bf, .int bn, .ref m10, .int ts, .int ap2_34, .int fs2_35, .int ln2_10, .int fo2_36, .int fa2_37, .ref m11, .ref m12, .ref m13, .ref m14, .int wr])), aJ G m1 560 mw, aZ G m2 2 ik, aI G m3 20 zs, aI G m4 20 cl, aI G m5 20 hs, aI G m6 20 fm6_24, aI G m7 20 wa, aI G m8 20 ne, aI G m9 4 mn, aI G m10 400 tx, aI G m11 6 th, aI G m12 6 od, aI G m13 30 bk, aI G m14 30 bh] H := hP
            have hD : va_D A [(m0, .inr (8, [.ref m1, .ref m2, .ref m3, .ref m4, .ref m5, .ref m6, .ref m7, .ref m8, .ref m9, .int fu, .int fd, .int fi, .int nu, .int nw, .int nf, .int bf, .int bn, .ref m10, .int ts, .int ap2_34, .int fs2_35, .int ln2_10, .int fo2_36, .int fa2_37, .ref m11, .ref m12, .ref m13, .ref m14, .int wr])), aJ G m1 560 mw, aZ G m2 2 ik, aI G m3 20 zs, aI G m4 20 cl, aI G m5 20 hs, aI G m6 20 fm6_24, aI G m7 20 wa, aI G m8 20 ne, aI G m9 4 mn, aI G m10 400 tx, aI G m11 6 th, aI G m12 6 od, aI G m13 30 bk, aI G m14 30 bh] := hD
            have hv := hv r_33 ap2_34 fs2_35 fo2_36 fa2_37 hw
            obtain ⟨hin, hv⟩ := hv
            refine va_iast hx hb hKK.1 hP hD hS 7 0 rfl rfl hin dX8_takePerson_200 (fun H locs hP hD hS => ?_)
            obtain ⟨fm7_38, ef⟩ : ∃ z9_, z9_ = (upd wa y_6.toNatClampNeg r_33) := ⟨_, rfl⟩
            have hP : va_P G.1 vwCl [(m0, .inr (8, [.ref m1, .ref m2, .ref m3, .ref m4, .ref m5, .ref m6, .ref m7, .ref m8, .ref m9, .int fu, .int fd, .int fi, .int nu, .int nw, .int nf, .int bf, .int bn, .ref m10, .int ts, .int ap2_34, .int fs2_35, .int ln2_10, .int fo2_36, .int fa2_37, .ref m11, .ref m12, .ref m13, .ref m14, .int wr])), aJ G m1 560 mw, aZ G m2 2 ik, aI G m3 20 zs, aI G m4 20 cl, aI G m5 20 hs, aI G m6 20 fm6_24, aI G m7 20 fm7_38, aI G m8 20 ne, aI G m9 4 mn, aI G m10 400 tx, aI G m11 6 th, aI G m12 6 od, aI G m13 30 bk, aI G m14 30 bh] H := by rw [ef]; exact hP
            have hD : va_D A [(m0, .inr (8, [.ref m1, .ref m2, .ref m3, .ref m4, .ref m5, .ref m6, .ref m7, .ref m8, .ref m9, .int fu, .int fd, .int fi, .int nu, .int nw, .int nf, .int bf, .int bn, .ref m10, .int ts, .int ap2_34, .int fs2_35, .int ln2_10, .int fo2_36, .int fa2_37, .ref m11, .ref m12, .ref m13, .ref m14, .int wr])), aJ G m1 560 mw, aZ G m2 2 ik, aI G m3 20 zs, aI G m4 20 cl, aI G m5 20 hs, aI G m6 20 fm6_24, aI G m7 20 fm7_38, aI G m8 20 ne, aI G m9 4 mn, aI G m10 400 tx, aI G m11 6 th, aI G m12 6 od, aI G m13 30 bk, aI G m14 30 bh] := by rw [ef]; exact hD
            have hv := hv fm7_38 ef
            refine lv_aload_n hx hb dX8_takePerson_201 rfl (lv_at hl 1 rfl) ?_
            refine va_get (D := G.1) (ci := 8) (v := .ref m8) (C := RX8) (T := TX8) (N := 29) hx hb hts hinX8 hown hKK.1 hP 0 rfl rfl 7 (by decide) kl33 (fun _ h9 => h9) rfl dX8_takePerson_202 ?_
            refine lv_iload_n hx hb dX8_takePerson_205 rfl (lv_at hl 0 rfl) ?_
            refine lv_aload_n hx hb dX8_takePerson_206 rfl (lv_at hl 1 rfl) ?_
            refine lv_iconst (v := 0) hx hb dX8_takePerson_207 (by decide) ?_
            refine lv_sipush (v := 9999) hx hb dX8_takePerson_208 (by decide) ?_
            obtain ⟨hp, hv⟩ := hv
            refine x_calli (wr := []) (w' := fun (u : (Int32) × (Int32) × (Int32) × (Int32)) => [(m0, .inr (8, [.ref m1, .ref m2, .ref m3, .ref m4, .ref m5, .ref m6, .ref m7, .ref m8, .ref m9, .int fu, .int fd, .int fi, .int nu, .int nw, .int nf, .int bf, .int bn, .ref m10, .int ts, .int u.1, .int u.2.1, .int ln2_10, .int u.2.2.1, .int u.2.2.2, .ref m11, .ref m12, .ref m13, .ref m14, .int wr])), aJ G m1 560 mw, aZ G m2 2 ik, aI G m3 20 zs, aI G m4 20 cl, aI G m5 20 hs, aI G m6 20 fm6_24, aI G m7 20 fm7_38, aI G m8 20 ne, aI G m9 4 mn, aI G m10 400 tx, aI G m11 6 th, aI G m12 6 od, aI G m13 30 bk, aI G m14 30 bh]) (x_runV (As := [.int 0, .int 9999]) (rest := [.int y_6, .ref m8]) (n := 2) (C := RX8) (ci := 8) ⟨hx, hb, hml, hown, hts⟩ (k_X8_takeNumber l G m0 m1 m2 m3 m4 m5 m6 m7 m8 m9 m10 m11 m12 m13 m14 _ mw ik zs cl hs fm6_24 fm7_38 ne mn tx th od bk bh fu fd fi nu nw nf bf bn ts ap2_34 fs2_35 ln2_10 fo2_36 fa2_37 wr 0 9999 hp) gX8_takePerson_X8_takeNumber rfl (by decide +kernel) ⟨Nat.le_trans (Nat.le_of_ble_eq_true rfl) hRf, Nat.le_trans (Nat.le_of_ble_eq_true rfl) hRl⟩ hKK hSS hS hA hP hD [0, 1, 2, 3, 4, 5, 6, 7, 8, 9, 10, 11, 12, 13, 14] (by decide) rfl rfl rfl 0 rfl rfl hl.1 rfl (Nat.le_of_ble_eq_true rfl) dX8_takePerson_211) hP hD hS hA [0, 1, 2, 3, 4, 5, 6, 7, 8, 9, 10, 11, 12, 13, 14] [] [0, 1, 2, 3, 4, 5, 6, 7, 8, 9, 10, 11, 12, 13, 14] rfl rfl (by decide) (by decide) (by decide) (fun _ => rfl) (fun r_39 u H locs hw hP hD hS => ?_)
            obtain ⟨ap2_40, fs2_41, fo2_42, fa2_43⟩ := u
            have hP : va_P G.1 vwCl [(m0, .inr (8, [.ref m1, .ref m2, .ref m3, .ref m4, .ref m5, .ref m6, .ref m7, .ref m8, .ref m9, .int fu, .int fd, .int fi, .int nu, .int nw, .int nf, .int bf, .int bn, .ref m10, .int ts, .int ap2_40, .int fs2_41, .int ln2_10, .int fo2_42, .int fa2_43, .ref m11, .ref m12, .ref m13, .ref m14, .int wr])), aJ G m1 560 mw, aZ G m2 2 ik, aI G m3 20 zs, aI G m4 20 cl, aI G m5 20 hs, aI G m6 20 fm6_24, aI G m7 20 fm7_38, aI G m8 20 ne, aI G m9 4 mn, aI G m10 400 tx, aI G m11 6 th, aI G m12 6 od, aI G m13 30 bk, aI G m14 30 bh] H := hP
            have hD : va_D A [(m0, .inr (8, [.ref m1, .ref m2, .ref m3, .ref m4, .ref m5, .ref m6, .ref m7, .ref m8, .ref m9, .int fu, .int fd, .int fi, .int nu, .int nw, .int nf, .int bf, .int bn, .ref m10, .int ts, .int ap2_40, .int fs2_41, .int ln2_10, .int fo2_42, .int fa2_43, .ref m11, .ref m12, .ref m13, .ref m14, .int wr])), aJ G m1 560 mw, aZ G m2 2 ik, aI G m3 20 zs, aI G m4 20 cl, aI G m5 20 hs, aI G m6 20 fm6_24, aI G m7 20 fm7_38, aI G m8 20 ne, aI G m9 4 mn, aI G m10 400 tx, aI G m11 6 th, aI G m12 6 od, aI G m13 30 bk, aI G m14 30 bh] := hD
            have hv := hv r_39 ap2_40 fs2_41 fo2_42 fa2_43 hw
            obtain ⟨hin, hv⟩ := hv
            refine va_iast hx hb hKK.1 hP hD hS 8 0 rfl rfl hin dX8_takePerson_214 (fun H locs hP hD hS => ?_)
            obtain ⟨fm8_44, ef⟩ : ∃ z9_, z9_ = (upd ne y_6.toNatClampNeg r_39) := ⟨_, rfl⟩
            have hP : va_P G.1 vwCl [(m0, .inr (8, [.ref m1, .ref m2, .ref m3, .ref m4, .ref m5, .ref m6, .ref m7, .ref m8, .ref m9, .int fu, .int fd, .int fi, .int nu, .int nw, .int nf, .int bf, .int bn, .ref m10, .int ts, .int ap2_40, .int fs2_41, .int ln2_10, .int fo2_42, .int fa2_43, .ref m11, .ref m12, .ref m13, .ref m14, .int wr])), aJ G m1 560 mw, aZ G m2 2 ik, aI G m3 20 zs, aI G m4 20 cl, aI G m5 20 hs, aI G m6 20 fm6_24, aI G m7 20 fm7_38, aI G m8 20 fm8_44, aI G m9 4 mn, aI G m10 400 tx, aI G m11 6 th, aI G m12 6 od, aI G m13 30 bk, aI G m14 30 bh] H := by rw [ef]; exact hP
            have hD : va_D A [(m0, .inr (8, [.ref m1, .ref m2, .ref m3, .ref m4, .ref m5, .ref m6, .ref m7, .ref m8, .ref m9, .int fu, .int fd, .int fi, .int nu, .int nw, .int nf, .int bf, .int bn, .ref m10, .int ts, .int ap2_40, .int fs2_41, .int ln2_10, .int fo2_42, .int fa2_43, .ref m11, .ref m12, .ref m13, .ref m14, .int wr])), aJ G m1 560 mw, aZ G m2 2 ik, aI G m3 20 zs, aI G m4 20 cl, aI G m5 20 hs, aI G m6 20 fm6_24, aI G m7 20 fm7_38, aI G m8 20 fm8_44, aI G m9 4 mn, aI G m10 400 tx, aI G m11 6 th, aI G m12 6 od, aI G m13 30 bk, aI G m14 30 bh] := by rw [ef]; exact hD
            have hv := hv fm8_44 ef
            refine lv_aload_n hx hb dX8_takePerson_215 rfl (lv_at hl 1 rfl) ?_
            refine va_get (D := G.1) (ci := 8) (v := .ref m9) (C := RX8) (T := TX8) (N := 29) hx hb hts hinX8 hown hKK.1 hP 0 rfl rfl 8 (by decide) kl36 (fun _ h9 => h9) rfl dX8_takePerson_216 ?_
            refine lv_iconst (v := 3) hx hb dX8_takePerson_219 (by decide) ?_
            refine lv_dup2_11 hx hb dX8_takePerson_220 rfl rfl ?_
            refine va_iald hx hb hKK.1 hP 9 0 rfl rfl (by unfold vp_in; decide) dX8_takePerson_221 ?_
            refine lv_iconst (v := 1) hx hb dX8_takePerson_222 (by decide) ?_
            refine lv_iadd hx hb dX8_takePerson_223 ?_
            refine va_iast hx hb hKK.1 hP hD hS 9 0 rfl rfl (by unfold vp_in; decide) dX8_takePerson_224 (fun H locs hP hD hS => ?_)
            obtain ⟨fm9_45, ef⟩ : ∃ z9_, z9_ = (upd mn 3 ((mn 3) + 1)) := ⟨_, rfl⟩
            have hP : va_P G.1 vwCl [(m0, .inr (8, [.ref m1, .ref m2, .ref m3, .ref m4, .ref m5, .ref m6, .ref m7, .ref m8, .ref m9, .int fu, .int fd, .int fi, .int nu, .int nw, .int nf, .int bf, .int bn, .ref m10, .int ts, .int ap2_40, .int fs2_41, .int ln2_10, .int fo2_42, .int fa2_43, .ref m11, .ref m12, .ref m13, .ref m14, .int wr])), aJ G m1 560 mw, aZ G m2 2 ik, aI G m3 20 zs, aI G m4 20 cl, aI G m5 20 hs, aI G m6 20 fm6_24, aI G m7 20 fm7_38, aI G m8 20 fm8_44, aI G m9 4 fm9_45, aI G m10 400 tx, aI G m11 6 th, aI G m12 6 od, aI G m13 30 bk, aI G m14 30 bh] H := by rw [ef]; exact hP
            have hD : va_D A [(m0, .inr (8, [.ref m1, .ref m2, .ref m3, .ref m4, .ref m5, .ref m6, .ref m7, .ref m8, .ref m9, .int fu, .int fd, .int fi, .int nu, .int nw, .int nf, .int bf, .int bn, .ref m10, .int ts, .int ap2_40, .int fs2_41, .int ln2_10, .int fo2_42, .int fa2_43, .ref m11, .ref m12, .ref m13, .ref m14, .int wr])), aJ G m1 560 mw, aZ G m2 2 ik, aI G m3 20 zs, aI G m4 20 cl, aI G m5 20 hs, aI G m6 20 fm6_24, aI G m7 20 fm7_38, aI G m8 20 fm8_44, aI G m9 4 fm9_45, aI G m10 400 tx, aI G m11 6 th, aI G m12 6 od, aI G m13 30 bk, aI G m14 30 bh] := by rw [ef]; exact hD
            have hv := hv fm9_45 ef
            exact x_vret (fm6_24, fm7_38, fm8_44, fm9_45, ap2_40, fs2_41, ln2_10, fo2_42, fa2_43) hQ hx hb hr hlocks hS dX8_takePerson_225 hv hP hD
        refine lv_aload_n hx hb dX8_takePerson_161 rfl (lv_at hl 1 rfl) ?_
        refine lv_aload_n hx hb dX8_takePerson_162 rfl (lv_at hl 1 rfl) ?_
        refine va_get (D := G.1) (ci := 8) (v := .ref m6) (C := RX8) (T := TX8) (N := 29) hx hb hts hinX8 hown hKK.1 hP 0 rfl rfl 5 (by decide) kl27 (fun _ h9 => h9) rfl dX8_takePerson_163 ?_
        refine lv_iload_n hx hb dX8_takePerson_166 rfl (lv_at hl 0 rfl) ?_
        obtain ⟨hin, hv⟩ := hv
        refine va_iald hx hb hKK.1 hP 6 0 rfl rfl hin dX8_takePerson_167 ?_
        refine lv_if_lt (tgt := 175) hx hb dX8_takePerson_168 (by decide) (fun hc_28 => ?_) (fun hc_28 => ?_)
        · have hv := hv.1 hc_28
          refine lv_iconst (v := 0) hx hb dX8_takePerson_175 (by decide) ?_
          exact K_27 _ _ _ _ hv hP hD hS hl
        · have hv := hv.2 hc_28
          refine lv_iconst (v := 1) hx hb dX8_takePerson_171 (by decide) ?_
          refine lv_goto (tgt := 176) hx hb dX8_takePerson_172 (by decide) ?_
          exact K_27 _ _ _ _ hv hP hD hS hl
      refine lv_aload_n hx hb dX8_takePerson_44 rfl (lv_at hl 1 rfl) ?_
      refine lv_iconst (v := 5) hx hb dX8_takePerson_45 (by decide) ?_
      refine lv_bipush (v := 112) hx hb dX8_takePerson_46 (by decide) ?_
      refine lv_bipush (v := 108) hx hb dX8_takePerson_48 (by decide) ?_
      refine lv_bipush (v := 97) hx hb dX8_takePerson_50 (by decide) ?_
      refine lv_bipush (v := 105) hx hb dX8_takePerson_52 (by decide) ?_
      refine lv_bipush (v := 110) hx hb dX8_takePerson_54 (by decide) ?_
      refine lv_iconst (v := 0) hx hb dX8_takePerson_56 (by decide) ?_
      obtain ⟨hp, hv⟩ := hv
      refine x_calliR (x_runV (As := [.int 5, .int 112, .int 108, .int 97, .int 105, .int 110, .int 0]) (rest := [.int y_6, .ref m6]) (n := 7) (C := RX8) (ci := 8) ⟨hx, hb, hml, hown, hts⟩ (k_X8_isWord l G m0 m1 m2 m3 m4 m5 m6 m7 m8 m9 m10 m11 m12 m13 m14 _ mw ik zs cl hs ks wa ne mn tx th od bk bh fu fd fi nu nw nf bf bn ts ap2_8 fs2_9 ln2_10 fo2_3 fa2_4 wr 5 112 108 97 105 110 0 hp) gX8_takePerson_X8_isWord rfl (by decide +kernel) ⟨Nat.le_trans (Nat.le_of_ble_eq_true rfl) hRf, Nat.le_trans (Nat.le_of_ble_eq_true rfl) hRl⟩ hKK hSS hS hA hP hD [0, 1, 2, 3, 4, 5, 6, 7, 8, 9, 10, 11, 12, 13, 14] (by decide) rfl rfl rfl 0 rfl rfl hl.1 rfl (Nat.le_of_ble_eq_true rfl) dX8_takePerson_57) hP hD hS hA [0, 1, 2, 3, 4, 5, 6, 7, 8, 9, 10, 11, 12, 13, 14] rfl (fun r_14 _ H locs hw hP hS => ?_)
      have hv := hv r_14 hw
      refine lv_if_eq (tgt := 67) hx hb dX8_takePerson_60 (by decide) (fun hc_15 => ?_) (fun hc_15 => ?_)
      · have hv := hv.1 hc_15
        refine lv_aload_n hx hb dX8_takePerson_67 rfl (lv_at hl 1 rfl) ?_
        refine lv_iconst (v := 3) hx hb dX8_takePerson_68 (by decide) ?_
        refine lv_bipush (v := 102) hx hb dX8_takePerson_69 (by decide) ?_
        refine lv_bipush (v := 97) hx hb dX8_takePerson_71 (by decide) ?_
        refine lv_bipush (v := 116) hx hb dX8_takePerson_73 (by decide) ?_
        refine lv_iconst (v := 0) hx hb dX8_takePerson_75 (by decide) ?_
        refine lv_iconst (v := 0) hx hb dX8_takePerson_76 (by decide) ?_
        refine lv_iconst (v := 0) hx hb dX8_takePerson_77 (by decide) ?_
        obtain ⟨hp, hv⟩ := hv
        refine x_calliR (x_runV (As := [.int 3, .int 102, .int 97, .int 116, .int 0, .int 0, .int 0]) (rest := [.int y_6, .ref m6]) (n := 7) (C := RX8) (ci := 8) ⟨hx, hb, hml, hown, hts⟩ (k_X8_isWord l G m0 m1 m2 m3 m4 m5 m6 m7 m8 m9 m10 m11 m12 m13 m14 _ mw ik zs cl hs ks wa ne mn tx th od bk bh fu fd fi nu nw nf bf bn ts ap2_8 fs2_9 ln2_10 fo2_3 fa2_4 wr 3 102 97 116 0 0 0 hp) gX8_takePerson_X8_isWord rfl (by decide +kernel) ⟨Nat.le_trans (Nat.le_of_ble_eq_true rfl) hRf, Nat.le_trans (Nat.le_of_ble_eq_true rfl) hRl⟩ hKK hSS hS hA hP hD [0, 1, 2, 3, 4, 5, 6, 7, 8, 9, 10, 11, 12, 13, 14] (by decide) rfl rfl rfl 0 rfl rfl hl.1 rfl (Nat.le_of_ble_eq_true rfl) dX8_takePerson_78) hP hD hS hA [0, 1, 2, 3, 4, 5, 6, 7, 8, 9, 10, 11, 12, 13, 14] rfl (fun r_16 _ H locs hw hP hS => ?_)
        have hv := hv r_16 hw
        refine lv_if_eq (tgt := 88) hx hb dX8_takePerson_81 (by decide) (fun hc_17 => ?_) (fun hc_17 => ?_)
        · have hv := hv.1 hc_17
          refine lv_aload_n hx hb dX8_takePerson_88 rfl (lv_at hl 1 rfl) ?_
          refine lv_iconst (v := 5) hx hb dX8_takePerson_89 (by decide) ?_
          refine lv_bipush (v := 109) hx hb dX8_takePerson_90 (by decide) ?_
          refine lv_bipush (v := 105) hx hb dX8_takePerson_92 (by decide) ?_
          refine lv_bipush (v := 115) hx hb dX8_takePerson_94 (by decide) ?_
          refine lv_bipush (v := 101) hx hb dX8_takePerson_96 (by decide) ?_
          refine lv_bipush (v := 114) hx hb dX8_takePerson_98 (by decide) ?_
          refine lv_iconst (v := 0) hx hb dX8_takePerson_100 (by decide) ?_
          obtain ⟨hp, hv⟩ := hv
          refine x_calliR (x_runV (As := [.int 5, .int 109, .int 105, .int 115, .int 101, .int 114, .int 0]) (rest := [.int y_6, .ref m6]) (n := 7) (C := RX8) (ci := 8) ⟨hx, hb, hml, hown, hts⟩ (k_X8_isWord l G m0 m1 m2 m3 m4 m5 m6 m7 m8 m9 m10 m11 m12 m13 m14 _ mw ik zs cl hs ks wa ne mn tx th od bk bh fu fd fi nu nw nf bf bn ts ap2_8 fs2_9 ln2_10 fo2_3 fa2_4 wr 5 109 105 115 101 114 0 hp) gX8_takePerson_X8_isWord rfl (by decide +kernel) ⟨Nat.le_trans (Nat.le_of_ble_eq_true rfl) hRf, Nat.le_trans (Nat.le_of_ble_eq_true rfl) hRl⟩ hKK hSS hS hA hP hD [0, 1, 2, 3, 4, 5, 6, 7, 8, 9, 10, 11, 12, 13, 14] (by decide) rfl rfl rfl 0 rfl rfl hl.1 rfl (Nat.le_of_ble_eq_true rfl) dX8_takePerson_101) hP hD hS hA [0, 1, 2, 3, 4, 5, 6, 7, 8, 9, 10, 11, 12, 13, 14] rfl (fun r_18 _ H locs hw hP hS => ?_)
          have hv := hv r_18 hw
          refine lv_if_eq (tgt := 111) hx hb dX8_takePerson_104 (by decide) (fun hc_19 => ?_) (fun hc_19 => ?_)
          · have hv := hv.1 hc_19
            refine lv_aload_n hx hb dX8_takePerson_111 rfl (lv_at hl 1 rfl) ?_
            refine lv_iconst (v := 5) hx hb dX8_takePerson_112 (by decide) ?_
            refine lv_bipush (v := 100) hx hb dX8_takePerson_113 (by decide) ?_
            refine lv_bipush (v := 114) hx hb dX8_takePerson_115 (by decide) ?_
            refine lv_bipush (v := 97) hx hb dX8_takePerson_117 (by decide) ?_
            refine lv_bipush (v := 105) hx hb dX8_takePerson_119 (by decide) ?_
            refine lv_bipush (v := 110) hx hb dX8_takePerson_121 (by decide) ?_
            refine lv_iconst (v := 0) hx hb dX8_takePerson_123 (by decide) ?_
            obtain ⟨hp, hv⟩ := hv
            refine x_calliR (x_runV (As := [.int 5, .int 100, .int 114, .int 97, .int 105, .int 110, .int 0]) (rest := [.int y_6, .ref m6]) (n := 7) (C := RX8) (ci := 8) ⟨hx, hb, hml, hown, hts⟩ (k_X8_isWord l G m0 m1 m2 m3 m4 m5 m6 m7 m8 m9 m10 m11 m12 m13 m14 _ mw ik zs cl hs ks wa ne mn tx th od bk bh fu fd fi nu nw nf bf bn ts ap2_8 fs2_9 ln2_10 fo2_3 fa2_4 wr 5 100 114 97 105 110 0 hp) gX8_takePerson_X8_isWord rfl (by decide +kernel) ⟨Nat.le_trans (Nat.le_of_ble_eq_true rfl) hRf, Nat.le_trans (Nat.le_of_ble_eq_true rfl) hRl⟩ hKK hSS hS hA hP hD [0, 1, 2, 3, 4, 5, 6, 7, 8, 9, 10, 11, 12, 13, 14] (by decide) rfl rfl rfl 0 rfl rfl hl.1 rfl (Nat.le_of_ble_eq_true rfl) dX8_takePerson_124) hP hD hS hA [0, 1, 2, 3, 4, 5, 6, 7, 8, 9, 10, 11, 12, 13, 14] rfl (fun r_20 _ H locs hw hP hS => ?_)
            have hv := hv r_20 hw
            refine lv_if_eq (tgt := 134) hx hb dX8_takePerson_127 (by decide) (fun hc_21 => ?_) (fun hc_21 => ?_)
            · have hv := hv.1 hc_21
              refine lv_aload_n hx hb dX8_takePerson_134 rfl (lv_at hl 1 rfl) ?_
              refine lv_bipush (v := 6) hx hb dX8_takePerson_135 (by decide) ?_
              refine lv_bipush (v := 98) hx hb dX8_takePerson_137 (by decide) ?_
              refine lv_bipush (v := 101) hx hb dX8_takePerson_139 (by decide) ?_
              refine lv_bipush (v := 103) hx hb dX8_takePerson_141 (by decide) ?_
              refine lv_bipush (v := 103) hx hb dX8_takePerson_143 (by decide) ?_
              refine lv_bipush (v := 97) hx hb dX8_takePerson_145 (by decide) ?_
              refine lv_bipush (v := 114) hx hb dX8_takePerson_147 (by decide) ?_
              obtain ⟨hp, hv⟩ := hv
              refine x_calliR (x_runV (As := [.int 6, .int 98, .int 101, .int 103, .int 103, .int 97, .int 114]) (rest := [.int y_6, .ref m6]) (n := 7) (C := RX8) (ci := 8) ⟨hx, hb, hml, hown, hts⟩ (k_X8_isWord l G m0 m1 m2 m3 m4 m5 m6 m7 m8 m9 m10 m11 m12 m13 m14 _ mw ik zs cl hs ks wa ne mn tx th od bk bh fu fd fi nu nw nf bf bn ts ap2_8 fs2_9 ln2_10 fo2_3 fa2_4 wr 6 98 101 103 103 97 114 hp) gX8_takePerson_X8_isWord rfl (by decide +kernel) ⟨Nat.le_trans (Nat.le_of_ble_eq_true rfl) hRf, Nat.le_trans (Nat.le_of_ble_eq_true rfl) hRl⟩ hKK hSS hS hA hP hD [0, 1, 2, 3, 4, 5, 6, 7, 8, 9, 10, 11, 12, 13, 14] (by decide) rfl rfl rfl 0 rfl rfl hl.1 rfl (Nat.le_of_ble_eq_true rfl) dX8_takePerson_149) hP hD hS hA [0, 1, 2, 3, 4, 5, 6, 7, 8, 9, 10, 11, 12, 13, 14] rfl (fun r_22 _ H locs hw hP hS => ?_)
              have hv := hv r_22 hw
              refine lv_if_eq (tgt := 159) hx hb dX8_takePerson_152 (by decide) (fun hc_23 => ?_) (fun hc_23 => ?_)
              · have hv := hv.1 hc_23
                refine lv_iconst (v := (-1)) hx hb dX8_takePerson_159 (by decide) ?_
                exact K_13 _ _ _ _ hv hP hD hS hl
              · have hv := hv.2 hc_23
                refine lv_iconst (v := 4) hx hb dX8_takePerson_155 (by decide) ?_
                refine lv_goto (tgt := 160) hx hb dX8_takePerson_156 (by decide) ?_
                exact K_13 _ _ _ _ hv hP hD hS hl
            · have hv := hv.2 hc_21
              refine lv_iconst (v := 3) hx hb dX8_takePerson_130 (by decide) ?_
              refine lv_goto (tgt := 160) hx hb dX8_takePerson_131 (by decide) ?_
              exact K_13 _ _ _ _ hv hP hD hS hl
          · have hv := hv.2 hc_19
            refine lv_iconst (v := 2) hx hb dX8_takePerson_107 (by decide) ?_
            refine lv_goto (tgt := 160) hx hb dX8_takePerson_108 (by decide) ?_
            exact K_13 _ _ _ _ hv hP hD hS hl
        · have hv := hv.2 hc_17
          refine lv_iconst (v := 1) hx hb dX8_takePerson_84 (by decide) ?_
          refine lv_goto (tgt := 160) hx hb dX8_takePerson_85 (by decide) ?_
          exact K_13 _ _ _ _ hv hP hD hS hl
      · have hv := hv.2 hc_15
        refine lv_iconst (v := 0) hx hb dX8_takePerson_63 (by decide) ?_
        refine lv_goto (tgt := 160) hx hb dX8_takePerson_64 (by decide) ?_
        exact K_13 _ _ _ _ hv hP hD hS hl
  · have hv := hv.2 hc_1
    refine lv_iconst (v := 1) hx hb dX8_takePerson_12 (by decide) ?_
    refine lv_goto (tgt := 17) hx hb dX8_takePerson_13 (by decide) ?_
    refine lv_iconst (v := 3) hx hb dX8_takePerson_17 (by decide) ?_
    refine lv_iload_n hx hb dX8_takePerson_18 rfl (lv_at hl 1 rfl) ?_
    obtain ⟨hp, hv⟩ := hv
    refine x_calli (wr := []) (w' := fun (u : (Int32) × (Int32)) => [(m0, .inr (8, [.ref m1, .ref m2, .ref m3, .ref m4, .ref m5, .ref m6, .ref m7, .ref m8, .ref m9, .int fu, .int fd, .int fi, .int nu, .int nw, .int nf, .int bf, .int bn, .ref m10, .int ts, .int ap, .int fs, .int ln, .int u.1, .int u.2, .ref m11, .ref m12, .ref m13, .ref m14, .int wr])), aJ G m1 560 mw, aZ G m2 2 ik, aI G m3 20 zs, aI G m4 20 cl, aI G m5 20 hs, aI G m6 20 ks, aI G m7 20 wa, aI G m8 20 ne, aI G m9 4 mn, aI G m10 400 tx, aI G m11 6 th, aI G m12 6 od, aI G m13 30 bk, aI G m14 30 bh]) (x_runV (As := [.int 1, .int 3, .int x]) (rest := []) (n := 3) (C := RX8) (ci := 8) ⟨hx, hb, hml, hown, hts⟩ (k_X8_want l G m0 m1 m2 m3 m4 m5 m6 m7 m8 m9 m10 m11 m12 m13 m14 _ mw ik zs cl hs ks wa ne mn tx th od bk bh fu fd fi nu nw nf bf bn ts ap fs ln fo fa wr 1 3 x hp) gX8_takePerson_X8_want rfl (by decide +kernel) ⟨Nat.le_trans (Nat.le_of_ble_eq_true rfl) hRf, Nat.le_trans (Nat.le_of_ble_eq_true rfl) hRl⟩ hKK hSS hS hA hP hD [0, 1, 2, 3, 4, 5, 6, 7, 8, 9, 10, 11, 12, 13, 14] (by decide) rfl rfl rfl 0 rfl rfl hl.1 rfl (Nat.le_of_ble_eq_true rfl) dX8_takePerson_19) hP hD hS hA [0, 1, 2, 3, 4, 5, 6, 7, 8, 9, 10, 11, 12, 13, 14] [] [0, 1, 2, 3, 4, 5, 6, 7, 8, 9, 10, 11, 12, 13, 14] rfl rfl (by decide) (by decide) (by decide) (fun _ => rfl) (fun r_48 u H locs hw hP hD hS => ?_)
    obtain ⟨fo2_49, fa2_50⟩ := u
    have hP : va_P G.1 vwCl [(m0, .inr (8, [.ref m1, .ref m2, .ref m3, .ref m4, .ref m5, .ref m6, .ref m7, .ref m8, .ref m9, .int fu, .int fd, .int fi, .int nu, .int nw, .int nf, .int bf, .int bn, .ref m10, .int ts, .int ap, .int fs, .int ln, .int fo2_49, .int fa2_50, .ref m11, .ref m12, .ref m13, .ref m14, .int wr])), aJ G m1 560 mw, aZ G m2 2 ik, aI G m3 20 zs, aI G m4 20 cl, aI G m5 20 hs, aI G m6 20 ks, aI G m7 20 wa, aI G m8 20 ne, aI G m9 4 mn, aI G m10 400 tx, aI G m11 6 th, aI G m12 6 od, aI G m13 30 bk, aI G m14 30 bh] H := hP
    have hD : va_D A [(m0, .inr (8, [.ref m1, .ref m2, .ref m3, .ref m4, .ref m5, .ref m6, .ref m7, .ref m8, .ref m9, .int fu, .int fd, .int fi, .int nu, .int nw, .int nf, .int bf, .int bn, .ref m10, .int ts, .int ap, .int fs, .int ln, .int fo2_49, .int fa2_50, .ref m11, .ref m12, .ref m13, .ref m14, .int wr])), aJ G m1 560 mw, aZ G m2 2 ik, aI G m3 20 zs, aI G m4 20 cl, aI G m5 20 hs, aI G m6 20 ks, aI G m7 20 wa, aI G m8 20 ne, aI G m9 4 mn, aI G m10 400 tx, aI G m11 6 th, aI G m12 6 od, aI G m13 30 bk, aI G m14 30 bh] := hD
    have hv := hv r_48 fo2_49 fa2_50 hw
    refine lv_if_eq (tgt := 225) hx hb dX8_takePerson_22 (by decide) (fun hc_51 => ?_) (fun hc_51 => ?_)
    · have hv := hv.1 hc_51
      exact x_vret (ks, wa, ne, mn, ap, fs, ln, fo2_49, fa2_50) hQ hx hb hr hlocks hS dX8_takePerson_225 hv hP hD
    · have hv := hv.2 hc_51
      refine lv_bipush (v := 10) hx hb dX8_takePerson_25 (by decide) ?_
      refine lv_aload_n hx hb dX8_takePerson_27 rfl (lv_at hl 0 rfl) ?_
      refine va_get (D := G.1) (ci := 8) (v := .ref m9) (C := RX8) (T := TX8) (N := 29) hx hb hts hinX8 hown hKK.1 hP 0 rfl rfl 8 (by decide) kl36 (fun _ h9 => h9) rfl dX8_takePerson_28 ?_
      refine lv_iconst (v := 3) hx hb dX8_takePerson_31 (by decide) ?_
      refine va_iald hx hb hKK.1 hP 9 0 rfl rfl (by unfold vp_in; decide) dX8_takePerson_32 ?_
      refine lv_iadd hx hb dX8_takePerson_33 ?_
      refine lv_topi (fun y_52 ey => ?_)
      have hv := hv y_52 ey
      refine lv_istore_n (lv' := [(2, .int y_52), (0, .ref m0), (1, .int x)]) hx hb dX8_takePerson_34 rfl hl (by decide) rfl (fun ls hl => ?_)
      refine lv_aload_n hx hb dX8_takePerson_35 rfl (lv_at hl 1 rfl) ?_
      obtain ⟨hp, hv⟩ := hv
      refine x_callv (wr := []) (w' := fun (u : (Int32) × (Int32) × (Int32)) => [(m0, .inr (8, [.ref m1, .ref m2, .ref m3, .ref m4, .ref m5, .ref m6, .ref m7, .ref m8, .ref m9, .int fu, .int fd, .int fi, .int nu, .int nw, .int nf, .int bf, .int bn, .ref m10, .int ts, .int u.1, .int u.2.1, .int u.2.2, .int fo2_49, .int fa2_50, .ref m11, .ref m12, .ref m13, .ref m14, .int wr])), aJ G m1 560 mw, aZ G m2 2 ik, aI G m3 20 zs, aI G m4 20 cl, aI G m5 20 hs, aI G m6 20 ks, aI G m7 20 wa, aI G m8 20 ne, aI G m9 4 mn, aI G m10 400 tx, aI G m11 6 th, aI G m12 6 od, aI G m13 30 bk, aI G m14 30 bh]) (x_runV (As := []) (rest := []) (n := 0) (C := RX8) (ci := 8) ⟨hx, hb, hml, hown, hts⟩ (k_X8_takeWord l G m0 m1 m2 m3 m4 m5 m6 m7 m8 m9 m10 m11 m12 m13 m14 _ mw ik zs cl hs ks wa ne mn tx th od bk bh fu fd fi nu nw nf bf bn ts ap fs ln fo2_49 fa2_50 wr hp) gX8_takePerson_X8_takeWord rfl (by decide +kernel) ⟨Nat.le_trans (Nat.le_of_ble_eq_true rfl) hRf, Nat.le_trans (Nat.le_of_ble_eq_true rfl) hRl⟩ hKK hSS hS hA hP hD [0, 1, 2, 3, 4, 5, 6, 7, 8, 9, 10, 11, 12, 13, 14] (by decide) rfl rfl rfl 0 rfl rfl hl.1 rfl (Nat.le_of_ble_eq_true rfl) dX8_takePerson_36) hP hD hS hA [0, 1, 2, 3, 4, 5, 6, 7, 8, 9, 10, 11, 12, 13, 14] [] [0, 1, 2, 3, 4, 5, 6, 7, 8, 9, 10, 11, 12, 13, 14] rfl rfl (by decide) (by decide) (by decide) (fun _ => rfl) (fun  u H locs hw hP hD hS => ?_)
      obtain ⟨ap2_54, fs2_55, ln2_56⟩ := u
      have hP : va_P G.1 vwCl [(m0, .inr (8, [.ref m1, .ref m2, .ref m3, .ref m4, .ref m5, .ref m6, .ref m7, .ref m8, .ref m9, .int fu, .int fd, .int fi, .int nu, .int nw, .int nf, .int bf, .int bn, .ref m10, .int ts, .int ap2_54, .int fs2_55, .int ln2_56, .int fo2_49, .int fa2_50, .ref m11, .ref m12, .ref m13, .ref m14, .int wr])), aJ G m1 560 mw, aZ G m2 2 ik, aI G m3 20 zs, aI G m4 20 cl, aI G m5 20 hs, aI G m6 20 ks, aI G m7 20 wa, aI G m8 20 ne, aI G m9 4 mn, aI G m10 400 tx, aI G m11 6 th, aI G m12 6 od, aI G m13 30 bk, aI G m14 30 bh] H := hP
      have hD : va_D A [(m0, .inr (8, [.ref m1, .ref m2, .ref m3, .ref m4, .ref m5, .ref m6, .ref m7, .ref m8, .ref m9, .int fu, .int fd, .int fi, .int nu, .int nw, .int nf, .int bf, .int bn, .ref m10, .int ts, .int ap2_54, .int fs2_55, .int ln2_56, .int fo2_49, .int fa2_50, .ref m11, .ref m12, .ref m13, .ref m14, .int wr])), aJ G m1 560 mw, aZ G m2 2 ik, aI G m3 20 zs, aI G m4 20 cl, aI G m5 20 hs, aI G m6 20 ks, aI G m7 20 wa, aI G m8 20 ne, aI G m9 4 mn, aI G m10 400 tx, aI G m11 6 th, aI G m12 6 od, aI G m13 30 bk, aI G m14 30 bh] := hD
      have hv := hv ap2_54 fs2_55 ln2_56 hw
      refine lv_aload_n hx hb dX8_takePerson_39 rfl (lv_at hl 1 rfl) ?_
      refine va_get (D := G.1) (ci := 8) (v := .ref m6) (C := RX8) (T := TX8) (N := 29) hx hb hts hinX8 hown hKK.1 hP 0 rfl rfl 5 (by decide) kl27 (fun _ h9 => h9) rfl dX8_takePerson_40 ?_
      refine lv_iload_n hx hb dX8_takePerson_43 rfl (lv_at hl 0 rfl) ?_
      obtain ⟨J160_58, hv, hj_93⟩ := hv
      have K_59 : ∀ (t0_57 : Int32) (H : Heap) (locs : List Loc) (ls : Array Slot), J160_58 t0_57 → va_P G.1 vwCl [(m0, .inr (8, [.ref m1, .ref m2, .ref m3, .ref m4, .ref m5, .ref m6, .ref m7, .ref m8, .ref m9, .int fu, .int fd, .int fi, .int nu, .int nw, .int nf, .int bf, .int bn, .ref m10, .int ts, .int ap2_54, .int fs2_55, .int ln2_56, .int fo2_49, .int fa2_50, .ref m11, .ref m12, .ref m13, .ref m14, .int wr])), aJ G m1 560 mw, aZ G m2 2 ik, aI G m3 20 zs, aI G m4 20 cl, aI G m5 20 hs, aI G m6 20 ks, aI G m7 20 wa, aI G m8 20 ne, aI G m9 4 mn, aI G m10 400 tx, aI G m11 6 th, aI G m12 6 od, aI G m13 30 bk, aI G m14 30 bh] H → va_D A [(m0, .inr (8, [.ref m1, .ref m2, .ref m3, .ref m4, .ref m5, .ref m6, .ref m7, .ref m8, .ref m9, .int fu, .int fd, .int fi, .int nu, .int nw, .int nf, .int bf, .int bn, .ref m10, .int ts, .int ap2_54, .int fs2_55, .int ln2_56, .int fo2_49, .int fa2_50, .ref m11, .ref m12, .ref m13, .ref m14, .int wr])), aJ G m1 560 mw, aZ G m2 2 ik, aI G m3 20 zs, aI G m4 20 cl, aI G m5 20 hs, aI G m6 20 ks, aI G m7 20 wa, aI G m8 20 ne, aI G m9 4 mn, aI G m10 400 tx, aI G m11 6 th, aI G m12 6 od, aI G m13 30 bk, aI G m14 30 bh] → va_S A s.heap H locs → lv_has ls 3 [(2, .int y_52), (0, .ref m0), (1, .int x)] → W p l e R s m args below meth c H locs 0 0 Q (F0 m 160 ls [.int t0_57, .int y_52, .ref m6]) := by
        intro t0_57 H locs ls hi hP hD hS hl
        have hv := hj_93 t0_57 hi
        obtain ⟨hin, hv⟩ := hv
        refine va_iast hx hb hKK.1 hP hD hS 6 0 rfl rfl hin dX8_takePerson_160 (fun H locs hP hD hS => ?_)
        obtain ⟨fm6_70, ef⟩ : ∃ z9_, z9_ = (upd ks y_52.toNatClampNeg t0_57) := ⟨_, rfl⟩
        have hP : va_P G.1 vwCl [(m0, .inr (8, [.ref m1, .ref m2, .ref m3, .ref m4, .ref m5, .ref m6, .ref m7, .ref m8, .ref m9, .int fu, .int fd, .int fi, .int nu, .int nw, .int nf, .int bf, .int bn, .ref m10, .int ts, .int ap2_54, .int fs2_55, .int ln2_56, .int fo2_49, .int fa2_50, .ref m11, .ref m12, .ref m13, .ref m14, .int wr])), aJ G m1 560 mw, aZ G m2 2 ik, aI G m3 20 zs, aI G m4 20 cl, aI G m5 20 hs, aI G m6 20 fm6_70, aI G m7 20 wa, aI G m8 20 ne, aI G m9 4 mn, aI G m10 400 tx, aI G m11 6 th, aI G m12 6 od, aI G m13 30 bk, aI G m14 30 bh] H := by rw [ef]; exact hP
        have hD : va_D A [(m0, .inr (8, [.ref m1, .ref m2, .ref m3, .ref m4, .ref m5, .ref m6, .ref m7, .ref m8, .ref m9, .int fu, .int fd, .int fi, .int nu, .int nw, .int nf, .int bf, .int bn, .ref m10, .int ts, .int ap2_54, .int fs2_55, .int ln2_56, .int fo2_49, .int fa2_50, .ref m11, .ref m12, .ref m13, .ref m14, .int wr])), aJ G m1 560 mw, aZ G m2 2 ik, aI G m3 20 zs, aI G m4 20 cl, aI G m5 20 hs, aI G m6 20 fm6_70, aI G m7 20 wa, aI G m8 20 ne, aI G m9 4 mn, aI G m10 400 tx, aI G m11 6 th, aI G m12 6 od, aI G m13 30 bk, aI G m14 30 bh] := by rw [ef]; exact hD
        have hv := hv fm6_70 ef
        obtain ⟨J176_72, hv, hj_92⟩ := hv
        have K_73 : ∀ (t0_71 : Int32) (H : Heap) (locs : List Loc) (ls : Array Slot), J176_72 t0_71 → va_P G.1 vwCl [(m0, .inr (8, [.ref m1, .ref m2, .ref m3, .ref m4, .ref m5, .ref m6, .ref m7, .ref m8, .ref m9, .int fu, .int fd, .int fi, .int nu, .int nw, .int nf, .int bf, .int bn, .ref m10, .int ts, .int ap2_54, .int fs2_55, .int ln2_56, .int fo2_49, .int fa2_50, .ref m11, .ref m12, .ref m13, .ref m14, .int wr])), aJ G m1 560 mw, aZ G m2 2 ik, aI G m3 20 zs, aI G m4 20 cl, aI G m5 20 hs, aI G m6 20 fm6_70, aI G m7 20 wa, aI G m8 20 ne, aI G m9 4 mn, aI G m10 400 tx, aI G m11 6 th, aI G m12 6 od, aI G m13 30 bk, aI G m14 30 bh] H → va_D A [(m0, .inr (8, [.ref m1, .ref m2, .ref m3, .ref m4, .ref m5, .ref m6, .ref m7, .ref m8, .ref m9, .int fu, .int fd, .int fi, .int nu, .int nw, .int nf, .int bf, .int bn, .ref m10, .int ts, .int ap2_54, .int fs2_55, .int ln2_56, .int fo2_49, .int fa2_50, .ref m11, .ref m12, .ref m13, .ref m14, .int wr])), aJ G m1 560 mw, aZ G m2 2 ik, aI G m3 20 zs, aI G m4 20 cl, aI G m5 20 hs, aI G m6 20 fm6_70, aI G m7 20 wa, aI G m8 20 ne, aI G m9 4 mn, aI G m10 400 tx, aI G m11 6 th, aI G m12 6 od, aI G m13 30 bk, aI G m14 30 bh] → va_S A s.heap H locs → lv_has ls 3 [(2, .int y_52), (0, .ref m0), (1, .int x)] → W p l e R s m args below meth c H locs 0 0 Q (F0 m 176 ls [.int t0_71, .ref m0]) := by
          intro t0_71 H locs ls hi hP hD hS hl
          have hv := hj_92 t0_71 hi
          refine lv_iconst (v := 1) hx hb dX8_takePerson_176 (by decide) ?_
          refine lv_aload_n hx hb dX8_takePerson_177 rfl (lv_at hl 1 rfl) ?_
          refine va_get (D := G.1) (ci := 8) (v := .int fs2_55) (C := RX8) (T := TX8) (N := 29) hx hb hts hinX8 hown hKK.1 hP 0 rfl rfl 20 (by decide) kl90 (fun _ h9 => h9) rfl dX8_takePerson_178 ?_
          obtain ⟨hp, hv⟩ := hv
          refine x_calli (wr := []) (w' := fun (u : (Int32) × (Int32)) => [(m0, .inr (8, [.ref m1, .ref m2, .ref m3, .ref m4, .ref m5, .ref m6, .ref m7, .ref m8, .ref m9, .int fu, .int fd, .int fi, .int nu, .int nw, .int nf, .int bf, .int bn, .ref m10, .int ts, .int ap2_54, .int fs2_55, .int ln2_56, .int u.1, .int u.2, .ref m11, .ref m12, .ref m13, .ref m14, .int wr])), aJ G m1 560 mw, aZ G m2 2 ik, aI G m3 20 zs, aI G m4 20 cl, aI G m5 20 hs, aI G m6 20 fm6_70, aI G m7 20 wa, aI G m8 20 ne, aI G m9 4 mn, aI G m10 400 tx, aI G m11 6 th, aI G m12 6 od, aI G m13 30 bk, aI G m14 30 bh]) (x_runV (As := [.int t0_71, .int 1, .int fs2_55]) (rest := []) (n := 3) (C := RX8) (ci := 8) ⟨hx, hb, hml, hown, hts⟩ (k_X8_want l G m0 m1 m2 m3 m4 m5 m6 m7 m8 m9 m10 m11 m12 m13 m14 _ mw ik zs cl hs fm6_70 wa ne mn tx th od bk bh fu fd fi nu nw nf bf bn ts ap2_54 fs2_55 ln2_56 fo2_49 fa2_50 wr t0_71 1 fs2_55 hp) gX8_takePerson_X8_want rfl (by decide +kernel) ⟨Nat.le_trans (Nat.le_of_ble_eq_true rfl) hRf, Nat.le_trans (Nat.le_of_ble_eq_true rfl) hRl⟩ hKK hSS hS hA hP hD [0, 1, 2, 3, 4, 5, 6, 7, 8, 9, 10, 11, 12, 13, 14] (by decide) rfl rfl rfl 0 rfl rfl hl.1 rfl (Nat.le_of_ble_eq_true rfl) dX8_takePerson_181) hP hD hS hA [0, 1, 2, 3, 4, 5, 6, 7, 8, 9, 10, 11, 12, 13, 14] [] [0, 1, 2, 3, 4, 5, 6, 7, 8, 9, 10, 11, 12, 13, 14] rfl rfl (by decide) (by decide) (by decide) (fun _ => rfl) (fun r_75 u H locs hw hP hD hS => ?_)
          obtain ⟨fo2_76, fa2_77⟩ := u
          have hP : va_P G.1 vwCl [(m0, .inr (8, [.ref m1, .ref m2, .ref m3, .ref m4, .ref m5, .ref m6, .ref m7, .ref m8, .ref m9, .int fu, .int fd, .int fi, .int nu, .int nw, .int nf, .int bf, .int bn, .ref m10, .int ts, .int ap2_54, .int fs2_55, .int ln2_56, .int fo2_76, .int fa2_77, .ref m11, .ref m12, .ref m13, .ref m14, .int wr])), aJ G m1 560 mw, aZ G m2 2 ik, aI G m3 20 zs, aI G m4 20 cl, aI G m5 20 hs, aI G m6 20 fm6_70, aI G m7 20 wa, aI G m8 20 ne, aI G m9 4 mn, aI G m10 400 tx, aI G m11 6 th, aI G m12 6 od, aI G m13 30 bk, aI G m14 30 bh] H := hP
          have hD : va_D A [(m0, .inr (8, [.ref m1, .ref m2, .ref m3, .ref m4, .ref m5, .ref m6, .ref m7, .ref m8, .ref m9, .int fu, .int fd, .int fi, .int nu, .int nw, .int nf, .int bf, .int bn, .ref m10, .int ts, .int ap2_54, .int fs2_55, .int ln2_56, .int fo2_76, .int fa2_77, .ref m11, .ref m12, .ref m13, .ref m14, .int wr])), aJ G m1 560 mw, aZ G m2 2 ik, aI G m3 20 zs, aI G m4 20 cl, aI G m5 20 hs, aI G m6 20 fm6_70, aI G m7 20 wa, aI G m8 20 ne, aI G m9 4 mn, aI G m10 400 tx, aI G m11 6 th, aI G m12 6 od, aI G m13 30 bk, aI G m14 30 bh] := hD
          have hv := hv r_75 fo2_76 fa2_77 hw
          refine lv_if_eq (tgt := 225) hx hb dX8_takePerson_184 (by decide) (fun hc_78 => ?_) (fun hc_78 => ?_)
          · have hv := hv.1 hc_78
            exact x_vret (fm6_70, wa, ne, mn, ap2_54, fs2_55, ln2_56, fo2_76, fa2_77) hQ hx hb hr hlocks hS dX8_takePerson_225 hv hP hD
          · have hv := hv.2 hc_78
            refine lv_aload_n hx hb dX8_takePerson_187 rfl (lv_at hl 1 rfl) ?_
            refine va_get (D := G.1) (ci := 8) (v := .ref m7) (C := RX8) (T := TX8) (N := 29) hx hb hts hinX8 hown hKK.1 hP 0 rfl rfl 6 (by decide) kl30 (fun _ h9 => h9) rfl dX8_takePerson_188 ?_
            refine lv_iload_n hx hb dX8_takePerson_191 rfl (lv_at hl 0 rfl) ?_
            refine lv_aload_n hx hb dX8_takePerson_192 rfl (lv_at hl 1 rfl) ?_
            refine lv_iconst (v := 0) hx hb dX8_takePerson_193 (by decide) ?_
            refine lv_sipush (v := 9999) hx hb dX8_takePerson_194 (by decide) ?_
            obtain ⟨hp, hv⟩ := hv
            refine x_calli (wr := []) (w' := fun (u : (Int32) × (Int32) × (Int32) × (Int32)) => [(m0, .inr (8, [.ref m1, .ref m2, .ref m3, .ref m4, .ref m5, .ref m6, .ref m7, .ref m8, .ref m9, .int fu, .int fd, .int fi, .int nu, .int nw, .int nf, .int bf, .int bn, .ref m10, .int ts, .int u.1, .int u.2.1, .int ln2_56, .int u.2.2.1, .int u.2.2.2, .ref m11, .ref m12, .ref m13, .ref m14, .int wr])), aJ G m1 560 mw, aZ G m2 2 ik, aI G m3 20 zs, aI G m4 20 cl, aI G m5 20 hs, aI G m6 20 fm6_70, aI G m7 20 wa, aI G m8 20 ne, aI G m9 4 mn, aI G m10 400 tx, aI G m11 6 th, aI G m12 6 od, aI G m13 30 bk, aI G m14 30 bh]) (x_runV (As := [.int 0, .int 9999]) (rest := [.int y_52, .ref m7]) (n := 2) (C := RX8) (ci := 8) ⟨hx, hb, hml, hown, hts⟩ (k_X8_takeNumber l G m0 m1 m2 m3 m4 m5 m6 m7 m8 m9 m10 m11 m12 m13 m14 _ mw ik zs cl hs fm6_70 wa ne mn tx th od bk bh fu fd fi nu nw nf bf bn ts ap2_54 fs2_55 ln2_56 fo2_76 fa2_77 wr 0 9999 hp) gX8_takePerson_X8_takeNumber rfl (by decide +kernel) ⟨Nat.le_trans (Nat.le_of_ble_eq_true rfl) hRf, Nat.le_trans (Nat.le_of_ble_eq_true rfl) hRl⟩ hKK hSS hS hA hP hD [0, 1, 2, 3, 4, 5, 6, 7, 8, 9, 10, 11, 12, 13, 14] (by decide) rfl rfl rfl 0 rfl rfl hl.1 rfl (Nat.le_of_ble_eq_true rfl) dX8_takePerson_197) hP hD hS hA [0, 1, 2, 3, 4, 5, 6, 7, 8, 9, 10, 11, 12, 13, 14] [] [0, 1, 2, 3, 4, 5, 6, 7, 8, 9, 10, 11, 12, 13, 14] rfl rfl (by decide) (by decide) (by decide) (fun _ => rfl) (fun r_79 u H locs hw hP hD hS => ?_)
            obtain ⟨ap2_80, fs2_81, fo2_82, fa2_83⟩ := u
            have hP : va_P G.1 vwCl [(m0, .inr (8, [.ref m1, .ref m2, .ref m3, .ref m4, .ref m5, .ref m6, .ref m7, .ref m8, .ref m9, .int fu, .int fd, .int fi, .int nu, .int nw, .int nf, .int bf, .int bn, .ref m10, .int ts, .int ap2_80, .int fs2_81, .int ln2_56, .int fo2_82, .int fa2_83, .ref m11, .ref m12, .ref m13, .ref m14, .int wr])), aJ G m1 560 mw, aZ G m2 2 ik, aI G m3 20 zs, aI G m4 20 cl, aI G m5 20 hs, aI G m6 20 fm6_70, aI G m7 20 wa, aI G m8 20 ne, aI G m9 4 mn, aI G m10 400 tx, aI G m11 6 th, aI G m12 6 od, aI G m13 30 bk, aI G m14 30 bh] H := hP
            have hD : va_D A [(m0, .inr (8, [.ref m1, .ref m2, .ref m3, .ref m4, .ref m5, .ref m6, .ref m7, .ref m8, .ref m9, .int fu, .int fd, .int fi, .int nu, .int nw, .int nf, .int bf, .int bn, .ref m10, .int ts, .int ap2_80, .int fs2_81, .int ln2_56, .int fo2_82, .int fa2_83, .ref m11, .ref m12, .ref m13, .ref m14, .int wr])), aJ G m1 560 mw, aZ G m2 2 ik, aI G m3 20 zs, aI G m4 20 cl, aI G m5 20 hs, aI G m6 20 fm6_70, aI G m7 20 wa, aI G m8 20 ne, aI G m9 4 mn, aI G m10 400 tx, aI G m11 6 th, aI G m12 6 od, aI G m13 30 bk, aI G m14 30 bh] := hD
            have hv := hv r_79 ap2_80 fs2_81 fo2_82 fa2_83 hw
            obtain ⟨hin, hv⟩ := hv
            refine va_iast hx hb hKK.1 hP hD hS 7 0 rfl rfl hin dX8_takePerson_200 (fun H locs hP hD hS => ?_)
            obtain ⟨fm7_84, ef⟩ : ∃ z9_, z9_ = (upd wa y_52.toNatClampNeg r_79) := ⟨_, rfl⟩
            have hP : va_P G.1 vwCl [(m0, .inr (8, [.ref m1, .ref m2, .ref m3, .ref m4, .ref m5, .ref m6, .ref m7, .ref m8, .ref m9, .int fu, .int fd, .int fi, .int nu, .int nw, .int nf, .int bf, .int bn, .ref m10, .int ts, .int ap2_80, .int fs2_81, .int ln2_56, .int fo2_82, .int fa2_83, .ref m11, .ref m12, .ref m13, .ref m14, .int wr])), aJ G m1 560 mw, aZ G m2 2 ik, aI G m3 20 zs, aI G m4 20 cl, aI G m5 20 hs, aI G m6 20 fm6_70, aI G m7 20 fm7_84, aI G m8 20 ne, aI G m9 4 mn, aI G m10 400 tx, aI G m11 6 th, aI G m12 6 od, aI G m13 30 bk, aI G m14 30 bh] H := by rw [ef]; exact hP
            have hD : va_D A [(m0, .inr (8, [.ref m1, .ref m2, .ref m3, .ref m4, .ref m5, .ref m6, .ref m7, .ref m8, .ref m9, .int fu, .int fd, .int fi, .int nu, .int nw, .int nf, .int bf, .int bn, .ref m10, .int ts, .int ap2_80, .int fs2_81, .int ln2_56, .int fo2_82, .int fa2_83, .ref m11, .ref m12, .ref m13, .ref m14, .int wr])), aJ G m1 560 mw, aZ G m2 2 ik, aI G m3 20 zs, aI G m4 20 cl, aI G m5 20 hs, aI G m6 20 fm6_70, aI G m7 20 fm7_84, aI G m8 20 ne, aI G m9 4 mn, aI G m10 400 tx, aI G m11 6 th, aI G m12 6 od, aI G m13 30 bk, aI G m14 30 bh] := by rw [ef]; exact hD
            have hv := hv fm7_84 ef
            refine lv_aload_n hx hb dX8_takePerson_201 rfl (lv_at hl 1 rfl) ?_
            refine va_get (D := G.1) (ci := 8) (v := .ref m8) (C := RX8) (T := TX8) (N := 29) hx hb hts hinX8 hown hKK.1 hP 0 rfl rfl 7 (by decide) kl33 (fun _ h9 => h9) rfl dX8_takePerson_202 ?_
            refine lv_iload_n hx hb dX8_takePerson_205 rfl (lv_at hl 0 rfl) ?_
            refine lv_aload_n hx hb dX8_takePerson_206 rfl (lv_at hl 1 rfl) ?_
            refine lv_iconst (v := 0) hx hb dX8_takePerson_207 (by decide) ?_
            refine lv_sipush (v := 9999) hx hb dX8_takePerson_208 (by decide) ?_
            obtain ⟨hp, hv⟩ := hv
            refine x_calli (wr := []) (w' := fun (u : (Int32) × (Int32) × (Int32) × (Int32)) => [(m0, .inr (8, [.ref m1, .ref m2, .ref m3, .ref m4, .ref m5, .ref m6, .ref m7, .ref m8, .ref m9, .int fu, .int fd, .int fi, .int nu, .int nw, .int nf, .int bf, .int bn, .ref m10, .int ts, .int u.1, .int u.2.1, .int ln2_56, .int u.2.2.1, .int u.2.2.2, .ref m11, .ref m12, .ref m13, .ref m14, .int wr])), aJ G m1 560 mw, aZ G m2 2 ik, aI G m3 20 zs, aI G m4 20 cl, aI G m5 20 hs, aI G m6 20 fm6_70, aI G m7 20 fm7_84, aI G m8 20 ne, aI G m9 4 mn, aI G m10 400 tx, aI G m11 6 th, aI G m12 6 od, aI G m13 30 bk, aI G m14 30 bh]) (x_runV (As := [.int 0, .int 9999]) (rest := [.int y_52, .ref m8]) (n := 2) (C := RX8) (ci := 8) ⟨hx, hb, hml, hown, hts⟩ (k_X8_takeNumber l G m0 m1 m2 m3 m4 m5 m6 m7 m8 m9 m10 m11 m12 m13 m14 _ mw ik zs cl hs fm6_70 fm7_84 ne mn tx th od bk bh fu fd fi nu nw nf bf bn ts ap2_80 fs2_81 ln2_56 fo2_82 fa2_83 wr 0 9999 hp) gX8_takePerson_X8_takeNumber rfl (by decide +kernel) ⟨Nat.le_trans (Nat.le_of_ble_eq_true rfl) hRf, Nat.le_trans (Nat.le_of_ble_eq_true rfl) hRl⟩ hKK hSS hS hA hP hD [0, 1, 2, 3, 4, 5, 6, 7, 8, 9, 10, 11, 12, 13, 14] (by decide) rfl rfl rfl 0 rfl rfl hl.1 rfl (Nat.le_of_ble_eq_true rfl) dX8_takePerson_211) hP hD hS hA [0, 1, 2, 3, 4, 5, 6, 7, 8, 9, 10, 11, 12, 13, 14] [] [0, 1, 2, 3, 4, 5, 6, 7, 8, 9, 10, 11, 12, 13, 14] rfl rfl (by decide) (by decide) (by decide) (fun _ => rfl) (fun r_85 u H locs hw hP hD hS => ?_)
            obtain ⟨ap2_86, fs2_87, fo2_88, fa2_89⟩ := u
            have hP : va_P G.1 vwCl [(m0, .inr (8, [.ref m1, .ref m2, .ref m3, .ref m4, .ref m5, .ref m6, .ref m7, .ref m8, .ref m9, .int fu, .int fd, .int fi, .int nu, .int nw, .int nf, .int bf, .int bn, .ref m10, .int ts, .int ap2_86, .int fs2_87, .int ln2_56, .int fo2_88, .int fa2_89, .ref m11, .ref m12, .ref m13, .ref m14, .int wr])), aJ G m1 560 mw, aZ G m2 2 ik, aI G m3 20 zs, aI G m4 20 cl, aI G m5 20 hs, aI G m6 20 fm6_70, aI G m7 20 fm7_84, aI G m8 20 ne, aI G m9 4 mn, aI G m10 400 tx, aI G m11 6 th, aI G m12 6 od, aI G m13 30 bk, aI G m14 30 bh] H := hP
            have hD : va_D A [(m0, .inr (8, [.ref m1, .ref m2, .ref m3, .ref m4, .ref m5, .ref m6, .ref m7, .ref m8, .ref m9, .int fu, .int fd, .int fi, .int nu, .int nw, .int nf, .int bf, .int bn, .ref m10, .int ts, .int ap2_86, .int fs2_87, .int ln2_56, .int fo2_88, .int fa2_89, .ref m11, .ref m12, .ref m13, .ref m14, .int wr])), aJ G m1 560 mw, aZ G m2 2 ik, aI G m3 20 zs, aI G m4 20 cl, aI G m5 20 hs, aI G m6 20 fm6_70, aI G m7 20 fm7_84, aI G m8 20 ne, aI G m9 4 mn, aI G m10 400 tx, aI G m11 6 th, aI G m12 6 od, aI G m13 30 bk, aI G m14 30 bh] := hD
            have hv := hv r_85 ap2_86 fs2_87 fo2_88 fa2_89 hw
            obtain ⟨hin, hv⟩ := hv
            refine va_iast hx hb hKK.1 hP hD hS 8 0 rfl rfl hin dX8_takePerson_214 (fun H locs hP hD hS => ?_)
            obtain ⟨fm8_90, ef⟩ : ∃ z9_, z9_ = (upd ne y_52.toNatClampNeg r_85) := ⟨_, rfl⟩
            have hP : va_P G.1 vwCl [(m0, .inr (8, [.ref m1, .ref m2, .ref m3, .ref m4, .ref m5, .ref m6, .ref m7, .ref m8, .ref m9, .int fu, .int fd, .int fi, .int nu, .int nw, .int nf, .int bf, .int bn, .ref m10, .int ts, .int ap2_86, .int fs2_87, .int ln2_56, .int fo2_88, .int fa2_89, .ref m11, .ref m12, .ref m13, .ref m14, .int wr])), aJ G m1 560 mw, aZ G m2 2 ik, aI G m3 20 zs, aI G m4 20 cl, aI G m5 20 hs, aI G m6 20 fm6_70, aI G m7 20 fm7_84, aI G m8 20 fm8_90, aI G m9 4 mn, aI G m10 400 tx, aI G m11 6 th, aI G m12 6 od, aI G m13 30 bk, aI G m14 30 bh] H := by rw [ef]; exact hP
            have hD : va_D A [(m0, .inr (8, [.ref m1, .ref m2, .ref m3, .ref m4, .ref m5, .ref m6, .ref m7, .ref m8, .ref m9, .int fu, .int fd, .int fi, .int nu, .int nw, .int nf, .int bf, .int bn, .ref m10, .int ts, .int ap2_86, .int fs2_87, .int ln2_56, .int fo2_88, .int fa2_89, .ref m11, .ref m12, .ref m13, .ref m14, .int wr])), aJ G m1 560 mw, aZ G m2 2 ik, aI G m3 20 zs, aI G m4 20 cl, aI G m5 20 hs, aI G m6 20 fm6_70, aI G m7 20 fm7_84, aI G m8 20 fm8_90, aI G m9 4 mn, aI G m10 400 tx, aI G m11 6 th, aI G m12 6 od, aI G m13 30 bk, aI G m14 30 bh] := by rw [ef]; exact hD
            have hv := hv fm8_90 ef
            refine lv_aload_n hx hb dX8_takePerson_215 rfl (lv_at hl 1 rfl) ?_
            refine va_get (D := G.1) (ci := 8) (v := .ref m9) (C := RX8) (T := TX8) (N := 29) hx hb hts hinX8 hown hKK.1 hP 0 rfl rfl 8 (by decide) kl36 (fun _ h9 => h9) rfl dX8_takePerson_216 ?_
            refine lv_iconst (v := 3) hx hb dX8_takePerson_219 (by decide) ?_
            refine lv_dup2_11 hx hb dX8_takePerson_220 rfl rfl ?_
            refine va_iald hx hb hKK.1 hP 9 0 rfl rfl (by unfold vp_in; decide) dX8_takePerson_221 ?_
            refine lv_iconst (v := 1) hx hb dX8_takePerson_222 (by decide) ?_
            refine lv_iadd hx hb dX8_takePerson_223 ?_
            refine va_iast hx hb hKK.1 hP hD hS 9 0 rfl rfl (by unfold vp_in; decide) dX8_takePerson_224 (fun H locs hP hD hS => ?_)
            obtain ⟨fm9_91, ef⟩ : ∃ z9_, z9_ = (upd mn 3 ((mn 3) + 1)) := ⟨_, rfl⟩
            have hP : va_P G.1 vwCl [(m0, .inr (8, [.ref m1, .ref m2, .ref m3, .ref m4, .ref m5, .ref m6, .ref m7, .ref m8, .ref m9, .int fu, .int fd, .int fi, .int nu, .int nw, .int nf, .int bf, .int bn, .ref m10, .int ts, .int ap2_86, .int fs2_87, .int ln2_56, .int fo2_88, .int fa2_89, .ref m11, .ref m12, .ref m13, .ref m14, .int wr])), aJ G m1 560 mw, aZ G m2 2 ik, aI G m3 20 zs, aI G m4 20 cl, aI G m5 20 hs, aI G m6 20 fm6_70, aI G m7 20 fm7_84, aI G m8 20 fm8_90, aI G m9 4 fm9_91, aI G m10 400 tx, aI G m11 6 th, aI G m12 6 od, aI G m13 30 bk, aI G m14 30 bh] H := by rw [ef]; exact hP
            have hD : va_D A [(m0, .inr (8, [.ref m1, .ref m2, .ref m3, .ref m4, .ref m5, .ref m6, .ref m7, .ref m8, .ref m9, .int fu, .int fd, .int fi, .int nu, .int nw, .int nf, .int bf, .int bn, .ref m10, .int ts, .int ap2_86, .int fs2_87, .int ln2_56, .int fo2_88, .int fa2_89, .ref m11, .ref m12, .ref m13, .ref m14, .int wr])), aJ G m1 560 mw, aZ G m2 2 ik, aI G m3 20 zs, aI G m4 20 cl, aI G m5 20 hs, aI G m6 20 fm6_70, aI G m7 20 fm7_84, aI G m8 20 fm8_90, aI G m9 4 fm9_91, aI G m10 400 tx, aI G m11 6 th, aI G m12 6 od, aI G m13 30 bk, aI G m14 30 bh] := by rw [ef]; exact hD
            have hv := hv fm9_91 ef
            exact x_vret (fm6_70, fm7_84, fm8_90, fm9_91, ap2_86, fs2_87, ln2_56, fo2_88, fa2_89) hQ hx hb hr hlocks hS dX8_takePerson_225 hv hP hD
        refine lv_aload_n hx hb dX8_takePerson_161 rfl (lv_at hl 1 rfl) ?_
        refine lv_aload_n hx hb dX8_takePerson_162 rfl (lv_at hl 1 rfl) ?_
        refine va_get (D := G.1) (ci := 8) (v := .ref m6) (C := RX8) (T := TX8) (N := 29) hx hb hts hinX8 hown hKK.1 hP 0 rfl rfl 5 (by decide) kl27 (fun _ h9 => h9) rfl dX8_takePerson_163 ?_
        refine lv_iload_n hx hb dX8_takePerson_166 rfl (lv_at hl 0 rfl) ?_
        obtain ⟨hin, hv⟩ := hv
        refine va_iald hx hb hKK.1 hP 6 0 rfl rfl hin dX8_takePerson_167 ?_
        refine lv_if_lt (tgt := 175) hx hb dX8_takePerson_168 (by decide) (fun hc_74 => ?_) (fun hc_74 => ?_)
        · have hv := hv.1 hc_74
          refine lv_iconst (v := 0) hx hb dX8_takePerson_175 (by decide) ?_
          exact K_73 _ _ _ _ hv hP hD hS hl
        · have hv := hv.2 hc_74
          refine lv_iconst (v := 1) hx hb dX8_takePerson_171 (by decide) ?_
          refine lv_goto (tgt := 176) hx hb dX8_takePerson_172 (by decide) ?_
          exact K_73 _ _ _ _ hv hP hD hS hl
      refine lv_aload_n hx hb dX8_takePerson_44 rfl (lv_at hl 1 rfl) ?_
      refine lv_iconst (v := 5) hx hb dX8_takePerson_45 (by decide) ?_
      refine lv_bipush (v := 112) hx hb dX8_takePerson_46 (by decide) ?_
      refine lv_bipush (v := 108) hx hb dX8_takePerson_48 (by decide) ?_
      refine lv_bipush (v := 97) hx hb dX8_takePerson_50 (by decide) ?_
      refine lv_bipush (v := 105) hx hb dX8_takePerson_52 (by decide) ?_
      refine lv_bipush (v := 110) hx hb dX8_takePerson_54 (by decide) ?_
      refine lv_iconst (v := 0) hx hb dX8_takePerson_56 (by decide) ?_
      obtain ⟨hp, hv⟩ := hv
      refine x_calliR (x_runV (As := [.int 5, .int 112, .int 108, .int 97, .int 105, .int 110, .int 0]) (rest := [.int y_52, .ref m6]) (n := 7) (C := RX8) (ci := 8) ⟨hx, hb, hml, hown, hts⟩ (k_X8_isWord l G m0 m1 m2 m3 m4 m5 m6 m7 m8 m9 m10 m11 m12 m13 m14 _ mw ik zs cl hs ks wa ne mn tx th od bk bh fu fd fi nu nw nf bf bn ts ap2_54 fs2_55 ln2_56 fo2_49 fa2_50 wr 5 112 108 97 105 110 0 hp) gX8_takePerson_X8_isWord rfl (by decide +kernel) ⟨Nat.le_trans (Nat.le_of_ble_eq_true rfl) hRf, Nat.le_trans (Nat.le_of_ble_eq_true rfl) hRl⟩ hKK hSS hS hA hP hD [0, 1, 2, 3, 4, 5, 6, 7, 8, 9, 10, 11, 12, 13, 14] (by decide) rfl rfl rfl 0 rfl rfl hl.1 rfl (Nat.le_of_ble_eq_true rfl) dX8_takePerson_57) hP hD hS hA [0, 1, 2, 3, 4, 5, 6, 7, 8, 9, 10, 11, 12, 13, 14] rfl (fun r_60 _ H locs hw hP hS => ?_)
      have hv := hv r_60 hw
      refine lv_if_eq (tgt := 67) hx hb dX8_takePerson_60 (by decide) (fun hc_61 => ?_) (fun hc_61 => ?_)
      · have hv := hv.1 hc_61
        refine lv_aload_n hx hb dX8_takePerson_67 rfl (lv_at hl 1 rfl) ?_
        refine lv_iconst (v := 3) hx hb dX8_takePerson_68 (by decide) ?_
        refine lv_bipush (v := 102) hx hb dX8_takePerson_69 (by decide) ?_
        refine lv_bipush (v := 97) hx hb dX8_takePerson_71 (by decide) ?_
        refine lv_bipush (v := 116) hx hb dX8_takePerson_73 (by decide) ?_
        refine lv_iconst (v := 0) hx hb dX8_takePerson_75 (by decide) ?_
        refine lv_iconst (v := 0) hx hb dX8_takePerson_76 (by decide) ?_
        refine lv_iconst (v := 0) hx hb dX8_takePerson_77 (by decide) ?_
        obtain ⟨hp, hv⟩ := hv
        refine x_calliR (x_runV (As := [.int 3, .int 102, .int 97, .int 116, .int 0, .int 0, .int 0]) (rest := [.int y_52, .ref m6]) (n := 7) (C := RX8) (ci := 8) ⟨hx, hb, hml, hown, hts⟩ (k_X8_isWord l G m0 m1 m2 m3 m4 m5 m6 m7 m8 m9 m10 m11 m12 m13 m14 _ mw ik zs cl hs ks wa ne mn tx th od bk bh fu fd fi nu nw nf bf bn ts ap2_54 fs2_55 ln2_56 fo2_49 fa2_50 wr 3 102 97 116 0 0 0 hp) gX8_takePerson_X8_isWord rfl (by decide +kernel) ⟨Nat.le_trans (Nat.le_of_ble_eq_true rfl) hRf, Nat.le_trans (Nat.le_of_ble_eq_true rfl) hRl⟩ hKK hSS hS hA hP hD [0, 1, 2, 3, 4, 5, 6, 7, 8, 9, 10, 11, 12, 13, 14] (by decide) rfl rfl rfl 0 rfl rfl hl.1 rfl (Nat.le_of_ble_eq_true rfl) dX8_takePerson_78) hP hD hS hA [0, 1, 2, 3, 4, 5, 6, 7, 8, 9, 10, 11, 12, 13, 14] rfl (fun r_62 _ H locs hw hP hS => ?_)
        have hv := hv r_62 hw
        refine lv_if_eq (tgt := 88) hx hb dX8_takePerson_81 (by decide) (fun hc_63 => ?_) (fun hc_63 => ?_)
        · have hv := hv.1 hc_63
          refine lv_aload_n hx hb dX8_takePerson_88 rfl (lv_at hl 1 rfl) ?_
          refine lv_iconst (v := 5) hx hb dX8_takePerson_89 (by decide) ?_
          refine lv_bipush (v := 109) hx hb dX8_takePerson_90 (by decide) ?_
          refine lv_bipush (v := 105) hx hb dX8_takePerson_92 (by decide) ?_
          refine lv_bipush (v := 115) hx hb dX8_takePerson_94 (by decide) ?_
          refine lv_bipush (v := 101) hx hb dX8_takePerson_96 (by decide) ?_
          refine lv_bipush (v := 114) hx hb dX8_takePerson_98 (by decide) ?_
          refine lv_iconst (v := 0) hx hb dX8_takePerson_100 (by decide) ?_
          obtain ⟨hp, hv⟩ := hv
          refine x_calliR (x_runV (As := [.int 5, .int 109, .int 105, .int 115, .int 101, .int 114, .int 0]) (rest := [.int y_52, .ref m6]) (n := 7) (C := RX8) (ci := 8) ⟨hx, hb, hml, hown, hts⟩ (k_X8_isWord l G m0 m1 m2 m3 m4 m5 m6 m7 m8 m9 m10 m11 m12 m13 m14 _ mw ik zs cl hs ks wa ne mn tx th od bk bh fu fd fi nu nw nf bf bn ts ap2_54 fs2_55 ln2_56 fo2_49 fa2_50 wr 5 109 105 115 101 114 0 hp) gX8_takePerson_X8_isWord rfl (by decide +kernel) ⟨Nat.le_trans (Nat.le_of_ble_eq_true rfl) hRf, Nat.le_trans (Nat.le_of_ble_eq_true rfl) hRl⟩ hKK hSS hS hA hP hD [0, 1, 2, 3, 4, 5, 6, 7, 8, 9, 10, 11, 12, 13, 14] (by decide) rfl rfl rfl 0 rfl rfl hl.1 rfl (Nat.le_of_ble_eq_true rfl) dX8_takePerson_101) hP hD hS hA [0, 1, 2, 3, 4, 5, 6, 7, 8, 9, 10, 11, 12, 13, 14] rfl (fun r_64 _ H locs hw hP hS => ?_)
          have hv := hv r_64 hw
          refine lv_if_eq (tgt := 111) hx hb dX8_takePerson_104 (by decide) (fun hc_65 => ?_) (fun hc_65 => ?_)
          · have hv := hv.1 hc_65
            refine lv_aload_n hx hb dX8_takePerson_111 rfl (lv_at hl 1 rfl) ?_
            refine lv_iconst (v := 5) hx hb dX8_takePerson_112 (by decide) ?_
            refine lv_bipush (v := 100) hx hb dX8_takePerson_113 (by decide) ?_
            refine lv_bipush (v := 114) hx hb dX8_takePerson_115 (by decide) ?_
            refine lv_bipush (v := 97) hx hb dX8_takePerson_117 (by decide) ?_
            refine lv_bipush (v := 105) hx hb dX8_takePerson_119 (by decide) ?_
            refine lv_bipush (v := 110) hx hb dX8_takePerson_121 (by decide) ?_
            refine lv_iconst (v := 0) hx hb dX8_takePerson_123 (by decide) ?_
            obtain ⟨hp, hv⟩ := hv
            refine x_calliR (x_runV (As := [.int 5, .int 100, .int 114, .int 97, .int 105, .int 110, .int 0]) (rest := [.int y_52, .ref m6]) (n := 7) (C := RX8) (ci := 8) ⟨hx, hb, hml, hown, hts⟩ (k_X8_isWord l G m0 m1 m2 m3 m4 m5 m6 m7 m8 m9 m10 m11 m12 m13 m14 _ mw ik zs cl hs ks wa ne mn tx th od bk bh fu fd fi nu nw nf bf bn ts ap2_54 fs2_55 ln2_56 fo2_49 fa2_50 wr 5 100 114 97 105 110 0 hp) gX8_takePerson_X8_isWord rfl (by decide +kernel) ⟨Nat.le_trans (Nat.le_of_ble_eq_true rfl) hRf, Nat.le_trans (Nat.le_of_ble_eq_true rfl) hRl⟩ hKK hSS hS hA hP hD [0, 1, 2, 3, 4, 5, 6, 7, 8, 9, 10, 11, 12, 13, 14] (by decide) rfl rfl rfl 0 rfl rfl hl.1 rfl (Nat.le_of_ble_eq_true rfl) dX8_takePerson_124) hP hD hS hA [0, 1, 2, 3, 4, 5, 6, 7, 8, 9, 10, 11, 12, 13, 14] rfl (fun r_66 _ H locs hw hP hS => ?_)
            have hv := hv r_66 hw
            refine lv_if_eq (tgt := 134) hx hb dX8_takePerson_127 (by decide) (fun hc_67 => ?_) (fun hc_67 => ?_)
            · have hv := hv.1 hc_67
              refine lv_aload_n hx hb dX8_takePerson_134 rfl (lv_at hl 1 rfl) ?_
              refine lv_bipush (v := 6) hx hb dX8_takePerson_135 (by decide) ?_
              refine lv_bipush (v := 98) hx hb dX8_takePerson_137 (by decide) ?_
              refine lv_bipush (v := 101) hx hb dX8_takePerson_139 (by decide) ?_
              refine lv_bipush (v := 103) hx hb dX8_takePerson_141 (by decide) ?_
              refine lv_bipush (v := 103) hx hb dX8_takePerson_143 (by decide) ?_
              refine lv_bipush (v := 97) hx hb dX8_takePerson_145 (by decide) ?_
              refine lv_bipush (v := 114) hx hb dX8_takePerson_147 (by decide) ?_
              obtain ⟨hp, hv⟩ := hv
              refine x_calliR (x_runV (As := [.int 6, .int 98, .int 101, .int 103, .int 103, .int 97, .int 114]) (rest := [.int y_52, .ref m6]) (n := 7) (C := RX8) (ci := 8) ⟨hx, hb, hml, hown, hts⟩ (k_X8_isWord l G m0 m1 m2 m3 m4 m5 m6 m7 m8 m9 m10 m11 m12 m13 m14 _ mw ik zs cl hs ks wa ne mn tx th od bk bh fu fd fi nu nw nf bf bn ts ap2_54 fs2_55 ln2_56 fo2_49 fa2_50 wr 6 98 101 103 103 97 114 hp) gX8_takePerson_X8_isWord rfl (by decide +kernel) ⟨Nat.le_trans (Nat.le_of_ble_eq_true rfl) hRf, Nat.le_trans (Nat.le_of_ble_eq_true rfl) hRl⟩ hKK hSS hS hA hP hD [0, 1, 2, 3, 4, 5, 6, 7, 8, 9, 10, 11, 12, 13, 14] (by decide) rfl rfl rfl 0 rfl rfl hl.1 rfl (Nat.le_of_ble_eq_true rfl) dX8_takePerson_149) hP hD hS hA [0, 1, 2, 3, 4, 5, 6, 7, 8, 9, 10, 11, 12, 13, 14] rfl (fun r_68 _ H locs hw hP hS => ?_)
              have hv := hv r_68 hw
              refine lv_if_eq (tgt := 159) hx hb dX8_takePerson_152 (by decide) (fun hc_69 => ?_) (fun hc_69 => ?_)
              · have hv := hv.1 hc_69
                refine lv_iconst (v := (-1)) hx hb dX8_takePerson_159 (by decide) ?_
                exact K_59 _ _ _ _ hv hP hD hS hl
              · have hv := hv.2 hc_69
                refine lv_iconst (v := 4) hx hb dX8_takePerson_155 (by decide) ?_
                refine lv_goto (tgt := 160) hx hb dX8_takePerson_156 (by decide) ?_
                exact K_59 _ _ _ _ hv hP hD hS hl
            · have hv := hv.2 hc_67
              refine lv_iconst (v := 3) hx hb dX8_takePerson_130 (by decide) ?_
              refine lv_goto (tgt := 160) hx hb dX8_takePerson_131 (by decide) ?_
              exact K_59 _ _ _ _ hv hP hD hS hl
          · have hv := hv.2 hc_65
            refine lv_iconst (v := 2) hx hb dX8_takePerson_107 (by decide) ?_
            refine lv_goto (tgt := 160) hx hb dX8_takePerson_108 (by decide) ?_
            exact K_59 _ _ _ _ hv hP hD hS hl
        · have hv := hv.2 hc_63
          refine lv_iconst (v := 1) hx hb dX8_takePerson_84 (by decide) ?_
          refine lv_goto (tgt := 160) hx hb dX8_takePerson_85 (by decide) ?_
          exact K_59 _ _ _ _ hv hP hD hS hl
      · have hv := hv.2 hc_61
        refine lv_iconst (v := 0) hx hb dX8_takePerson_63 (by decide) ?_
        refine lv_goto (tgt := 160) hx hb dX8_takePerson_64 (by decide) ?_
        exact K_59 _ _ _ _ hv hP hD hS hl
theorem k_X8_takePerson (l : Launch) (G : Gt) (m0 m1 m2 m3 m4 m5 m6 m7 m8 m9 m10 m11 m12 m13 m14 : Nat) (sz : Nat) (mw : Nat → Int64) (ik : Nat → Int32) (zs : Nat → Int32) (cl : Nat → Int32) (hs : Nat → Int32) (ks : Nat → Int32) (wa : Nat → Int32) (ne : Nat → Int32) (mn : Nat → Int32) (tx : Nat → Int32) (th : Nat → Int32) (od : Nat → Int32) (bk : Nat → Int32) (bh : Nat → Int32) (fu : Int32) (fd : Int32) (fi : Int32) (nu : Int32) (nw : Int32) (nf : Int32) (bf : Int32) (bn : Int32) (ts : Int32) (ap : Int32) (fs : Int32) (ln : Int32) (fo : Int32) (fa : Int32) (wr : Int32) (x : Int32) (hp : True) : MetV l yX8_takePerson wsX8_takePerson 2 50 G [.ref m0, .int x] [(m0, .inr (8, [.ref m1, .ref m2, .ref m3, .ref m4, .ref m5, .ref m6, .ref m7, .ref m8, .ref m9, .int fu, .int fd, .int fi, .int nu, .int nw, .int nf, .int bf, .int bn, .ref m10, .int ts, .int ap, .int fs, .int ln, .int fo, .int fa, .ref m11, .ref m12, .ref m13, .ref m14, .int wr])), aJ G m1 560 mw, aZ G m2 2 ik, aI G m3 20 zs, aI G m4 20 cl, aI G m5 20 hs, aI G m6 20 ks, aI G m7 20 wa, aI G m8 20 ne, aI G m9 4 mn, aI G m10 400 tx, aI G m11 6 th, aI G m12 6 od, aI G m13 30 bk, aI G m14 30 bh] sz (fun (u : (Nat → Int32) × (Nat → Int32) × (Nat → Int32) × (Nat → Int32) × (Int32) × (Int32) × (Int32) × (Int32) × (Int32)) => True) (fun (u : (Nat → Int32) × (Nat → Int32) × (Nat → Int32) × (Nat → Int32) × (Int32) × (Int32) × (Int32) × (Int32) × (Int32)) => [(m0, .inr (8, [.ref m1, .ref m2, .ref m3, .ref m4, .ref m5, .ref m6, .ref m7, .ref m8, .ref m9, .int fu, .int fd, .int fi, .int nu, .int nw, .int nf, .int bf, .int bn, .ref m10, .int ts, .int u.2.2.2.2.1, .int u.2.2.2.2.2.1, .int u.2.2.2.2.2.2.1, .int u.2.2.2.2.2.2.2.1, .int u.2.2.2.2.2.2.2.2, .ref m11, .ref m12, .ref m13, .ref m14, .int wr])), aJ G m1 560 mw, aZ G m2 2 ik, aI G m3 20 zs, aI G m4 20 cl, aI G m5 20 hs, aI G m6 20 u.1, aI G m7 20 u.2.1, aI G m8 20 u.2.2.1, aI G m9 4 u.2.2.2.1, aI G m10 400 tx, aI G m11 6 th, aI G m12 6 od, aI G m13 30 bk, aI G m14 30 bh]) :=
  c_X8_takePerson l G m0 m1 m2 m3 m4 m5 m6 m7 m8 m9 m10 m11 m12 m13 m14 sz mw ik zs cl hs ks wa ne mn tx th od bk bh fu fd fi nu nw nf bf bn ts ap fs ln fo fa wr x (by
    sorry)

set_option maxHeartbeats 4000000 in
set_option maxRecDepth 100000 in
theorem c_X8_takeClause (l : Launch) (G : Gt) (m0 m1 m2 m3 m4 m5 m6 m7 m8 m9 m10 m11 m12 m13 m14 : Nat) (sz : Nat) (mw : Nat → Int64) (ik : Nat → Int32) (zs : Nat → Int32) (cl : Nat → Int32) (hs : Nat → Int32) (ks : Nat → Int32) (wa : Nat → Int32) (ne : Nat → Int32) (mn : Nat → Int32) (tx : Nat → Int32) (th : Nat → Int32) (od : Nat → Int32) (bk : Nat → Int32) (bh : Nat → Int32) (fu : Int32) (fd : Int32) (fi : Int32) (nu : Int32) (nw : Int32) (nf : Int32) (bf : Int32) (bn : Int32) (ts : Int32) (ap : Int32) (fs : Int32) (ln : Int32) (fo : Int32) (fa : Int32) (wr : Int32) (hv : (True) ∧ (∀ (ap2_2 : Int32) (fs2_3 : Int32) (ln2_4 : Int32), (True) → (∃ (J196_22 : (Nat → Int32) → (Nat → Int32) → (Nat → Int32) → (Nat → Int32) → (Nat → Int32) → (Nat → Int32) → (Nat → Int32) → Int32 → Int32 → Int32 → Int32 → Int32 → Int32 → Int32 → Int32 → Int32 → Int32 → Prop), ((True) ∧ (∀ (r_24 : Int32), (True) → ((r_24 = 0 → (True) ∧ (∀ (r_26 : Int32), (True) → ((r_26 = 0 → (True) ∧ (∀ (r_28 : Int32), (True) → ((r_28 = 0 → (True) ∧ (∀ (r_30 : Int32), (True) → ((True) ∧ (∀ (r_31 : Int32) (fo2_32 : Int32) (fa2_33 : Int32), (True) → ((r_31 = 0 → J196_22 zs cl hs ks wa ne mn nu nw nf bf bn ap2_2 fs2_3 ln2_4 fo2_32 fa2_33) ∧ (¬ (r_31 = 0) → (¬ bn = 0 → (True) ∧ (∀ (r_36 : Int32) (fo2_37 : Int32) (fa2_38 : Int32), (True) → ((r_36 = 0 → J196_22 zs cl hs ks wa ne mn nu nw nf bf bn ap2_2 fs2_3 ln2_4 fo2_37 fa2_38) ∧ (¬ (r_36 = 0) → (True) ∧ (∀ (r_40 : Int32) (ap2_41 : Int32) (fs2_42 : Int32) (fo2_43 : Int32) (fa2_44 : Int32), (True) → (J196_22 zs cl hs ks wa ne mn nu nw r_40 bf 1 ap2_41 fs2_42 ln2_4 fo2_43 fa2_44)))))) ∧ (bn = 0 → (True) ∧ (∀ (r_45 : Int32) (fo2_46 : Int32) (fa2_47 : Int32), (True) → ((r_45 = 0 → J196_22 zs cl hs ks wa ne mn nu nw nf bf bn ap2_2 fs2_3 ln2_4 fo2_46 fa2_47) ∧ (¬ (r_45 = 0) → (True) ∧ (∀ (r_49 : Int32) (ap2_50 : Int32) (fs2_51 : Int32) (fo2_52 : Int32) (fa2_53 : Int32), (True) → (J196_22 zs cl hs ks wa ne mn nu nw r_49 bf 1 ap2_50 fs2_51 ln2_4 fo2_52 fa2_53)))))))))))) ∧ (¬ (r_28 = 0) → (¬ bf = 0 → (True) ∧ (∀ (r_55 : Int32) (fo2_56 : Int32) (fa2_57 : Int32), (True) → ((r_55 = 0 → J196_22 zs cl hs ks wa ne mn nu nw nf bf bn ap2_2 fs2_3 ln2_4 fo2_56 fa2_57) ∧ (¬ (r_55 = 0) → (True) ∧ (∀ (r_59 : Int32) (ap2_60 : Int32) (fs2_61 : Int32) (fo2_62 : Int32) (fa2_63 : Int32), (True) → ((True) ∧ (∀ (r_64 : Int32) (ap2_65 : Int32) (fs2_66 : Int32) (fo2_67 : Int32) (fa2_68 : Int32), (True) → (J196_22 zs cl hs ks wa ne mn r_59 r_64 nf 1 bn ap2_65 fs2_66 ln2_4 fo2_67 fa2_68)))))))) ∧ (bf = 0 → (True) ∧ (∀ (r_69 : Int32) (fo2_70 : Int32) (fa2_71 : Int32), (True) → ((r_69 = 0 → J196_22 zs cl hs ks wa ne mn nu nw nf bf bn ap2_2 fs2_3 ln2_4 fo2_70 fa2_71) ∧ (¬ (r_69 = 0) → (True) ∧ (∀ (r_73 : Int32) (ap2_74 : Int32) (fs2_75 : Int32) (fo2_76 : Int32) (fa2_77 : Int32), (True) → ((True) ∧ (∀ (r_78 : Int32) (ap2_79 : Int32) (fs2_80 : Int32) (fo2_81 : Int32) (fa2_82 : Int32), (True) → (J196_22 zs cl hs ks wa ne mn r_73 r_78 nf 1 bn ap2_79 fs2_80 ln2_4 fo2_81 fa2_82)))))))))))) ∧ (¬ (r_26 = 0) → (True) ∧ (∀ (ks2_84 : Nat → Int32) (wa2_85 : Nat → Int32) (ne2_86 : Nat → Int32) (mn2_87 : Nat → Int32) (ap2_88 : Int32) (fs2_89 : Int32) (ln2_90 : Int32) (fo2_91 : Int32) (fa2_92 : Int32), (True) → (J196_22 zs cl hs ks2_84 wa2_85 ne2_86 mn2_87 nu nw nf bf bn ap2_88 fs2_89 ln2_90 fo2_91 fa2_92)))))) ∧ (¬ (r_24 = 0) → (True) ∧ (∀ (zs2_94 : Nat → Int32) (cl2_95 : Nat → Int32) (hs2_96 : Nat → Int32) (mn2_97 : Nat → Int32) (ap2_98 : Int32) (fs2_99 : Int32) (fo2_100 : Int32) (fa2_101 : Int32), (True) → (J196_22 zs2_94 cl2_95 hs2_96 ks wa ne mn2_97 nu nw nf bf bn ap2_98 fs2_99 ln2_4 fo2_100 fa2_101)))))) ∧ (∀ (fm3_5 : (Nat → Int32)) (fm4_6 : (Nat → Int32)) (fm5_7 : (Nat → Int32)) (fm6_8 : (Nat → Int32)) (fm7_9 : (Nat → Int32)) (fm8_10 : (Nat → Int32)) (fm9_11 : (Nat → Int32)) (gm012_12 : Int32) (gm013_13 : Int32) (gm014_14 : Int32) (gm015_15 : Int32) (gm016_16 : Int32) (gm019_17 : Int32) (gm020_18 : Int32) (gm021_19 : Int32) (gm022_20 : Int32) (gm023_21 : Int32), J196_22 fm3_5 fm4_6 fm5_7 fm6_8 fm7_9 fm8_10 fm9_11 gm012_12 gm013_13 gm014_14 gm015_15 gm016_16 gm019_17 gm020_18 gm021_19 gm022_20 gm023_21 → (¬ gm022_20 = 0 → True) ∧ (gm022_20 = 0 → (True) ∧ (∀ (r_103 : Int32) (ap2_104 : Int32), (True) → ((¬ r_103 = 59 → (True) ∧ (∀ (r_106 : Int32) (fo2_107 : Int32) (fa2_108 : Int32), (True) → ((r_106 = 0 → True) ∧ (¬ (r_106 = 0) → True)))) ∧ (r_103 = 59 → (True) ∧ (∀ (r_110 : Int32) (fo2_111 : Int32) (fa2_112 : Int32), (True) → ((r_110 = 0 → True) ∧ (¬ (r_110 = 0) → True))))))))))) : MetV l yX8_takeClause wsX8_takeClause 3 73 G [.ref m0] [(m0, .inr (8, [.ref m1, .ref m2, .ref m3, .ref m4, .ref m5, .ref m6, .ref m7, .ref m8, .ref m9, .int fu, .int fd, .int fi, .int nu, .int nw, .int nf, .int bf, .int bn, .ref m10, .int ts, .int ap, .int fs, .int ln, .int fo, .int fa, .ref m11, .ref m12, .ref m13, .ref m14, .int wr])), aJ G m1 560 mw, aZ G m2 2 ik, aI G m3 20 zs, aI G m4 20 cl, aI G m5 20 hs, aI G m6 20 ks, aI G m7 20 wa, aI G m8 20 ne, aI G m9 4 mn, aI G m10 400 tx, aI G m11 6 th, aI G m12 6 od, aI G m13 30 bk, aI G m14 30 bh] sz (fun (u : (Nat → Int32) × (Nat → Int32) × (Nat → Int32) × (Nat → Int32) × (Nat → Int32) × (Nat → Int32) × (Nat → Int32) × (Int32) × (Int32) × (Int32) × (Int32) × (Int32) × (Int32) × (Int32) × (Int32) × (Int32) × (Int32)) => True) (fun (u : (Nat → Int32) × (Nat → Int32) × (Nat → Int32) × (Nat → Int32) × (Nat → Int32) × (Nat → Int32) × (Nat → Int32) × (Int32) × (Int32) × (Int32) × (Int32) × (Int32) × (Int32) × (Int32) × (Int32) × (Int32) × (Int32)) => [(m0, .inr (8, [.ref m1, .ref m2, .ref m3, .ref m4, .ref m5, .ref m6, .ref m7, .ref m8, .ref m9, .int fu, .int fd, .int fi, .int u.2.2.2.2.2.2.2.2.2.2.2.2.2.2.1, .int u.2.2.2.2.2.2.2.2.2.2.2.2.2.2.2.1, .int u.2.2.2.2.2.2.2.2.2.2.2.2.2.2.2.2, .int u.2.2.2.2.2.2.2.2.2.2.2.2.1, .int u.2.2.2.2.2.2.2.2.2.2.2.2.2.1, .ref m10, .int ts, .int u.2.2.2.2.2.2.2.1, .int u.2.2.2.2.2.2.2.2.1, .int u.2.2.2.2.2.2.2.2.2.1, .int u.2.2.2.2.2.2.2.2.2.2.1, .int u.2.2.2.2.2.2.2.2.2.2.2.1, .ref m11, .ref m12, .ref m13, .ref m14, .int wr])), aJ G m1 560 mw, aZ G m2 2 ik, aI G m3 20 u.1, aI G m4 20 u.2.1, aI G m5 20 u.2.2.1, aI G m6 20 u.2.2.2.1, aI G m7 20 u.2.2.2.2.1, aI G m8 20 u.2.2.2.2.2.1, aI G m9 4 u.2.2.2.2.2.2.1, aI G m10 400 tx, aI G m11 6 th, aI G m12 6 od, aI G m13 30 bk, aI G m14 30 bh]) := by
  refine x_startV (cc := cX8_takeClause) (maxL := 2) (ret := none) (by decide) rfl (Nat.le_of_ble_eq_true rfl) ?_
  intro p e s m args below meth c A R Q ls hRf hRl hQ C hP hD hS hA hSS hl
  obtain ⟨hx, hb, hr, hml, hown, hts, hlocks, hKK⟩ := C
  have hown : s.vm.findClass RX8 = some m.cls := hown
  have hl : lv_has ls 2 [(0, .ref m0)] := hl
  have hinX8 : ∀ w ∈ u_ws RX8 TX8 29, w ∈ wsX8_takeClause := by decide +kernel
  have kl127 := hts (.fieldLink RX8 127 "WarmStonesModel" "isFrost" "Z") (by decide +kernel)
  have kl131 := hts (.fieldLink RX8 131 "WarmStonesModel" "newUp" "I") (by decide +kernel)
  have kl134 := hts (.fieldLink RX8 134 "WarmStonesModel" "newDown" "I") (by decide +kernel)
  have kl137 := hts (.fieldLink RX8 137 "WarmStonesModel" "isFine" "Z") (by decide +kernel)
  have kl140 := hts (.fieldLink RX8 140 "WarmStonesModel" "newFine" "I") (by decide +kernel)
  have kl80 := hts (.fieldLink RX8 80 "WarmStonesModel" "at" "I") (by decide +kernel)
  have kl83 := hts (.fieldLink RX8 83 "WarmStonesModel" "faultOf" "I") (by decide +kernel)
  have kl90 := hts (.fieldLink RX8 90 "WarmStonesModel" "first" "I") (by decide +kernel)
  refine lv_aload_n hx hb dX8_takeClause_0 rfl (lv_at hl 0 rfl) ?_
  obtain ⟨hp, hv⟩ := hv
  refine x_callv (wr := []) (w' := fun (u : (Int32) × (Int32) × (Int32)) => [(m0, .inr (8, [.ref m1, .ref m2, .ref m3, .ref m4, .ref m5, .ref m6, .ref m7, .ref m8, .ref m9, .int fu, .int fd, .int fi, .int nu, .int nw, .int nf, .int bf, .int bn, .ref m10, .int ts, .int u.1, .int u.2.1, .int u.2.2, .int fo, .int fa, .ref m11, .ref m12, .ref m13, .ref m14, .int wr])), aJ G m1 560 mw, aZ G m2 2 ik, aI G m3 20 zs, aI G m4 20 cl, aI G m5 20 hs, aI G m6 20 ks, aI G m7 20 wa, aI G m8 20 ne, aI G m9 4 mn, aI G m10 400 tx, aI G m11 6 th, aI G m12 6 od, aI G m13 30 bk, aI G m14 30 bh]) (x_runV (As := []) (rest := []) (n := 0) (C := RX8) (ci := 8) ⟨hx, hb, hml, hown, hts⟩ (k_X8_takeWord l G m0 m1 m2 m3 m4 m5 m6 m7 m8 m9 m10 m11 m12 m13 m14 _ mw ik zs cl hs ks wa ne mn tx th od bk bh fu fd fi nu nw nf bf bn ts ap fs ln fo fa wr hp) gX8_takeClause_X8_takeWord rfl (by decide +kernel) ⟨Nat.le_trans (Nat.le_of_ble_eq_true rfl) hRf, Nat.le_trans (Nat.le_of_ble_eq_true rfl) hRl⟩ hKK hSS hS hA hP hD [0, 1, 2, 3, 4, 5, 6, 7, 8, 9, 10, 11, 12, 13, 14] (by decide) rfl rfl rfl 0 rfl rfl hl.1 rfl (Nat.le_of_ble_eq_true rfl) dX8_takeClause_1) hP hD hS hA [0, 1, 2, 3, 4, 5, 6, 7, 8, 9, 10, 11, 12, 13, 14] [] [0, 1, 2, 3, 4, 5, 6, 7, 8, 9, 10, 11, 12, 13, 14] rfl rfl (by decide) (by decide) (by decide) (fun _ => rfl) (fun  u H locs hw hP hD hS => ?_)
  obtain ⟨ap2_2, fs2_3, ln2_4⟩ := u
  have hP : va_P G.1 vwCl [(m0, .inr (8, [.ref m1, .ref m2, .ref m3, .ref m4, .ref m5, .ref m6, .ref m7, .ref m8, .ref m9, .int fu, .int fd, .int fi, .int nu, .int nw, .int nf, .int bf, .int bn, .ref m10, .int ts, .int ap2_2, .int fs2_3, .int ln2_4, .int fo, .int fa, .ref m11, .ref m12, .ref m13, .ref m14, .int wr])), aJ G m1 560 mw, aZ G m2 2 ik, aI G m3 20 zs, aI G m4 20 cl, aI G m5 20 hs, aI G m6 20 ks, aI G m7 20 wa, aI G m8 20 ne, aI G m9 4 mn, aI G m10 400 tx, aI G m11 6 th, aI G m12 6 od, aI G m13 30 bk, aI G m14 30 bh] H := hP
  have hD : va_D A [(m0, .inr (8, [.ref m1, .ref m2, .ref m3, .ref m4, .ref m5, .ref m6, .ref m7, .ref m8, .ref m9, .int fu, .int fd, .int fi, .int nu, .int nw, .int nf, .int bf, .int bn, .ref m10, .int ts, .int ap2_2, .int fs2_3, .int ln2_4, .int fo, .int fa, .ref m11, .ref m12, .ref m13, .ref m14, .int wr])), aJ G m1 560 mw, aZ G m2 2 ik, aI G m3 20 zs, aI G m4 20 cl, aI G m5 20 hs, aI G m6 20 ks, aI G m7 20 wa, aI G m8 20 ne, aI G m9 4 mn, aI G m10 400 tx, aI G m11 6 th, aI G m12 6 od, aI G m13 30 bk, aI G m14 30 bh] := hD
  have hv := hv ap2_2 fs2_3 ln2_4 hw
  refine lv_aload_n hx hb dX8_takeClause_4 rfl (lv_at hl 0 rfl) ?_
  refine va_get (D := G.1) (ci := 8) (v := .int fs2_3) (C := RX8) (T := TX8) (N := 29) hx hb hts hinX8 hown hKK.1 hP 0 rfl rfl 20 (by decide) kl90 (fun _ h9 => h9) rfl dX8_takeClause_5 ?_
  refine lv_istore_n (lv' := [(1, .int fs2_3), (0, .ref m0)]) hx hb dX8_takeClause_8 rfl hl (by decide) rfl (fun ls hl => ?_)
  obtain ⟨J196_22, hv, hj_114⟩ := hv
  have K_23 : ∀ (fm3_5 : (Nat → Int32)) (fm4_6 : (Nat → Int32)) (fm5_7 : (Nat → Int32)) (fm6_8 : (Nat → Int32)) (fm7_9 : (Nat → Int32)) (fm8_10 : (Nat → Int32)) (fm9_11 : (Nat → Int32)) (gm012_12 : Int32) (gm013_13 : Int32) (gm014_14 : Int32) (gm015_15 : Int32) (gm016_16 : Int32) (gm019_17 : Int32) (gm020_18 : Int32) (gm021_19 : Int32) (gm022_20 : Int32) (gm023_21 : Int32) (H : Heap) (locs : List Loc) (ls : Array Slot), J196_22 fm3_5 fm4_6 fm5_7 fm6_8 fm7_9 fm8_10 fm9_11 gm012_12 gm013_13 gm014_14 gm015_15 gm016_16 gm019_17 gm020_18 gm021_19 gm022_20 gm023_21 → va_P G.1 vwCl [(m0, .inr (8, [.ref m1, .ref m2, .ref m3, .ref m4, .ref m5, .ref m6, .ref m7, .ref m8, .ref m9, .int fu, .int fd, .int fi, .int gm012_12, .int gm013_13, .int gm014_14, .int gm015_15, .int gm016_16, .ref m10, .int ts, .int gm019_17, .int gm020_18, .int gm021_19, .int gm022_20, .int gm023_21, .ref m11, .ref m12, .ref m13, .ref m14, .int wr])), aJ G m1 560 mw, aZ G m2 2 ik, aI G m3 20 fm3_5, aI G m4 20 fm4_6, aI G m5 20 fm5_7, aI G m6 20 fm6_8, aI G m7 20 fm7_9, aI G m8 20 fm8_10, aI G m9 4 fm9_11, aI G m10 400 tx, aI G m11 6 th, aI G m12 6 od, aI G m13 30 bk, aI G m14 30 bh] H → va_D A [(m0, .inr (8, [.ref m1, .ref m2, .ref m3, .ref m4, .ref m5, .ref m6, .ref m7, .ref m8, .ref m9, .int fu, .int fd, .int fi, .int gm012_12, .int gm013_13, .int gm014_14, .int gm015_15, .int gm016_16, .ref m10, .int ts, .int gm019_17, .int gm020_18, .int gm021_19, .int gm022_20, .int gm023_21, .ref m11, .ref m12, .ref m13, .ref m14, .int wr])), aJ G m1 560 mw, aZ G m2 2 ik, aI G m3 20 fm3_5, aI G m4 20 fm4_6, aI G m5 20 fm5_7, aI G m6 20 fm6_8, aI G m7 20 fm7_9, aI G m8 20 fm8_10, aI G m9 4 fm9_11, aI G m10 400 tx, aI G m11 6 th, aI G m12 6 od, aI G m13 30 bk, aI G m14 30 bh] → va_S A s.heap H locs → lv_has ls 2 [(1, .int fs2_3), (0, .ref m0)] → W p l e R s m args below meth c H locs 0 0 Q (F0 m 196 ls []) := by
    intro fm3_5 fm4_6 fm5_7 fm6_8 fm7_9 fm8_10 fm9_11 gm012_12 gm013_13 gm014_14 gm015_15 gm016_16 gm019_17 gm020_18 gm021_19 gm022_20 gm023_21 H locs ls hi hP hD hS hl
    have hv := hj_114 fm3_5 fm4_6 fm5_7 fm6_8 fm7_9 fm8_10 fm9_11 gm012_12 gm013_13 gm014_14 gm015_15 gm016_16 gm019_17 gm020_18 gm021_19 gm022_20 gm023_21 hi
    refine lv_aload_n hx hb dX8_takeClause_196 rfl (lv_at hl 1 rfl) ?_
    refine va_get (D := G.1) (ci := 8) (v := .int gm022_20) (C := RX8) (T := TX8) (N := 29) hx hb hts hinX8 hown hKK.1 hP 0 rfl rfl 22 (by decide) kl83 (fun _ h9 => h9) rfl dX8_takeClause_197 ?_
    refine lv_if_ne (tgt := 239) hx hb dX8_takeClause_200 (by decide) (fun hc_102 => ?_) (fun hc_102 => ?_)
    · have hv := hv.1 hc_102
      exact x_vret (fm3_5, fm4_6, fm5_7, fm6_8, fm7_9, fm8_10, fm9_11, gm019_17, gm020_18, gm021_19, gm022_20, gm023_21, gm015_15, gm016_16, gm012_12, gm013_13, gm014_14) hQ hx hb hr hlocks hS dX8_takeClause_239 hv hP hD
    · have hv := hv.2 hc_102
      refine lv_aload_n hx hb dX8_takeClause_203 rfl (lv_at hl 1 rfl) ?_
      refine lv_aload_n hx hb dX8_takeClause_204 rfl (lv_at hl 1 rfl) ?_
      obtain ⟨hp, hv⟩ := hv
      refine x_calli (wr := []) (w' := fun (u : (Int32)) => [(m0, .inr (8, [.ref m1, .ref m2, .ref m3, .ref m4, .ref m5, .ref m6, .ref m7, .ref m8, .ref m9, .int fu, .int fd, .int fi, .int gm012_12, .int gm013_13, .int gm014_14, .int gm015_15, .int gm016_16, .ref m10, .int ts, .int u, .int gm020_18, .int gm021_19, .int gm022_20, .int gm023_21, .ref m11, .ref m12, .ref m13, .ref m14, .int wr])), aJ G m1 560 mw, aZ G m2 2 ik, aI G m3 20 fm3_5, aI G m4 20 fm4_6, aI G m5 20 fm5_7, aI G m6 20 fm6_8, aI G m7 20 fm7_9, aI G m8 20 fm8_10, aI G m9 4 fm9_11, aI G m10 400 tx, aI G m11 6 th, aI G m12 6 od, aI G m13 30 bk, aI G m14 30 bh]) (x_runV (As := []) (rest := [.ref m0]) (n := 0) (C := RX8) (ci := 8) ⟨hx, hb, hml, hown, hts⟩ (k_X8_here l G m0 m1 m2 m3 m4 m5 m6 m7 m8 m9 m10 m11 m12 m13 m14 _ mw ik fm3_5 fm4_6 fm5_7 fm6_8 fm7_9 fm8_10 fm9_11 tx th od bk bh fu fd fi gm012_12 gm013_13 gm014_14 gm015_15 gm016_16 ts gm019_17 gm020_18 gm021_19 gm022_20 gm023_21 wr hp) gX8_takeClause_X8_here rfl (by decide +kernel) ⟨Nat.le_trans (Nat.le_of_ble_eq_true rfl) hRf, Nat.le_trans (Nat.le_of_ble_eq_true rfl) hRl⟩ hKK hSS hS hA hP hD [0, 1, 2, 3, 4, 5, 6, 7, 8, 9, 10, 11, 12, 13, 14] (by decide) rfl rfl rfl 0 rfl rfl hl.1 rfl (Nat.le_of_ble_eq_true rfl) dX8_takeClause_205) hP hD hS hA [0, 1, 2, 3, 4, 5, 6, 7, 8, 9, 10, 11, 12, 13, 14] [] [0, 1, 2, 3, 4, 5, 6, 7, 8, 9, 10, 11, 12, 13, 14] rfl rfl (by decide) (by decide) (by decide) (fun _ => rfl) (fun r_103 u H locs hw hP hD hS => ?_)
      obtain ⟨ap2_104, rfl⟩ : ∃ z9_, z9_ = u := ⟨_, rfl⟩
      have hP : va_P G.1 vwCl [(m0, .inr (8, [.ref m1, .ref m2, .ref m3, .ref m4, .ref m5, .ref m6, .ref m7, .ref m8, .ref m9, .int fu, .int fd, .int fi, .int gm012_12, .int gm013_13, .int gm014_14, .int gm015_15, .int gm016_16, .ref m10, .int ts, .int ap2_104, .int gm020_18, .int gm021_19, .int gm022_20, .int gm023_21, .ref m11, .ref m12, .ref m13, .ref m14, .int wr])), aJ G m1 560 mw, aZ G m2 2 ik, aI G m3 20 fm3_5, aI G m4 20 fm4_6, aI G m5 20 fm5_7, aI G m6 20 fm6_8, aI G m7 20 fm7_9, aI G m8 20 fm8_10, aI G m9 4 fm9_11, aI G m10 400 tx, aI G m11 6 th, aI G m12 6 od, aI G m13 30 bk, aI G m14 30 bh] H := hP
      have hD : va_D A [(m0, .inr (8, [.ref m1, .ref m2, .ref m3, .ref m4, .ref m5, .ref m6, .ref m7, .ref m8, .ref m9, .int fu, .int fd, .int fi, .int gm012_12, .int gm013_13, .int gm014_14, .int gm015_15, .int gm016_16, .ref m10, .int ts, .int ap2_104, .int gm020_18, .int gm021_19, .int gm022_20, .int gm023_21, .ref m11, .ref m12, .ref m13, .ref m14, .int wr])), aJ G m1 560 mw, aZ G m2 2 ik, aI G m3 20 fm3_5, aI G m4 20 fm4_6, aI G m5 20 fm5_7, aI G m6 20 fm6_8, aI G m7 20 fm7_9, aI G m8 20 fm8_10, aI G m9 4 fm9_11, aI G m10 400 tx, aI G m11 6 th, aI G m12 6 od, aI G m13 30 bk, aI G m14 30 bh] := hD
      have hv := hv r_103 ap2_104 hw
      refine lv_bipush (v := 59) hx hb dX8_takeClause_208 (by decide) ?_
      refine lv_icmp_ne (tgt := 217) hx hb dX8_takeClause_210 (by decide) (fun hc_105 => ?_) (fun hc_105 => ?_)
      · have hv := hv.1 hc_105
        refine lv_iconst (v := 0) hx hb dX8_takeClause_217 (by decide) ?_
        refine lv_iconst (v := 1) hx hb dX8_takeClause_218 (by decide) ?_
        refine lv_aload_n hx hb dX8_takeClause_219 rfl (lv_at hl 1 rfl) ?_
        refine va_get (D := G.1) (ci := 8) (v := .int ap2_104) (C := RX8) (T := TX8) (N := 29) hx hb hts hinX8 hown hKK.1 hP 0 rfl rfl 19 (by decide) kl80 (fun _ h9 => h9) rfl dX8_takeClause_220 ?_
        obtain ⟨hp, hv⟩ := hv
        refine x_calli (wr := []) (w' := fun (u : (Int32) × (Int32)) => [(m0, .inr (8, [.ref m1, .ref m2, .ref m3, .ref m4, .ref m5, .ref m6, .ref m7, .ref m8, .ref m9, .int fu, .int fd, .int fi, .int gm012_12, .int gm013_13, .int gm014_14, .int gm015_15, .int gm016_16, .ref m10, .int ts, .int ap2_104, .int gm020_18, .int gm021_19, .int u.1, .int u.2, .ref m11, .ref m12, .ref m13, .ref m14, .int wr])), aJ G m1 560 mw, aZ G m2 2 ik, aI G m3 20 fm3_5, aI G m4 20 fm4_6, aI G m5 20 fm5_7, aI G m6 20 fm6_8, aI G m7 20 fm7_9, aI G m8 20 fm8_10, aI G m9 4 fm9_11, aI G m10 400 tx, aI G m11 6 th, aI G m12 6 od, aI G m13 30 bk, aI G m14 30 bh]) (x_runV (As := [.int 0, .int 1, .int ap2_104]) (rest := []) (n := 3) (C := RX8) (ci := 8) ⟨hx, hb, hml, hown, hts⟩ (k_X8_want l G m0 m1 m2 m3 m4 m5 m6 m7 m8 m9 m10 m11 m12 m13 m14 _ mw ik fm3_5 fm4_6 fm5_7 fm6_8 fm7_9 fm8_10 fm9_11 tx th od bk bh fu fd fi gm012_12 gm013_13 gm014_14 gm015_15 gm016_16 ts ap2_104 gm020_18 gm021_19 gm022_20 gm023_21 wr 0 1 ap2_104 hp) gX8_takeClause_X8_want rfl (by decide +kernel) ⟨Nat.le_trans (Nat.le_of_ble_eq_true rfl) hRf, Nat.le_trans (Nat.le_of_ble_eq_true rfl) hRl⟩ hKK hSS hS hA hP hD [0, 1, 2, 3, 4, 5, 6, 7, 8, 9, 10, 11, 12, 13, 14] (by decide) rfl rfl rfl 0 rfl rfl hl.1 rfl (Nat.le_of_ble_eq_true rfl) dX8_takeClause_223) hP hD hS hA [0, 1, 2, 3, 4, 5, 6, 7, 8, 9, 10, 11, 12, 13, 14] [] [0, 1, 2, 3, 4, 5, 6, 7, 8, 9, 10, 11, 12, 13, 14] rfl rfl (by decide) (by decide) (by decide) (fun _ => rfl) (fun r_106 u H locs hw hP hD hS => ?_)
        obtain ⟨fo2_107, fa2_108⟩ := u
        have hP : va_P G.1 vwCl [(m0, .inr (8, [.ref m1, .ref m2, .ref m3, .ref m4, .ref m5, .ref m6, .ref m7, .ref m8, .ref m9, .int fu, .int fd, .int fi, .int gm012_12, .int gm013_13, .int gm014_14, .int gm015_15, .int gm016_16, .ref m10, .int ts, .int ap2_104, .int gm020_18, .int gm021_19, .int fo2_107, .int fa2_108, .ref m11, .ref m12, .ref m13, .ref m14, .int wr])), aJ G m1 560 mw, aZ G m2 2 ik, aI G m3 20 fm3_5, aI G m4 20 fm4_6, aI G m5 20 fm5_7, aI G m6 20 fm6_8, aI G m7 20 fm7_9, aI G m8 20 fm8_10, aI G m9 4 fm9_11, aI G m10 400 tx, aI G m11 6 th, aI G m12 6 od, aI G m13 30 bk, aI G m14 30 bh] H := hP
        have hD : va_D A [(m0, .inr (8, [.ref m1, .ref m2, .ref m3, .ref m4, .ref m5, .ref m6, .ref m7, .ref m8, .ref m9, .int fu, .int fd, .int fi, .int gm012_12, .int gm013_13, .int gm014_14, .int gm015_15, .int gm016_16, .ref m10, .int ts, .int ap2_104, .int gm020_18, .int gm021_19, .int fo2_107, .int fa2_108, .ref m11, .ref m12, .ref m13, .ref m14, .int wr])), aJ G m1 560 mw, aZ G m2 2 ik, aI G m3 20 fm3_5, aI G m4 20 fm4_6, aI G m5 20 fm5_7, aI G m6 20 fm6_8, aI G m7 20 fm7_9, aI G m8 20 fm8_10, aI G m9 4 fm9_11, aI G m10 400 tx, aI G m11 6 th, aI G m12 6 od, aI G m13 30 bk, aI G m14 30 bh] := hD
        have hv := hv r_106 fo2_107 fa2_108 hw
        refine lv_if_eq (tgt := 239) hx hb dX8_takeClause_226 (by decide) (fun hc_109 => ?_) (fun hc_109 => ?_)
        · have hv := hv.1 hc_109
          exact x_vret (fm3_5, fm4_6, fm5_7, fm6_8, fm7_9, fm8_10, fm9_11, ap2_104, gm020_18, gm021_19, fo2_107, fa2_108, gm015_15, gm016_16, gm012_12, gm013_13, gm014_14) hQ hx hb hr hlocks hS dX8_takeClause_239 hv hP hD
        · have hv := hv.2 hc_109
          refine lv_aload_n hx hb dX8_takeClause_229 rfl (lv_at hl 1 rfl) ?_
          refine lv_dup hx hb dX8_takeClause_230 rfl ?_
          refine va_get (D := G.1) (ci := 8) (v := .int ap2_104) (C := RX8) (T := TX8) (N := 29) hx hb hts hinX8 hown hKK.1 hP 0 rfl rfl 19 (by decide) kl80 (fun _ h9 => h9) rfl dX8_takeClause_231 ?_
          refine lv_iconst (v := 1) hx hb dX8_takeClause_234 (by decide) ?_
          refine lv_iadd hx hb dX8_takeClause_235 ?_
          refine va_put (D := G.1) (ci := 8) (v := .int (ap2_104 + 1)) (ty := .int) (C := RX8) (T := TX8) (N := 29) hx hb hts hinX8 tyX8 tyX8_ok nmX8 hown hKK.1 hP hD hS 0 rfl rfl 19 (by decide) kl80 (fun _ h9 => h9) rfl (by decide +kernel) rfl rfl (Nat.le_of_ble_eq_true rfl) dX8_takeClause_236 (fun H locs hP hD hS => ?_)
          have hP : va_P G.1 vwCl [(m0, .inr (8, [.ref m1, .ref m2, .ref m3, .ref m4, .ref m5, .ref m6, .ref m7, .ref m8, .ref m9, .int fu, .int fd, .int fi, .int gm012_12, .int gm013_13, .int gm014_14, .int gm015_15, .int gm016_16, .ref m10, .int ts, .int (ap2_104 + 1), .int gm020_18, .int gm021_19, .int fo2_107, .int fa2_108, .ref m11, .ref m12, .ref m13, .ref m14, .int wr])), aJ G m1 560 mw, aZ G m2 2 ik, aI G m3 20 fm3_5, aI G m4 20 fm4_6, aI G m5 20 fm5_7, aI G m6 20 fm6_8, aI G m7 20 fm7_9, aI G m8 20 fm8_10, aI G m9 4 fm9_11, aI G m10 400 tx, aI G m11 6 th, aI G m12 6 od, aI G m13 30 bk, aI G m14 30 bh] H := hP
          have hD : va_D A [(m0, .inr (8, [.ref m1, .ref m2, .ref m3, .ref m4, .ref m5, .ref m6, .ref m7, .ref m8, .ref m9, .int fu, .int fd, .int fi, .int gm012_12, .int gm013_13, .int gm014_14, .int gm015_15, .int gm016_16, .ref m10, .int ts, .int (ap2_104 + 1), .int gm020_18, .int gm021_19, .int fo2_107, .int fa2_108, .ref m11, .ref m12, .ref m13, .ref m14, .int wr])), aJ G m1 560 mw, aZ G m2 2 ik, aI G m3 20 fm3_5, aI G m4 20 fm4_6, aI G m5 20 fm5_7, aI G m6 20 fm6_8, aI G m7 20 fm7_9, aI G m8 20 fm8_10, aI G m9 4 fm9_11, aI G m10 400 tx, aI G m11 6 th, aI G m12 6 od, aI G m13 30 bk, aI G m14 30 bh] := hD
          exact x_vret (fm3_5, fm4_6, fm5_7, fm6_8, fm7_9, fm8_10, fm9_11, (ap2_104 + 1), gm020_18, gm021_19, fo2_107, fa2_108, gm015_15, gm016_16, gm012_12, gm013_13, gm014_14) hQ hx hb hr hlocks hS dX8_takeClause_239 hv hP hD
      · have hv := hv.2 hc_105
        refine lv_iconst (v := 1) hx hb dX8_takeClause_213 (by decide) ?_
        refine lv_goto (tgt := 218) hx hb dX8_takeClause_214 (by decide) ?_
        refine lv_iconst (v := 1) hx hb dX8_takeClause_218 (by decide) ?_
        refine lv_aload_n hx hb dX8_takeClause_219 rfl (lv_at hl 1 rfl) ?_
        refine va_get (D := G.1) (ci := 8) (v := .int ap2_104) (C := RX8) (T := TX8) (N := 29) hx hb hts hinX8 hown hKK.1 hP 0 rfl rfl 19 (by decide) kl80 (fun _ h9 => h9) rfl dX8_takeClause_220 ?_
        obtain ⟨hp, hv⟩ := hv
        refine x_calli (wr := []) (w' := fun (u : (Int32) × (Int32)) => [(m0, .inr (8, [.ref m1, .ref m2, .ref m3, .ref m4, .ref m5, .ref m6, .ref m7, .ref m8, .ref m9, .int fu, .int fd, .int fi, .int gm012_12, .int gm013_13, .int gm014_14, .int gm015_15, .int gm016_16, .ref m10, .int ts, .int ap2_104, .int gm020_18, .int gm021_19, .int u.1, .int u.2, .ref m11, .ref m12, .ref m13, .ref m14, .int wr])), aJ G m1 560 mw, aZ G m2 2 ik, aI G m3 20 fm3_5, aI G m4 20 fm4_6, aI G m5 20 fm5_7, aI G m6 20 fm6_8, aI G m7 20 fm7_9, aI G m8 20 fm8_10, aI G m9 4 fm9_11, aI G m10 400 tx, aI G m11 6 th, aI G m12 6 od, aI G m13 30 bk, aI G m14 30 bh]) (x_runV (As := [.int 1, .int 1, .int ap2_104]) (rest := []) (n := 3) (C := RX8) (ci := 8) ⟨hx, hb, hml, hown, hts⟩ (k_X8_want l G m0 m1 m2 m3 m4 m5 m6 m7 m8 m9 m10 m11 m12 m13 m14 _ mw ik fm3_5 fm4_6 fm5_7 fm6_8 fm7_9 fm8_10 fm9_11 tx th od bk bh fu fd fi gm012_12 gm013_13 gm014_14 gm015_15 gm016_16 ts ap2_104 gm020_18 gm021_19 gm022_20 gm023_21 wr 1 1 ap2_104 hp) gX8_takeClause_X8_want rfl (by decide +kernel) ⟨Nat.le_trans (Nat.le_of_ble_eq_true rfl) hRf, Nat.le_trans (Nat.le_of_ble_eq_true rfl) hRl⟩ hKK hSS hS hA hP hD [0, 1, 2, 3, 4, 5, 6, 7, 8, 9, 10, 11, 12, 13, 14] (by decide) rfl rfl rfl 0 rfl rfl hl.1 rfl (Nat.le_of_ble_eq_true rfl) dX8_takeClause_223) hP hD hS hA [0, 1, 2, 3, 4, 5, 6, 7, 8, 9, 10, 11, 12, 13, 14] [] [0, 1, 2, 3, 4, 5, 6, 7, 8, 9, 10, 11, 12, 13, 14] rfl rfl (by decide) (by decide) (by decide) (fun _ => rfl) (fun r_110 u H locs hw hP hD hS => ?_)
        obtain ⟨fo2_111, fa2_112⟩ := u
        have hP : va_P G.1 vwCl [(m0, .inr (8, [.ref m1, .ref m2, .ref m3, .ref m4, .ref m5, .ref m6, .ref m7, .ref m8, .ref m9, .int fu, .int fd, .int fi, .int gm012_12, .int gm013_13, .int gm014_14, .int gm015_15, .int gm016_16, .ref m10, .int ts, .int ap2_104, .int gm020_18, .int gm021_19, .int fo2_111, .int fa2_112, .ref m11, .ref m12, .ref m13, .ref m14, .int wr])), aJ G m1 560 mw, aZ G m2 2 ik, aI G m3 20 fm3_5, aI G m4 20 fm4_6, aI G m5 20 fm5_7, aI G m6 20 fm6_8, aI G m7 20 fm7_9, aI G m8 20 fm8_10, aI G m9 4 fm9_11, aI G m10 400 tx, aI G m11 6 th, aI G m12 6 od, aI G m13 30 bk, aI G m14 30 bh] H := hP
        have hD : va_D A [(m0, .inr (8, [.ref m1, .ref m2, .ref m3, .ref m4, .ref m5, .ref m6, .ref m7, .ref m8, .ref m9, .int fu, .int fd, .int fi, .int gm012_12, .int gm013_13, .int gm014_14, .int gm015_15, .int gm016_16, .ref m10, .int ts, .int ap2_104, .int gm020_18, .int gm021_19, .int fo2_111, .int fa2_112, .ref m11, .ref m12, .ref m13, .ref m14, .int wr])), aJ G m1 560 mw, aZ G m2 2 ik, aI G m3 20 fm3_5, aI G m4 20 fm4_6, aI G m5 20 fm5_7, aI G m6 20 fm6_8, aI G m7 20 fm7_9, aI G m8 20 fm8_10, aI G m9 4 fm9_11, aI G m10 400 tx, aI G m11 6 th, aI G m12 6 od, aI G m13 30 bk, aI G m14 30 bh] := hD
        have hv := hv r_110 fo2_111 fa2_112 hw
        refine lv_if_eq (tgt := 239) hx hb dX8_takeClause_226 (by decide) (fun hc_113 => ?_) (fun hc_113 => ?_)
        · have hv := hv.1 hc_113
          exact x_vret (fm3_5, fm4_6, fm5_7, fm6_8, fm7_9, fm8_10, fm9_11, ap2_104, gm020_18, gm021_19, fo2_111, fa2_112, gm015_15, gm016_16, gm012_12, gm013_13, gm014_14) hQ hx hb hr hlocks hS dX8_takeClause_239 hv hP hD
        · have hv := hv.2 hc_113
          refine lv_aload_n hx hb dX8_takeClause_229 rfl (lv_at hl 1 rfl) ?_
          refine lv_dup hx hb dX8_takeClause_230 rfl ?_
          refine va_get (D := G.1) (ci := 8) (v := .int ap2_104) (C := RX8) (T := TX8) (N := 29) hx hb hts hinX8 hown hKK.1 hP 0 rfl rfl 19 (by decide) kl80 (fun _ h9 => h9) rfl dX8_takeClause_231 ?_
          refine lv_iconst (v := 1) hx hb dX8_takeClause_234 (by decide) ?_
          refine lv_iadd hx hb dX8_takeClause_235 ?_
          refine va_put (D := G.1) (ci := 8) (v := .int (ap2_104 + 1)) (ty := .int) (C := RX8) (T := TX8) (N := 29) hx hb hts hinX8 tyX8 tyX8_ok nmX8 hown hKK.1 hP hD hS 0 rfl rfl 19 (by decide) kl80 (fun _ h9 => h9) rfl (by decide +kernel) rfl rfl (Nat.le_of_ble_eq_true rfl) dX8_takeClause_236 (fun H locs hP hD hS => ?_)
          have hP : va_P G.1 vwCl [(m0, .inr (8, [.ref m1, .ref m2, .ref m3, .ref m4, .ref m5, .ref m6, .ref m7, .ref m8, .ref m9, .int fu, .int fd, .int fi, .int gm012_12, .int gm013_13, .int gm014_14, .int gm015_15, .int gm016_16, .ref m10, .int ts, .int (ap2_104 + 1), .int gm020_18, .int gm021_19, .int fo2_111, .int fa2_112, .ref m11, .ref m12, .ref m13, .ref m14, .int wr])), aJ G m1 560 mw, aZ G m2 2 ik, aI G m3 20 fm3_5, aI G m4 20 fm4_6, aI G m5 20 fm5_7, aI G m6 20 fm6_8, aI G m7 20 fm7_9, aI G m8 20 fm8_10, aI G m9 4 fm9_11, aI G m10 400 tx, aI G m11 6 th, aI G m12 6 od, aI G m13 30 bk, aI G m14 30 bh] H := hP
          have hD : va_D A [(m0, .inr (8, [.ref m1, .ref m2, .ref m3, .ref m4, .ref m5, .ref m6, .ref m7, .ref m8, .ref m9, .int fu, .int fd, .int fi, .int gm012_12, .int gm013_13, .int gm014_14, .int gm015_15, .int gm016_16, .ref m10, .int ts, .int (ap2_104 + 1), .int gm020_18, .int gm021_19, .int fo2_111, .int fa2_112, .ref m11, .ref m12, .ref m13, .ref m14, .int wr])), aJ G m1 560 mw, aZ G m2 2 ik, aI G m3 20 fm3_5, aI G m4 20 fm4_6, aI G m5 20 fm5_7, aI G m6 20 fm6_8, aI G m7 20 fm7_9, aI G m8 20 fm8_10, aI G m9 4 fm9_11, aI G m10 400 tx, aI G m11 6 th, aI G m12 6 od, aI G m13 30 bk, aI G m14 30 bh] := hD
          exact x_vret (fm3_5, fm4_6, fm5_7, fm6_8, fm7_9, fm8_10, fm9_11, (ap2_104 + 1), gm020_18, gm021_19, fo2_111, fa2_112, gm015_15, gm016_16, gm012_12, gm013_13, gm014_14) hQ hx hb hr hlocks hS dX8_takeClause_239 hv hP hD
  refine lv_aload_n hx hb dX8_takeClause_9 rfl (lv_at hl 1 rfl) ?_
  refine lv_iconst (v := 5) hx hb dX8_takeClause_10 (by decide) ?_
  refine lv_bipush (v := 115) hx hb dX8_takeClause_11 (by decide) ?_
  refine lv_bipush (v := 116) hx hb dX8_takeClause_13 (by decide) ?_
  refine lv_bipush (v := 111) hx hb dX8_takeClause_15 (by decide) ?_
  refine lv_bipush (v := 110) hx hb dX8_takeClause_17 (by decide) ?_
  refine lv_bipush (v := 101) hx hb dX8_takeClause_19 (by decide) ?_
  refine lv_iconst (v := 0) hx hb dX8_takeClause_21 (by decide) ?_
  obtain ⟨hp, hv⟩ := hv
  refine x_calliR (x_runV (As := [.int 5, .int 115, .int 116, .int 111, .int 110, .int 101, .int 0]) (rest := []) (n := 7) (C := RX8) (ci := 8) ⟨hx, hb, hml, hown, hts⟩ (k_X8_isWord l G m0 m1 m2 m3 m4 m5 m6 m7 m8 m9 m10 m11 m12 m13 m14 _ mw ik zs cl hs ks wa ne mn tx th od bk bh fu fd fi nu nw nf bf bn ts ap2_2 fs2_3 ln2_4 fo fa wr 5 115 116 111 110 101 0 hp) gX8_takeClause_X8_isWord rfl (by decide +kernel) ⟨Nat.le_trans (Nat.le_of_ble_eq_true rfl) hRf, Nat.le_trans (Nat.le_of_ble_eq_true rfl) hRl⟩ hKK hSS hS hA hP hD [0, 1, 2, 3, 4, 5, 6, 7, 8, 9, 10, 11, 12, 13, 14] (by decide) rfl rfl rfl 0 rfl rfl hl.1 rfl (Nat.le_of_ble_eq_true rfl) dX8_takeClause_22) hP hD hS hA [0, 1, 2, 3, 4, 5, 6, 7, 8, 9, 10, 11, 12, 13, 14] rfl (fun r_24 _ H locs hw hP hS => ?_)
  have hv := hv r_24 hw
  refine lv_if_eq (tgt := 36) hx hb dX8_takeClause_25 (by decide) (fun hc_25 => ?_) (fun hc_25 => ?_)
  · have hv := hv.1 hc_25
    refine lv_aload_n hx hb dX8_takeClause_36 rfl (lv_at hl 1 rfl) ?_
    refine lv_bipush (v := 6) hx hb dX8_takeClause_37 (by decide) ?_
    refine lv_bipush (v := 112) hx hb dX8_takeClause_39 (by decide) ?_
    refine lv_bipush (v := 101) hx hb dX8_takeClause_41 (by decide) ?_
    refine lv_bipush (v := 114) hx hb dX8_takeClause_43 (by decide) ?_
    refine lv_bipush (v := 115) hx hb dX8_takeClause_45 (by decide) ?_
    refine lv_bipush (v := 111) hx hb dX8_takeClause_47 (by decide) ?_
    refine lv_bipush (v := 110) hx hb dX8_takeClause_49 (by decide) ?_
    obtain ⟨hp, hv⟩ := hv
    refine x_calliR (x_runV (As := [.int 6, .int 112, .int 101, .int 114, .int 115, .int 111, .int 110]) (rest := []) (n := 7) (C := RX8) (ci := 8) ⟨hx, hb, hml, hown, hts⟩ (k_X8_isWord l G m0 m1 m2 m3 m4 m5 m6 m7 m8 m9 m10 m11 m12 m13 m14 _ mw ik zs cl hs ks wa ne mn tx th od bk bh fu fd fi nu nw nf bf bn ts ap2_2 fs2_3 ln2_4 fo fa wr 6 112 101 114 115 111 110 hp) gX8_takeClause_X8_isWord rfl (by decide +kernel) ⟨Nat.le_trans (Nat.le_of_ble_eq_true rfl) hRf, Nat.le_trans (Nat.le_of_ble_eq_true rfl) hRl⟩ hKK hSS hS hA hP hD [0, 1, 2, 3, 4, 5, 6, 7, 8, 9, 10, 11, 12, 13, 14] (by decide) rfl rfl rfl 0 rfl rfl hl.1 rfl (Nat.le_of_ble_eq_true rfl) dX8_takeClause_51) hP hD hS hA [0, 1, 2, 3, 4, 5, 6, 7, 8, 9, 10, 11, 12, 13, 14] rfl (fun r_26 _ H locs hw hP hS => ?_)
    have hv := hv r_26 hw
    refine lv_if_eq (tgt := 65) hx hb dX8_takeClause_54 (by decide) (fun hc_27 => ?_) (fun hc_27 => ?_)
    · have hv := hv.1 hc_27
      refine lv_aload_n hx hb dX8_takeClause_65 rfl (lv_at hl 1 rfl) ?_
      refine lv_iconst (v := 5) hx hb dX8_takeClause_66 (by decide) ?_
      refine lv_bipush (v := 102) hx hb dX8_takeClause_67 (by decide) ?_
      refine lv_bipush (v := 114) hx hb dX8_takeClause_69 (by decide) ?_
      refine lv_bipush (v := 111) hx hb dX8_takeClause_71 (by decide) ?_
      refine lv_bipush (v := 115) hx hb dX8_takeClause_73 (by decide) ?_
      refine lv_bipush (v := 116) hx hb dX8_takeClause_75 (by decide) ?_
      refine lv_iconst (v := 0) hx hb dX8_takeClause_77 (by decide) ?_
      obtain ⟨hp, hv⟩ := hv
      refine x_calliR (x_runV (As := [.int 5, .int 102, .int 114, .int 111, .int 115, .int 116, .int 0]) (rest := []) (n := 7) (C := RX8) (ci := 8) ⟨hx, hb, hml, hown, hts⟩ (k_X8_isWord l G m0 m1 m2 m3 m4 m5 m6 m7 m8 m9 m10 m11 m12 m13 m14 _ mw ik zs cl hs ks wa ne mn tx th od bk bh fu fd fi nu nw nf bf bn ts ap2_2 fs2_3 ln2_4 fo fa wr 5 102 114 111 115 116 0 hp) gX8_takeClause_X8_isWord rfl (by decide +kernel) ⟨Nat.le_trans (Nat.le_of_ble_eq_true rfl) hRf, Nat.le_trans (Nat.le_of_ble_eq_true rfl) hRl⟩ hKK hSS hS hA hP hD [0, 1, 2, 3, 4, 5, 6, 7, 8, 9, 10, 11, 12, 13, 14] (by decide) rfl rfl rfl 0 rfl rfl hl.1 rfl (Nat.le_of_ble_eq_true rfl) dX8_takeClause_78) hP hD hS hA [0, 1, 2, 3, 4, 5, 6, 7, 8, 9, 10, 11, 12, 13, 14] rfl (fun r_28 _ H locs hw hP hS => ?_)
      have hv := hv r_28 hw
      refine lv_if_eq (tgt := 135) hx hb dX8_takeClause_81 (by decide) (fun hc_29 => ?_) (fun hc_29 => ?_)
      · have hv := hv.1 hc_29
        refine lv_aload_n hx hb dX8_takeClause_135 rfl (lv_at hl 1 rfl) ?_
        refine lv_aload_n hx hb dX8_takeClause_136 rfl (lv_at hl 1 rfl) ?_
        refine lv_iconst (v := 4) hx hb dX8_takeClause_137 (by decide) ?_
        refine lv_bipush (v := 102) hx hb dX8_takeClause_138 (by decide) ?_
        refine lv_bipush (v := 105) hx hb dX8_takeClause_140 (by decide) ?_
        refine lv_bipush (v := 110) hx hb dX8_takeClause_142 (by decide) ?_
        refine lv_bipush (v := 101) hx hb dX8_takeClause_144 (by decide) ?_
        refine lv_iconst (v := 0) hx hb dX8_takeClause_146 (by decide) ?_
        refine lv_iconst (v := 0) hx hb dX8_takeClause_147 (by decide) ?_
        obtain ⟨hp, hv⟩ := hv
        refine x_calliR (x_runV (As := [.int 4, .int 102, .int 105, .int 110, .int 101, .int 0, .int 0]) (rest := [.ref m0]) (n := 7) (C := RX8) (ci := 8) ⟨hx, hb, hml, hown, hts⟩ (k_X8_isWord l G m0 m1 m2 m3 m4 m5 m6 m7 m8 m9 m10 m11 m12 m13 m14 _ mw ik zs cl hs ks wa ne mn tx th od bk bh fu fd fi nu nw nf bf bn ts ap2_2 fs2_3 ln2_4 fo fa wr 4 102 105 110 101 0 0 hp) gX8_takeClause_X8_isWord rfl (by decide +kernel) ⟨Nat.le_trans (Nat.le_of_ble_eq_true rfl) hRf, Nat.le_trans (Nat.le_of_ble_eq_true rfl) hRl⟩ hKK hSS hS hA hP hD [0, 1, 2, 3, 4, 5, 6, 7, 8, 9, 10, 11, 12, 13, 14] (by decide) rfl rfl rfl 0 rfl rfl hl.1 rfl (Nat.le_of_ble_eq_true rfl) dX8_takeClause_148) hP hD hS hA [0, 1, 2, 3, 4, 5, 6, 7, 8, 9, 10, 11, 12, 13, 14] rfl (fun r_30 _ H locs hw hP hS => ?_)
        have hv := hv r_30 hw
        refine lv_iconst (v := 1) hx hb dX8_takeClause_151 (by decide) ?_
        refine lv_iload_n hx hb dX8_takeClause_152 rfl (lv_at hl 0 rfl) ?_
        obtain ⟨hp, hv⟩ := hv
        refine x_calli (wr := []) (w' := fun (u : (Int32) × (Int32)) => [(m0, .inr (8, [.ref m1, .ref m2, .ref m3, .ref m4, .ref m5, .ref m6, .ref m7, .ref m8, .ref m9, .int fu, .int fd, .int fi, .int nu, .int nw, .int nf, .int bf, .int bn, .ref m10, .int ts, .int ap2_2, .int fs2_3, .int ln2_4, .int u.1, .int u.2, .ref m11, .ref m12, .ref m13, .ref m14, .int wr])), aJ G m1 560 mw, aZ G m2 2 ik, aI G m3 20 zs, aI G m4 20 cl, aI G m5 20 hs, aI G m6 20 ks, aI G m7 20 wa, aI G m8 20 ne, aI G m9 4 mn, aI G m10 400 tx, aI G m11 6 th, aI G m12 6 od, aI G m13 30 bk, aI G m14 30 bh]) (x_runV (As := [.int r_30, .int 1, .int fs2_3]) (rest := []) (n := 3) (C := RX8) (ci := 8) ⟨hx, hb, hml, hown, hts⟩ (k_X8_want l G m0 m1 m2 m3 m4 m5 m6 m7 m8 m9 m10 m11 m12 m13 m14 _ mw ik zs cl hs ks wa ne mn tx th od bk bh fu fd fi nu nw nf bf bn ts ap2_2 fs2_3 ln2_4 fo fa wr r_30 1 fs2_3 hp) gX8_takeClause_X8_want rfl (by decide +kernel) ⟨Nat.le_trans (Nat.le_of_ble_eq_true rfl) hRf, Nat.le_trans (Nat.le_of_ble_eq_true rfl) hRl⟩ hKK hSS hS hA hP hD [0, 1, 2, 3, 4, 5, 6, 7, 8, 9, 10, 11, 12, 13, 14] (by decide) rfl rfl rfl 0 rfl rfl hl.1 rfl (Nat.le_of_ble_eq_true rfl) dX8_takeClause_153) hP hD hS hA [0, 1, 2, 3, 4, 5, 6, 7, 8, 9, 10, 11, 12, 13, 14] [] [0, 1, 2, 3, 4, 5, 6, 7, 8, 9, 10, 11, 12, 13, 14] rfl rfl (by decide) (by decide) (by decide) (fun _ => rfl) (fun r_31 u H locs hw hP hD hS => ?_)
        obtain ⟨fo2_32, fa2_33⟩ := u
        have hP : va_P G.1 vwCl [(m0, .inr (8, [.ref m1, .ref m2, .ref m3, .ref m4, .ref m5, .ref m6, .ref m7, .ref m8, .ref m9, .int fu, .int fd, .int fi, .int nu, .int nw, .int nf, .int bf, .int bn, .ref m10, .int ts, .int ap2_2, .int fs2_3, .int ln2_4, .int fo2_32, .int fa2_33, .ref m11, .ref m12, .ref m13, .ref m14, .int wr])), aJ G m1 560 mw, aZ G m2 2 ik, aI G m3 20 zs, aI G m4 20 cl, aI G m5 20 hs, aI G m6 20 ks, aI G m7 20 wa, aI G m8 20 ne, aI G m9 4 mn, aI G m10 400 tx, aI G m11 6 th, aI G m12 6 od, aI G m13 30 bk, aI G m14 30 bh] H := hP
        have hD : va_D A [(m0, .inr (8, [.ref m1, .ref m2, .ref m3, .ref m4, .ref m5, .ref m6, .ref m7, .ref m8, .ref m9, .int fu, .int fd, .int fi, .int nu, .int nw, .int nf, .int bf, .int bn, .ref m10, .int ts, .int ap2_2, .int fs2_3, .int ln2_4, .int fo2_32, .int fa2_33, .ref m11, .ref m12, .ref m13, .ref m14, .int wr])), aJ G m1 560 mw, aZ G m2 2 ik, aI G m3 20 zs, aI G m4 20 cl, aI G m5 20 hs, aI G m6 20 ks, aI G m7 20 wa, aI G m8 20 ne, aI G m9 4 mn, aI G m10 400 tx, aI G m11 6 th, aI G m12 6 od, aI G m13 30 bk, aI G m14 30 bh] := hD
        have hv := hv r_31 fo2_32 fa2_33 hw
        refine lv_if_eq (tgt := 196) hx hb dX8_takeClause_156 (by decide) (fun hc_34 => ?_) (fun hc_34 => ?_)
        · have hv := hv.1 hc_34
          exact K_23 _ _ _ _ _ _ _ _ _ _ _ _ _ _ _ _ _ _ _ _ hv hP hD hS hl
        · have hv := hv.2 hc_34
          refine lv_aload_n hx hb dX8_takeClause_159 rfl (lv_at hl 1 rfl) ?_
          refine lv_aload_n hx hb dX8_takeClause_160 rfl (lv_at hl 1 rfl) ?_
          refine va_get (D := G.1) (ci := 8) (v := .int bn) (C := RX8) (T := TX8) (N := 29) hx hb hts hinX8 hown hKK.1 hP 0 rfl rfl 16 (by decide) kl137 (fun _ h9 => h9) rfl dX8_takeClause_161 ?_
          refine lv_if_ne (tgt := 171) hx hb dX8_takeClause_164 (by decide) (fun hc_35 => ?_) (fun hc_35 => ?_)
          · have hv := hv.1 hc_35
            refine lv_iconst (v := 0) hx hb dX8_takeClause_171 (by decide) ?_
            refine lv_iconst (v := 3) hx hb dX8_takeClause_172 (by decide) ?_
            refine lv_iload_n hx hb dX8_takeClause_173 rfl (lv_at hl 0 rfl) ?_
            obtain ⟨hp, hv⟩ := hv
            refine x_calli (wr := []) (w' := fun (u : (Int32) × (Int32)) => [(m0, .inr (8, [.ref m1, .ref m2, .ref m3, .ref m4, .ref m5, .ref m6, .ref m7, .ref m8, .ref m9, .int fu, .int fd, .int fi, .int nu, .int nw, .int nf, .int bf, .int bn, .ref m10, .int ts, .int ap2_2, .int fs2_3, .int ln2_4, .int u.1, .int u.2, .ref m11, .ref m12, .ref m13, .ref m14, .int wr])), aJ G m1 560 mw, aZ G m2 2 ik, aI G m3 20 zs, aI G m4 20 cl, aI G m5 20 hs, aI G m6 20 ks, aI G m7 20 wa, aI G m8 20 ne, aI G m9 4 mn, aI G m10 400 tx, aI G m11 6 th, aI G m12 6 od, aI G m13 30 bk, aI G m14 30 bh]) (x_runV (As := [.int 0, .int 3, .int fs2_3]) (rest := []) (n := 3) (C := RX8) (ci := 8) ⟨hx, hb, hml, hown, hts⟩ (k_X8_want l G m0 m1 m2 m3 m4 m5 m6 m7 m8 m9 m10 m11 m12 m13 m14 _ mw ik zs cl hs ks wa ne mn tx th od bk bh fu fd fi nu nw nf bf bn ts ap2_2 fs2_3 ln2_4 fo2_32 fa2_33 wr 0 3 fs2_3 hp) gX8_takeClause_X8_want rfl (by decide +kernel) ⟨Nat.le_trans (Nat.le_of_ble_eq_true rfl) hRf, Nat.le_trans (Nat.le_of_ble_eq_true rfl) hRl⟩ hKK hSS hS hA hP hD [0, 1, 2, 3, 4, 5, 6, 7, 8, 9, 10, 11, 12, 13, 14] (by decide) rfl rfl rfl 0 rfl rfl hl.1 rfl (Nat.le_of_ble_eq_true rfl) dX8_takeClause_174) hP hD hS hA [0, 1, 2, 3, 4, 5, 6, 7, 8, 9, 10, 11, 12, 13, 14] [] [0, 1, 2, 3, 4, 5, 6, 7, 8, 9, 10, 11, 12, 13, 14] rfl rfl (by decide) (by decide) (by decide) (fun _ => rfl) (fun r_36 u H locs hw hP hD hS => ?_)
            obtain ⟨fo2_37, fa2_38⟩ := u
            have hP : va_P G.1 vwCl [(m0, .inr (8, [.ref m1, .ref m2, .ref m3, .ref m4, .ref m5, .ref m6, .ref m7, .ref m8, .ref m9, .int fu, .int fd, .int fi, .int nu, .int nw, .int nf, .int bf, .int bn, .ref m10, .int ts, .int ap2_2, .int fs2_3, .int ln2_4, .int fo2_37, .int fa2_38, .ref m11, .ref m12, .ref m13, .ref m14, .int wr])), aJ G m1 560 mw, aZ G m2 2 ik, aI G m3 20 zs, aI G m4 20 cl, aI G m5 20 hs, aI G m6 20 ks, aI G m7 20 wa, aI G m8 20 ne, aI G m9 4 mn, aI G m10 400 tx, aI G m11 6 th, aI G m12 6 od, aI G m13 30 bk, aI G m14 30 bh] H := hP
            have hD : va_D A [(m0, .inr (8, [.ref m1, .ref m2, .ref m3, .ref m4, .ref m5, .ref m6, .ref m7, .ref m8, .ref m9, .int fu, .int fd, .int fi, .int nu, .int nw, .int nf, .int bf, .int bn, .ref m10, .int ts, .int ap2_2, .int fs2_3, .int ln2_4, .int fo2_37, .int fa2_38, .ref m11, .ref m12, .ref m13, .ref m14, .int wr])), aJ G m1 560 mw, aZ G m2 2 ik, aI G m3 20 zs, aI G m4 20 cl, aI G m5 20 hs, aI G m6 20 ks, aI G m7 20 wa, aI G m8 20 ne, aI G m9 4 mn, aI G m10 400 tx, aI G m11 6 th, aI G m12 6 od, aI G m13 30 bk, aI G m14 30 bh] := hD
            have hv := hv r_36 fo2_37 fa2_38 hw
            refine lv_if_eq (tgt := 196) hx hb dX8_takeClause_177 (by decide) (fun hc_39 => ?_) (fun hc_39 => ?_)
            · have hv := hv.1 hc_39
              exact K_23 _ _ _ _ _ _ _ _ _ _ _ _ _ _ _ _ _ _ _ _ hv hP hD hS hl
            · have hv := hv.2 hc_39
              refine lv_aload_n hx hb dX8_takeClause_180 rfl (lv_at hl 1 rfl) ?_
              refine lv_iconst (v := 1) hx hb dX8_takeClause_181 (by decide) ?_
              refine va_put (D := G.1) (ci := 8) (v := .int 1) (ty := .boolean) (C := RX8) (T := TX8) (N := 29) hx hb hts hinX8 tyX8 tyX8_ok nmX8 hown hKK.1 hP hD hS 0 rfl rfl 16 (by decide) kl137 (fun _ h9 => h9) rfl (by decide +kernel) rfl rfl (Nat.le_of_ble_eq_true rfl) dX8_takeClause_182 (fun H locs hP hD hS => ?_)
              have hP : va_P G.1 vwCl [(m0, .inr (8, [.ref m1, .ref m2, .ref m3, .ref m4, .ref m5, .ref m6, .ref m7, .ref m8, .ref m9, .int fu, .int fd, .int fi, .int nu, .int nw, .int nf, .int bf, .int 1, .ref m10, .int ts, .int ap2_2, .int fs2_3, .int ln2_4, .int fo2_37, .int fa2_38, .ref m11, .ref m12, .ref m13, .ref m14, .int wr])), aJ G m1 560 mw, aZ G m2 2 ik, aI G m3 20 zs, aI G m4 20 cl, aI G m5 20 hs, aI G m6 20 ks, aI G m7 20 wa, aI G m8 20 ne, aI G m9 4 mn, aI G m10 400 tx, aI G m11 6 th, aI G m12 6 od, aI G m13 30 bk, aI G m14 30 bh] H := hP
              have hD : va_D A [(m0, .inr (8, [.ref m1, .ref m2, .ref m3, .ref m4, .ref m5, .ref m6, .ref m7, .ref m8, .ref m9, .int fu, .int fd, .int fi, .int nu, .int nw, .int nf, .int bf, .int 1, .ref m10, .int ts, .int ap2_2, .int fs2_3, .int ln2_4, .int fo2_37, .int fa2_38, .ref m11, .ref m12, .ref m13, .ref m14, .int wr])), aJ G m1 560 mw, aZ G m2 2 ik, aI G m3 20 zs, aI G m4 20 cl, aI G m5 20 hs, aI G m6 20 ks, aI G m7 20 wa, aI G m8 20 ne, aI G m9 4 mn, aI G m10 400 tx, aI G m11 6 th, aI G m12 6 od, aI G m13 30 bk, aI G m14 30 bh] := hD
              refine lv_aload_n hx hb dX8_takeClause_185 rfl (lv_at hl 1 rfl) ?_
              refine lv_aload_n hx hb dX8_takeClause_186 rfl (lv_at hl 1 rfl) ?_
              refine lv_iconst (v := 0) hx hb dX8_takeClause_187 (by decide) ?_
              refine lv_bipush (v := 99) hx hb dX8_takeClause_188 (by decide) ?_
              obtain ⟨hp, hv⟩ := hv
              refine x_calli (wr := []) (w' := fun (u : (Int32) × (Int32) × (Int32) × (Int32)) => [(m0, .inr (8, [.ref m1, .ref m2, .ref m3, .ref m4, .ref m5, .ref m6, .ref m7, .ref m8, .ref m9, .int fu, .int fd, .int fi, .int nu, .int nw, .int nf, .int bf, .int 1, .ref m10, .int ts, .int u.1, .int u.2.1, .int ln2_4, .int u.2.2.1, .int u.2.2.2, .ref m11, .ref m12, .ref m13, .ref m14, .int wr])), aJ G m1 560 mw, aZ G m2 2 ik, aI G m3 20 zs, aI G m4 20 cl, aI G m5 20 hs, aI G m6 20 ks, aI G m7 20 wa, aI G m8 20 ne, aI G m9 4 mn, aI G m10 400 tx, aI G m11 6 th, aI G m12 6 od, aI G m13 30 bk, aI G m14 30 bh]) (x_runV (As := [.int 0, .int 99]) (rest := [.ref m0]) (n := 2) (C := RX8) (ci := 8) ⟨hx, hb, hml, hown, hts⟩ (k_X8_takeNumber l G m0 m1 m2 m3 m4 m5 m6 m7 m8 m9 m10 m11 m12 m13 m14 _ mw ik zs cl hs ks wa ne mn tx th od bk bh fu fd fi nu nw nf bf 1 ts ap2_2 fs2_3 ln2_4 fo2_37 fa2_38 wr 0 99 hp) gX8_takeClause_X8_takeNumber rfl (by decide +kernel) ⟨Nat.le_trans (Nat.le_of_ble_eq_true rfl) hRf, Nat.le_trans (Nat.le_of_ble_eq_true rfl) hRl⟩ hKK hSS hS hA hP hD [0, 1, 2, 3, 4, 5, 6, 7, 8, 9, 10, 11, 12, 13, 14] (by decide) rfl rfl rfl 0 rfl rfl hl.1 rfl (Nat.le_of_ble_eq_true rfl) dX8_takeClause_190) hP hD hS hA [0, 1, 2, 3, 4, 5, 6, 7, 8, 9, 10, 11, 12, 13, 14] [] [0, 1, 2, 3, 4, 5, 6, 7, 8, 9, 10, 11, 12, 13, 14] rfl rfl (by decide) (by decide) (by decide) (fun _ => rfl) (fun r_40 u H locs hw hP hD hS => ?_)
              obtain ⟨ap2_41, fs2_42, fo2_43, fa2_44⟩ := u
              have hP : va_P G.1 vwCl [(m0, .inr (8, [.ref m1, .ref m2, .ref m3, .ref m4, .ref m5, .ref m6, .ref m7, .ref m8, .ref m9, .int fu, .int fd, .int fi, .int nu, .int nw, .int nf, .int bf, .int 1, .ref m10, .int ts, .int ap2_41, .int fs2_42, .int ln2_4, .int fo2_43, .int fa2_44, .ref m11, .ref m12, .ref m13, .ref m14, .int wr])), aJ G m1 560 mw, aZ G m2 2 ik, aI G m3 20 zs, aI G m4 20 cl, aI G m5 20 hs, aI G m6 20 ks, aI G m7 20 wa, aI G m8 20 ne, aI G m9 4 mn, aI G m10 400 tx, aI G m11 6 th, aI G m12 6 od, aI G m13 30 bk, aI G m14 30 bh] H := hP
              have hD : va_D A [(m0, .inr (8, [.ref m1, .ref m2, .ref m3, .ref m4, .ref m5, .ref m6, .ref m7, .ref m8, .ref m9, .int fu, .int fd, .int fi, .int nu, .int nw, .int nf, .int bf, .int 1, .ref m10, .int ts, .int ap2_41, .int fs2_42, .int ln2_4, .int fo2_43, .int fa2_44, .ref m11, .ref m12, .ref m13, .ref m14, .int wr])), aJ G m1 560 mw, aZ G m2 2 ik, aI G m3 20 zs, aI G m4 20 cl, aI G m5 20 hs, aI G m6 20 ks, aI G m7 20 wa, aI G m8 20 ne, aI G m9 4 mn, aI G m10 400 tx, aI G m11 6 th, aI G m12 6 od, aI G m13 30 bk, aI G m14 30 bh] := hD
              have hv := hv r_40 ap2_41 fs2_42 fo2_43 fa2_44 hw
              refine va_put (D := G.1) (ci := 8) (v := .int r_40) (ty := .int) (C := RX8) (T := TX8) (N := 29) hx hb hts hinX8 tyX8 tyX8_ok nmX8 hown hKK.1 hP hD hS 0 rfl rfl 14 (by decide) kl140 (fun _ h9 => h9) rfl (by decide +kernel) rfl rfl (Nat.le_of_ble_eq_true rfl) dX8_takeClause_193 (fun H locs hP hD hS => ?_)
              have hP : va_P G.1 vwCl [(m0, .inr (8, [.ref m1, .ref m2, .ref m3, .ref m4, .ref m5, .ref m6, .ref m7, .ref m8, .ref m9, .int fu, .int fd, .int fi, .int nu, .int nw, .int r_40, .int bf, .int 1, .ref m10, .int ts, .int ap2_41, .int fs2_42, .int ln2_4, .int fo2_43, .int fa2_44, .ref m11, .ref m12, .ref m13, .ref m14, .int wr])), aJ G m1 560 mw, aZ G m2 2 ik, aI G m3 20 zs, aI G m4 20 cl, aI G m5 20 hs, aI G m6 20 ks, aI G m7 20 wa, aI G m8 20 ne, aI G m9 4 mn, aI G m10 400 tx, aI G m11 6 th, aI G m12 6 od, aI G m13 30 bk, aI G m14 30 bh] H := hP
              have hD : va_D A [(m0, .inr (8, [.ref m1, .ref m2, .ref m3, .ref m4, .ref m5, .ref m6, .ref m7, .ref m8, .ref m9, .int fu, .int fd, .int fi, .int nu, .int nw, .int r_40, .int bf, .int 1, .ref m10, .int ts, .int ap2_41, .int fs2_42, .int ln2_4, .int fo2_43, .int fa2_44, .ref m11, .ref m12, .ref m13, .ref m14, .int wr])), aJ G m1 560 mw, aZ G m2 2 ik, aI G m3 20 zs, aI G m4 20 cl, aI G m5 20 hs, aI G m6 20 ks, aI G m7 20 wa, aI G m8 20 ne, aI G m9 4 mn, aI G m10 400 tx, aI G m11 6 th, aI G m12 6 od, aI G m13 30 bk, aI G m14 30 bh] := hD
              exact K_23 _ _ _ _ _ _ _ _ _ _ _ _ _ _ _ _ _ _ _ _ hv hP hD hS hl
          · have hv := hv.2 hc_35
            refine lv_iconst (v := 1) hx hb dX8_takeClause_167 (by decide) ?_
            refine lv_goto (tgt := 172) hx hb dX8_takeClause_168 (by decide) ?_
            refine lv_iconst (v := 3) hx hb dX8_takeClause_172 (by decide) ?_
            refine lv_iload_n hx hb dX8_takeClause_173 rfl (lv_at hl 0 rfl) ?_
            obtain ⟨hp, hv⟩ := hv
            refine x_calli (wr := []) (w' := fun (u : (Int32) × (Int32)) => [(m0, .inr (8, [.ref m1, .ref m2, .ref m3, .ref m4, .ref m5, .ref m6, .ref m7, .ref m8, .ref m9, .int fu, .int fd, .int fi, .int nu, .int nw, .int nf, .int bf, .int bn, .ref m10, .int ts, .int ap2_2, .int fs2_3, .int ln2_4, .int u.1, .int u.2, .ref m11, .ref m12, .ref m13, .ref m14, .int wr])), aJ G m1 560 mw, aZ G m2 2 ik, aI G m3 20 zs, aI G m4 20 cl, aI G m5 20 hs, aI G m6 20 ks, aI G m7 20 wa, aI G m8 20 ne, aI G m9 4 mn, aI G m10 400 tx, aI G m11 6 th, aI G m12 6 od, aI G m13 30 bk, aI G m14 30 bh]) (x_runV (As := [.int 1, .int 3, .int fs2_3]) (rest := []) (n := 3) (C := RX8) (ci := 8) ⟨hx, hb, hml, hown, hts⟩ (k_X8_want l G m0 m1 m2 m3 m4 m5 m6 m7 m8 m9 m10 m11 m12 m13 m14 _ mw ik zs cl hs ks wa ne mn tx th od bk bh fu fd fi nu nw nf bf bn ts ap2_2 fs2_3 ln2_4 fo2_32 fa2_33 wr 1 3 fs2_3 hp) gX8_takeClause_X8_want rfl (by decide +kernel) ⟨Nat.le_trans (Nat.le_of_ble_eq_true rfl) hRf, Nat.le_trans (Nat.le_of_ble_eq_true rfl) hRl⟩ hKK hSS hS hA hP hD [0, 1, 2, 3, 4, 5, 6, 7, 8, 9, 10, 11, 12, 13, 14] (by decide) rfl rfl rfl 0 rfl rfl hl.1 rfl (Nat.le_of_ble_eq_true rfl) dX8_takeClause_174) hP hD hS hA [0, 1, 2, 3, 4, 5, 6, 7, 8, 9, 10, 11, 12, 13, 14] [] [0, 1, 2, 3, 4, 5, 6, 7, 8, 9, 10, 11, 12, 13, 14] rfl rfl (by decide) (by decide) (by decide) (fun _ => rfl) (fun r_45 u H locs hw hP hD hS => ?_)
            obtain ⟨fo2_46, fa2_47⟩ := u
            have hP : va_P G.1 vwCl [(m0, .inr (8, [.ref m1, .ref m2, .ref m3, .ref m4, .ref m5, .ref m6, .ref m7, .ref m8, .ref m9, .int fu, .int fd, .int fi, .int nu, .int nw, .int nf, .int bf, .int bn, .ref m10, .int ts, .int ap2_2, .int fs2_3, .int ln2_4, .int fo2_46, .int fa2_47, .ref m11, .ref m12, .ref m13, .ref m14, .int wr])), aJ G m1 560 mw, aZ G m2 2 ik, aI G m3 20 zs, aI G m4 20 cl, aI G m5 20 hs, aI G m6 20 ks, aI G m7 20 wa, aI G m8 20 ne, aI G m9 4 mn, aI G m10 400 tx, aI G m11 6 th, aI G m12 6 od, aI G m13 30 bk, aI G m14 30 bh] H := hP
            have hD : va_D A [(m0, .inr (8, [.ref m1, .ref m2, .ref m3, .ref m4, .ref m5, .ref m6, .ref m7, .ref m8, .ref m9, .int fu, .int fd, .int fi, .int nu, .int nw, .int nf, .int bf, .int bn, .ref m10, .int ts, .int ap2_2, .int fs2_3, .int ln2_4, .int fo2_46, .int fa2_47, .ref m11, .ref m12, .ref m13, .ref m14, .int wr])), aJ G m1 560 mw, aZ G m2 2 ik, aI G m3 20 zs, aI G m4 20 cl, aI G m5 20 hs, aI G m6 20 ks, aI G m7 20 wa, aI G m8 20 ne, aI G m9 4 mn, aI G m10 400 tx, aI G m11 6 th, aI G m12 6 od, aI G m13 30 bk, aI G m14 30 bh] := hD
            have hv := hv r_45 fo2_46 fa2_47 hw
            refine lv_if_eq (tgt := 196) hx hb dX8_takeClause_177 (by decide) (fun hc_48 => ?_) (fun hc_48 => ?_)
            · have hv := hv.1 hc_48
              exact K_23 _ _ _ _ _ _ _ _ _ _ _ _ _ _ _ _ _ _ _ _ hv hP hD hS hl
            · have hv := hv.2 hc_48
              refine lv_aload_n hx hb dX8_takeClause_180 rfl (lv_at hl 1 rfl) ?_
              refine lv_iconst (v := 1) hx hb dX8_takeClause_181 (by decide) ?_
              refine va_put (D := G.1) (ci := 8) (v := .int 1) (ty := .boolean) (C := RX8) (T := TX8) (N := 29) hx hb hts hinX8 tyX8 tyX8_ok nmX8 hown hKK.1 hP hD hS 0 rfl rfl 16 (by decide) kl137 (fun _ h9 => h9) rfl (by decide +kernel) rfl rfl (Nat.le_of_ble_eq_true rfl) dX8_takeClause_182 (fun H locs hP hD hS => ?_)
              have hP : va_P G.1 vwCl [(m0, .inr (8, [.ref m1, .ref m2, .ref m3, .ref m4, .ref m5, .ref m6, .ref m7, .ref m8, .ref m9, .int fu, .int fd, .int fi, .int nu, .int nw, .int nf, .int bf, .int 1, .ref m10, .int ts, .int ap2_2, .int fs2_3, .int ln2_4, .int fo2_46, .int fa2_47, .ref m11, .ref m12, .ref m13, .ref m14, .int wr])), aJ G m1 560 mw, aZ G m2 2 ik, aI G m3 20 zs, aI G m4 20 cl, aI G m5 20 hs, aI G m6 20 ks, aI G m7 20 wa, aI G m8 20 ne, aI G m9 4 mn, aI G m10 400 tx, aI G m11 6 th, aI G m12 6 od, aI G m13 30 bk, aI G m14 30 bh] H := hP
              have hD : va_D A [(m0, .inr (8, [.ref m1, .ref m2, .ref m3, .ref m4, .ref m5, .ref m6, .ref m7, .ref m8, .ref m9, .int fu, .int fd, .int fi, .int nu, .int nw, .int nf, .int bf, .int 1, .ref m10, .int ts, .int ap2_2, .int fs2_3, .int ln2_4, .int fo2_46, .int fa2_47, .ref m11, .ref m12, .ref m13, .ref m14, .int wr])), aJ G m1 560 mw, aZ G m2 2 ik, aI G m3 20 zs, aI G m4 20 cl, aI G m5 20 hs, aI G m6 20 ks, aI G m7 20 wa, aI G m8 20 ne, aI G m9 4 mn, aI G m10 400 tx, aI G m11 6 th, aI G m12 6 od, aI G m13 30 bk, aI G m14 30 bh] := hD
              refine lv_aload_n hx hb dX8_takeClause_185 rfl (lv_at hl 1 rfl) ?_
              refine lv_aload_n hx hb dX8_takeClause_186 rfl (lv_at hl 1 rfl) ?_
              refine lv_iconst (v := 0) hx hb dX8_takeClause_187 (by decide) ?_
              refine lv_bipush (v := 99) hx hb dX8_takeClause_188 (by decide) ?_
              obtain ⟨hp, hv⟩ := hv
              refine x_calli (wr := []) (w' := fun (u : (Int32) × (Int32) × (Int32) × (Int32)) => [(m0, .inr (8, [.ref m1, .ref m2, .ref m3, .ref m4, .ref m5, .ref m6, .ref m7, .ref m8, .ref m9, .int fu, .int fd, .int fi, .int nu, .int nw, .int nf, .int bf, .int 1, .ref m10, .int ts, .int u.1, .int u.2.1, .int ln2_4, .int u.2.2.1, .int u.2.2.2, .ref m11, .ref m12, .ref m13, .ref m14, .int wr])), aJ G m1 560 mw, aZ G m2 2 ik, aI G m3 20 zs, aI G m4 20 cl, aI G m5 20 hs, aI G m6 20 ks, aI G m7 20 wa, aI G m8 20 ne, aI G m9 4 mn, aI G m10 400 tx, aI G m11 6 th, aI G m12 6 od, aI G m13 30 bk, aI G m14 30 bh]) (x_runV (As := [.int 0, .int 99]) (rest := [.ref m0]) (n := 2) (C := RX8) (ci := 8) ⟨hx, hb, hml, hown, hts⟩ (k_X8_takeNumber l G m0 m1 m2 m3 m4 m5 m6 m7 m8 m9 m10 m11 m12 m13 m14 _ mw ik zs cl hs ks wa ne mn tx th od bk bh fu fd fi nu nw nf bf 1 ts ap2_2 fs2_3 ln2_4 fo2_46 fa2_47 wr 0 99 hp) gX8_takeClause_X8_takeNumber rfl (by decide +kernel) ⟨Nat.le_trans (Nat.le_of_ble_eq_true rfl) hRf, Nat.le_trans (Nat.le_of_ble_eq_true rfl) hRl⟩ hKK hSS hS hA hP hD [0, 1, 2, 3, 4, 5, 6, 7, 8, 9, 10, 11, 12, 13, 14] (by decide) rfl rfl rfl 0 rfl rfl hl.1 rfl (Nat.le_of_ble_eq_true rfl) dX8_takeClause_190) hP hD hS hA [0, 1, 2, 3, 4, 5, 6, 7, 8, 9, 10, 11, 12, 13, 14] [] [0, 1, 2, 3, 4, 5, 6, 7, 8, 9, 10, 11, 12, 13, 14] rfl rfl (by decide) (by decide) (by decide) (fun _ => rfl) (fun r_49 u H locs hw hP hD hS => ?_)
              obtain ⟨ap2_50, fs2_51, fo2_52, fa2_53⟩ := u
              have hP : va_P G.1 vwCl [(m0, .inr (8, [.ref m1, .ref m2, .ref m3, .ref m4, .ref m5, .ref m6, .ref m7, .ref m8, .ref m9, .int fu, .int fd, .int fi, .int nu, .int nw, .int nf, .int bf, .int 1, .ref m10, .int ts, .int ap2_50, .int fs2_51, .int ln2_4, .int fo2_52, .int fa2_53, .ref m11, .ref m12, .ref m13, .ref m14, .int wr])), aJ G m1 560 mw, aZ G m2 2 ik, aI G m3 20 zs, aI G m4 20 cl, aI G m5 20 hs, aI G m6 20 ks, aI G m7 20 wa, aI G m8 20 ne, aI G m9 4 mn, aI G m10 400 tx, aI G m11 6 th, aI G m12 6 od, aI G m13 30 bk, aI G m14 30 bh] H := hP
              have hD : va_D A [(m0, .inr (8, [.ref m1, .ref m2, .ref m3, .ref m4, .ref m5, .ref m6, .ref m7, .ref m8, .ref m9, .int fu, .int fd, .int fi, .int nu, .int nw, .int nf, .int bf, .int 1, .ref m10, .int ts, .int ap2_50, .int fs2_51, .int ln2_4, .int fo2_52, .int fa2_53, .ref m11, .ref m12, .ref m13, .ref m14, .int wr])), aJ G m1 560 mw, aZ G m2 2 ik, aI G m3 20 zs, aI G m4 20 cl, aI G m5 20 hs, aI G m6 20 ks, aI G m7 20 wa, aI G m8 20 ne, aI G m9 4 mn, aI G m10 400 tx, aI G m11 6 th, aI G m12 6 od, aI G m13 30 bk, aI G m14 30 bh] := hD
              have hv := hv r_49 ap2_50 fs2_51 fo2_52 fa2_53 hw
              refine va_put (D := G.1) (ci := 8) (v := .int r_49) (ty := .int) (C := RX8) (T := TX8) (N := 29) hx hb hts hinX8 tyX8 tyX8_ok nmX8 hown hKK.1 hP hD hS 0 rfl rfl 14 (by decide) kl140 (fun _ h9 => h9) rfl (by decide +kernel) rfl rfl (Nat.le_of_ble_eq_true rfl) dX8_takeClause_193 (fun H locs hP hD hS => ?_)
              have hP : va_P G.1 vwCl [(m0, .inr (8, [.ref m1, .ref m2, .ref m3, .ref m4, .ref m5, .ref m6, .ref m7, .ref m8, .ref m9, .int fu, .int fd, .int fi, .int nu, .int nw, .int r_49, .int bf, .int 1, .ref m10, .int ts, .int ap2_50, .int fs2_51, .int ln2_4, .int fo2_52, .int fa2_53, .ref m11, .ref m12, .ref m13, .ref m14, .int wr])), aJ G m1 560 mw, aZ G m2 2 ik, aI G m3 20 zs, aI G m4 20 cl, aI G m5 20 hs, aI G m6 20 ks, aI G m7 20 wa, aI G m8 20 ne, aI G m9 4 mn, aI G m10 400 tx, aI G m11 6 th, aI G m12 6 od, aI G m13 30 bk, aI G m14 30 bh] H := hP
              have hD : va_D A [(m0, .inr (8, [.ref m1, .ref m2, .ref m3, .ref m4, .ref m5, .ref m6, .ref m7, .ref m8, .ref m9, .int fu, .int fd, .int fi, .int nu, .int nw, .int r_49, .int bf, .int 1, .ref m10, .int ts, .int ap2_50, .int fs2_51, .int ln2_4, .int fo2_52, .int fa2_53, .ref m11, .ref m12, .ref m13, .ref m14, .int wr])), aJ G m1 560 mw, aZ G m2 2 ik, aI G m3 20 zs, aI G m4 20 cl, aI G m5 20 hs, aI G m6 20 ks, aI G m7 20 wa, aI G m8 20 ne, aI G m9 4 mn, aI G m10 400 tx, aI G m11 6 th, aI G m12 6 od, aI G m13 30 bk, aI G m14 30 bh] := hD
              exact K_23 _ _ _ _ _ _ _ _ _ _ _ _ _ _ _ _ _ _ _ _ hv hP hD hS hl
      · have hv := hv.2 hc_29
        refine lv_aload_n hx hb dX8_takeClause_84 rfl (lv_at hl 1 rfl) ?_
        refine lv_aload_n hx hb dX8_takeClause_85 rfl (lv_at hl 1 rfl) ?_
        refine va_get (D := G.1) (ci := 8) (v := .int bf) (C := RX8) (T := TX8) (N := 29) hx hb hts hinX8 hown hKK.1 hP 0 rfl rfl 15 (by decide) kl127 (fun _ h9 => h9) rfl dX8_takeClause_86 ?_
        refine lv_if_ne (tgt := 96) hx hb dX8_takeClause_89 (by decide) (fun hc_54 => ?_) (fun hc_54 => ?_)
        · have hv := hv.1 hc_54
          refine lv_iconst (v := 0) hx hb dX8_takeClause_96 (by decide) ?_
          refine lv_iconst (v := 3) hx hb dX8_takeClause_97 (by decide) ?_
          refine lv_iload_n hx hb dX8_takeClause_98 rfl (lv_at hl 0 rfl) ?_
          obtain ⟨hp, hv⟩ := hv
          refine x_calli (wr := []) (w' := fun (u : (Int32) × (Int32)) => [(m0, .inr (8, [.ref m1, .ref m2, .ref m3, .ref m4, .ref m5, .ref m6, .ref m7, .ref m8, .ref m9, .int fu, .int fd, .int fi, .int nu, .int nw, .int nf, .int bf, .int bn, .ref m10, .int ts, .int ap2_2, .int fs2_3, .int ln2_4, .int u.1, .int u.2, .ref m11, .ref m12, .ref m13, .ref m14, .int wr])), aJ G m1 560 mw, aZ G m2 2 ik, aI G m3 20 zs, aI G m4 20 cl, aI G m5 20 hs, aI G m6 20 ks, aI G m7 20 wa, aI G m8 20 ne, aI G m9 4 mn, aI G m10 400 tx, aI G m11 6 th, aI G m12 6 od, aI G m13 30 bk, aI G m14 30 bh]) (x_runV (As := [.int 0, .int 3, .int fs2_3]) (rest := []) (n := 3) (C := RX8) (ci := 8) ⟨hx, hb, hml, hown, hts⟩ (k_X8_want l G m0 m1 m2 m3 m4 m5 m6 m7 m8 m9 m10 m11 m12 m13 m14 _ mw ik zs cl hs ks wa ne mn tx th od bk bh fu fd fi nu nw nf bf bn ts ap2_2 fs2_3 ln2_4 fo fa wr 0 3 fs2_3 hp) gX8_takeClause_X8_want rfl (by decide +kernel) ⟨Nat.le_trans (Nat.le_of_ble_eq_true rfl) hRf, Nat.le_trans (Nat.le_of_ble_eq_true rfl) hRl⟩ hKK hSS hS hA hP hD [0, 1, 2, 3, 4, 5, 6, 7, 8, 9, 10, 11, 12, 13, 14] (by decide) rfl rfl rfl 0 rfl rfl hl.1 rfl (Nat.le_of_ble_eq_true rfl) dX8_takeClause_99) hP hD hS hA [0, 1, 2, 3, 4, 5, 6, 7, 8, 9, 10, 11, 12, 13, 14] [] [0, 1, 2, 3, 4, 5, 6, 7, 8, 9, 10, 11, 12, 13, 14] rfl rfl (by decide) (by decide) (by decide) (fun _ => rfl) (fun r_55 u H locs hw hP hD hS => ?_)
          obtain ⟨fo2_56, fa2_57⟩ := u
          have hP : va_P G.1 vwCl [(m0, .inr (8, [.ref m1, .ref m2, .ref m3, .ref m4, .ref m5, .ref m6, .ref m7, .ref m8, .ref m9, .int fu, .int fd, .int fi, .int nu, .int nw, .int nf, .int bf, .int bn, .ref m10, .int ts, .int ap2_2, .int fs2_3, .int ln2_4, .int fo2_56, .int fa2_57, .ref m11, .ref m12, .ref m13, .ref m14, .int wr])), aJ G m1 560 mw, aZ G m2 2 ik, aI G m3 20 zs, aI G m4 20 cl, aI G m5 20 hs, aI G m6 20 ks, aI G m7 20 wa, aI G m8 20 ne, aI G m9 4 mn, aI G m10 400 tx, aI G m11 6 th, aI G m12 6 od, aI G m13 30 bk, aI G m14 30 bh] H := hP
          have hD : va_D A [(m0, .inr (8, [.ref m1, .ref m2, .ref m3, .ref m4, .ref m5, .ref m6, .ref m7, .ref m8, .ref m9, .int fu, .int fd, .int fi, .int nu, .int nw, .int nf, .int bf, .int bn, .ref m10, .int ts, .int ap2_2, .int fs2_3, .int ln2_4, .int fo2_56, .int fa2_57, .ref m11, .ref m12, .ref m13, .ref m14, .int wr])), aJ G m1 560 mw, aZ G m2 2 ik, aI G m3 20 zs, aI G m4 20 cl, aI G m5 20 hs, aI G m6 20 ks, aI G m7 20 wa, aI G m8 20 ne, aI G m9 4 mn, aI G m10 400 tx, aI G m11 6 th, aI G m12 6 od, aI G m13 30 bk, aI G m14 30 bh] := hD
          have hv := hv r_55 fo2_56 fa2_57 hw
          refine lv_if_eq (tgt := 196) hx hb dX8_takeClause_102 (by decide) (fun hc_58 => ?_) (fun hc_58 => ?_)
          · have hv := hv.1 hc_58
            exact K_23 _ _ _ _ _ _ _ _ _ _ _ _ _ _ _ _ _ _ _ _ hv hP hD hS hl
          · have hv := hv.2 hc_58
            refine lv_aload_n hx hb dX8_takeClause_105 rfl (lv_at hl 1 rfl) ?_
            refine lv_iconst (v := 1) hx hb dX8_takeClause_106 (by decide) ?_
            refine va_put (D := G.1) (ci := 8) (v := .int 1) (ty := .boolean) (C := RX8) (T := TX8) (N := 29) hx hb hts hinX8 tyX8 tyX8_ok nmX8 hown hKK.1 hP hD hS 0 rfl rfl 15 (by decide) kl127 (fun _ h9 => h9) rfl (by decide +kernel) rfl rfl (Nat.le_of_ble_eq_true rfl) dX8_takeClause_107 (fun H locs hP hD hS => ?_)
            have hP : va_P G.1 vwCl [(m0, .inr (8, [.ref m1, .ref m2, .ref m3, .ref m4, .ref m5, .ref m6, .ref m7, .ref m8, .ref m9, .int fu, .int fd, .int fi, .int nu, .int nw, .int nf, .int 1, .int bn, .ref m10, .int ts, .int ap2_2, .int fs2_3, .int ln2_4, .int fo2_56, .int fa2_57, .ref m11, .ref m12, .ref m13, .ref m14, .int wr])), aJ G m1 560 mw, aZ G m2 2 ik, aI G m3 20 zs, aI G m4 20 cl, aI G m5 20 hs, aI G m6 20 ks, aI G m7 20 wa, aI G m8 20 ne, aI G m9 4 mn, aI G m10 400 tx, aI G m11 6 th, aI G m12 6 od, aI G m13 30 bk, aI G m14 30 bh] H := hP
            have hD : va_D A [(m0, .inr (8, [.ref m1, .ref m2, .ref m3, .ref m4, .ref m5, .ref m6, .ref m7, .ref m8, .ref m9, .int fu, .int fd, .int fi, .int nu, .int nw, .int nf, .int 1, .int bn, .ref m10, .int ts, .int ap2_2, .int fs2_3, .int ln2_4, .int fo2_56, .int fa2_57, .ref m11, .ref m12, .ref m13, .ref m14, .int wr])), aJ G m1 560 mw, aZ G m2 2 ik, aI G m3 20 zs, aI G m4 20 cl, aI G m5 20 hs, aI G m6 20 ks, aI G m7 20 wa, aI G m8 20 ne, aI G m9 4 mn, aI G m10 400 tx, aI G m11 6 th, aI G m12 6 od, aI G m13 30 bk, aI G m14 30 bh] := hD
            refine lv_aload_n hx hb dX8_takeClause_110 rfl (lv_at hl 1 rfl) ?_
            refine lv_aload_n hx hb dX8_takeClause_111 rfl (lv_at hl 1 rfl) ?_
            refine lv_iconst (v := 0) hx hb dX8_takeClause_112 (by decide) ?_
            refine lv_bipush (v := 99) hx hb dX8_takeClause_113 (by decide) ?_
            obtain ⟨hp, hv⟩ := hv
            refine x_calli (wr := []) (w' := fun (u : (Int32) × (Int32) × (Int32) × (Int32)) => [(m0, .inr (8, [.ref m1, .ref m2, .ref m3, .ref m4, .ref m5, .ref m6, .ref m7, .ref m8, .ref m9, .int fu, .int fd, .int fi, .int nu, .int nw, .int nf, .int 1, .int bn, .ref m10, .int ts, .int u.1, .int u.2.1, .int ln2_4, .int u.2.2.1, .int u.2.2.2, .ref m11, .ref m12, .ref m13, .ref m14, .int wr])), aJ G m1 560 mw, aZ G m2 2 ik, aI G m3 20 zs, aI G m4 20 cl, aI G m5 20 hs, aI G m6 20 ks, aI G m7 20 wa, aI G m8 20 ne, aI G m9 4 mn, aI G m10 400 tx, aI G m11 6 th, aI G m12 6 od, aI G m13 30 bk, aI G m14 30 bh]) (x_runV (As := [.int 0, .int 99]) (rest := [.ref m0]) (n := 2) (C := RX8) (ci := 8) ⟨hx, hb, hml, hown, hts⟩ (k_X8_takeNumber l G m0 m1 m2 m3 m4 m5 m6 m7 m8 m9 m10 m11 m12 m13 m14 _ mw ik zs cl hs ks wa ne mn tx th od bk bh fu fd fi nu nw nf 1 bn ts ap2_2 fs2_3 ln2_4 fo2_56 fa2_57 wr 0 99 hp) gX8_takeClause_X8_takeNumber rfl (by decide +kernel) ⟨Nat.le_trans (Nat.le_of_ble_eq_true rfl) hRf, Nat.le_trans (Nat.le_of_ble_eq_true rfl) hRl⟩ hKK hSS hS hA hP hD [0, 1, 2, 3, 4, 5, 6, 7, 8, 9, 10, 11, 12, 13, 14] (by decide) rfl rfl rfl 0 rfl rfl hl.1 rfl (Nat.le_of_ble_eq_true rfl) dX8_takeClause_115) hP hD hS hA [0, 1, 2, 3, 4, 5, 6, 7, 8, 9, 10, 11, 12, 13, 14] [] [0, 1, 2, 3, 4, 5, 6, 7, 8, 9, 10, 11, 12, 13, 14] rfl rfl (by decide) (by decide) (by decide) (fun _ => rfl) (fun r_59 u H locs hw hP hD hS => ?_)
            obtain ⟨ap2_60, fs2_61, fo2_62, fa2_63⟩ := u
            have hP : va_P G.1 vwCl [(m0, .inr (8, [.ref m1, .ref m2, .ref m3, .ref m4, .ref m5, .ref m6, .ref m7, .ref m8, .ref m9, .int fu, .int fd, .int fi, .int nu, .int nw, .int nf, .int 1, .int bn, .ref m10, .int ts, .int ap2_60, .int fs2_61, .int ln2_4, .int fo2_62, .int fa2_63, .ref m11, .ref m12, .ref m13, .ref m14, .int wr])), aJ G m1 560 mw, aZ G m2 2 ik, aI G m3 20 zs, aI G m4 20 cl, aI G m5 20 hs, aI G m6 20 ks, aI G m7 20 wa, aI G m8 20 ne, aI G m9 4 mn, aI G m10 400 tx, aI G m11 6 th, aI G m12 6 od, aI G m13 30 bk, aI G m14 30 bh] H := hP
            have hD : va_D A [(m0, .inr (8, [.ref m1, .ref m2, .ref m3, .ref m4, .ref m5, .ref m6, .ref m7, .ref m8, .ref m9, .int fu, .int fd, .int fi, .int nu, .int nw, .int nf, .int 1, .int bn, .ref m10, .int ts, .int ap2_60, .int fs2_61, .int ln2_4, .int fo2_62, .int fa2_63, .ref m11, .ref m12, .ref m13, .ref m14, .int wr])), aJ G m1 560 mw, aZ G m2 2 ik, aI G m3 20 zs, aI G m4 20 cl, aI G m5 20 hs, aI G m6 20 ks, aI G m7 20 wa, aI G m8 20 ne, aI G m9 4 mn, aI G m10 400 tx, aI G m11 6 th, aI G m12 6 od, aI G m13 30 bk, aI G m14 30 bh] := hD
            have hv := hv r_59 ap2_60 fs2_61 fo2_62 fa2_63 hw
            refine va_put (D := G.1) (ci := 8) (v := .int r_59) (ty := .int) (C := RX8) (T := TX8) (N := 29) hx hb hts hinX8 tyX8 tyX8_ok nmX8 hown hKK.1 hP hD hS 0 rfl rfl 12 (by decide) kl131 (fun _ h9 => h9) rfl (by decide +kernel) rfl rfl (Nat.le_of_ble_eq_true rfl) dX8_takeClause_118 (fun H locs hP hD hS => ?_)
            have hP : va_P G.1 vwCl [(m0, .inr (8, [.ref m1, .ref m2, .ref m3, .ref m4, .ref m5, .ref m6, .ref m7, .ref m8, .ref m9, .int fu, .int fd, .int fi, .int r_59, .int nw, .int nf, .int 1, .int bn, .ref m10, .int ts, .int ap2_60, .int fs2_61, .int ln2_4, .int fo2_62, .int fa2_63, .ref m11, .ref m12, .ref m13, .ref m14, .int wr])), aJ G m1 560 mw, aZ G m2 2 ik, aI G m3 20 zs, aI G m4 20 cl, aI G m5 20 hs, aI G m6 20 ks, aI G m7 20 wa, aI G m8 20 ne, aI G m9 4 mn, aI G m10 400 tx, aI G m11 6 th, aI G m12 6 od, aI G m13 30 bk, aI G m14 30 bh] H := hP
            have hD : va_D A [(m0, .inr (8, [.ref m1, .ref m2, .ref m3, .ref m4, .ref m5, .ref m6, .ref m7, .ref m8, .ref m9, .int fu, .int fd, .int fi, .int r_59, .int nw, .int nf, .int 1, .int bn, .ref m10, .int ts, .int ap2_60, .int fs2_61, .int ln2_4, .int fo2_62, .int fa2_63, .ref m11, .ref m12, .ref m13, .ref m14, .int wr])), aJ G m1 560 mw, aZ G m2 2 ik, aI G m3 20 zs, aI G m4 20 cl, aI G m5 20 hs, aI G m6 20 ks, aI G m7 20 wa, aI G m8 20 ne, aI G m9 4 mn, aI G m10 400 tx, aI G m11 6 th, aI G m12 6 od, aI G m13 30 bk, aI G m14 30 bh] := hD
            refine lv_aload_n hx hb dX8_takeClause_121 rfl (lv_at hl 1 rfl) ?_
            refine lv_aload_n hx hb dX8_takeClause_122 rfl (lv_at hl 1 rfl) ?_
            refine lv_iconst (v := 0) hx hb dX8_takeClause_123 (by decide) ?_
            refine lv_bipush (v := 99) hx hb dX8_takeClause_124 (by decide) ?_
            obtain ⟨hp, hv⟩ := hv
            refine x_calli (wr := []) (w' := fun (u : (Int32) × (Int32) × (Int32) × (Int32)) => [(m0, .inr (8, [.ref m1, .ref m2, .ref m3, .ref m4, .ref m5, .ref m6, .ref m7, .ref m8, .ref m9, .int fu, .int fd, .int fi, .int r_59, .int nw, .int nf, .int 1, .int bn, .ref m10, .int ts, .int u.1, .int u.2.1, .int ln2_4, .int u.2.2.1, .int u.2.2.2, .ref m11, .ref m12, .ref m13, .ref m14, .int wr])), aJ G m1 560 mw, aZ G m2 2 ik, aI G m3 20 zs, aI G m4 20 cl, aI G m5 20 hs, aI G m6 20 ks, aI G m7 20 wa, aI G m8 20 ne, aI G m9 4 mn, aI G m10 400 tx, aI G m11 6 th, aI G m12 6 od, aI G m13 30 bk, aI G m14 30 bh]) (x_runV (As := [.int 0, .int 99]) (rest := [.ref m0]) (n := 2) (C := RX8) (ci := 8) ⟨hx, hb, hml, hown, hts⟩ (k_X8_takeNumber l G m0 m1 m2 m3 m4 m5 m6 m7 m8 m9 m10 m11 m12 m13 m14 _ mw ik zs cl hs ks wa ne mn tx th od bk bh fu fd fi r_59 nw nf 1 bn ts ap2_60 fs2_61 ln2_4 fo2_62 fa2_63 wr 0 99 hp) gX8_takeClause_X8_takeNumber rfl (by decide +kernel) ⟨Nat.le_trans (Nat.le_of_ble_eq_true rfl) hRf, Nat.le_trans (Nat.le_of_ble_eq_true rfl) hRl⟩ hKK hSS hS hA hP hD [0, 1, 2, 3, 4, 5, 6, 7, 8, 9, 10, 11, 12, 13, 14] (by decide) rfl rfl rfl 0 rfl rfl hl.1 rfl (Nat.le_of_ble_eq_true rfl) dX8_takeClause_126) hP hD hS hA [0, 1, 2, 3, 4, 5, 6, 7, 8, 9, 10, 11, 12, 13, 14] [] [0, 1, 2, 3, 4, 5, 6, 7, 8, 9, 10, 11, 12, 13, 14] rfl rfl (by decide) (by decide) (by decide) (fun _ => rfl) (fun r_64 u H locs hw hP hD hS => ?_)
            obtain ⟨ap2_65, fs2_66, fo2_67, fa2_68⟩ := u
            have hP : va_P G.1 vwCl [(m0, .inr (8, [.ref m1, .ref m2, .ref m3, .ref m4, .ref m5, .ref m6, .ref m7, .ref m8, .ref m9, .int fu, .int fd, .int fi, .int r_59, .int nw, .int nf, .int 1, .int bn, .ref m10, .int ts, .int ap2_65, .int fs2_66, .int ln2_4, .int fo2_67, .int fa2_68, .ref m11, .ref m12, .ref m13, .ref m14, .int wr])), aJ G m1 560 mw, aZ G m2 2 ik, aI G m3 20 zs, aI G m4 20 cl, aI G m5 20 hs, aI G m6 20 ks, aI G m7 20 wa, aI G m8 20 ne, aI G m9 4 mn, aI G m10 400 tx, aI G m11 6 th, aI G m12 6 od, aI G m13 30 bk, aI G m14 30 bh] H := hP
            have hD : va_D A [(m0, .inr (8, [.ref m1, .ref m2, .ref m3, .ref m4, .ref m5, .ref m6, .ref m7, .ref m8, .ref m9, .int fu, .int fd, .int fi, .int r_59, .int nw, .int nf, .int 1, .int bn, .ref m10, .int ts, .int ap2_65, .int fs2_66, .int ln2_4, .int fo2_67, .int fa2_68, .ref m11, .ref m12, .ref m13, .ref m14, .int wr])), aJ G m1 560 mw, aZ G m2 2 ik, aI G m3 20 zs, aI G m4 20 cl, aI G m5 20 hs, aI G m6 20 ks, aI G m7 20 wa, aI G m8 20 ne, aI G m9 4 mn, aI G m10 400 tx, aI G m11 6 th, aI G m12 6 od, aI G m13 30 bk, aI G m14 30 bh] := hD
            have hv := hv r_64 ap2_65 fs2_66 fo2_67 fa2_68 hw
            refine va_put (D := G.1) (ci := 8) (v := .int r_64) (ty := .int) (C := RX8) (T := TX8) (N := 29) hx hb hts hinX8 tyX8 tyX8_ok nmX8 hown hKK.1 hP hD hS 0 rfl rfl 13 (by decide) kl134 (fun _ h9 => h9) rfl (by decide +kernel) rfl rfl (Nat.le_of_ble_eq_true rfl) dX8_takeClause_129 (fun H locs hP hD hS => ?_)
            have hP : va_P G.1 vwCl [(m0, .inr (8, [.ref m1, .ref m2, .ref m3, .ref m4, .ref m5, .ref m6, .ref m7, .ref m8, .ref m9, .int fu, .int fd, .int fi, .int r_59, .int r_64, .int nf, .int 1, .int bn, .ref m10, .int ts, .int ap2_65, .int fs2_66, .int ln2_4, .int fo2_67, .int fa2_68, .ref m11, .ref m12, .ref m13, .ref m14, .int wr])), aJ G m1 560 mw, aZ G m2 2 ik, aI G m3 20 zs, aI G m4 20 cl, aI G m5 20 hs, aI G m6 20 ks, aI G m7 20 wa, aI G m8 20 ne, aI G m9 4 mn, aI G m10 400 tx, aI G m11 6 th, aI G m12 6 od, aI G m13 30 bk, aI G m14 30 bh] H := hP
            have hD : va_D A [(m0, .inr (8, [.ref m1, .ref m2, .ref m3, .ref m4, .ref m5, .ref m6, .ref m7, .ref m8, .ref m9, .int fu, .int fd, .int fi, .int r_59, .int r_64, .int nf, .int 1, .int bn, .ref m10, .int ts, .int ap2_65, .int fs2_66, .int ln2_4, .int fo2_67, .int fa2_68, .ref m11, .ref m12, .ref m13, .ref m14, .int wr])), aJ G m1 560 mw, aZ G m2 2 ik, aI G m3 20 zs, aI G m4 20 cl, aI G m5 20 hs, aI G m6 20 ks, aI G m7 20 wa, aI G m8 20 ne, aI G m9 4 mn, aI G m10 400 tx, aI G m11 6 th, aI G m12 6 od, aI G m13 30 bk, aI G m14 30 bh] := hD
            refine lv_goto (tgt := 196) hx hb dX8_takeClause_132 (by decide) ?_
            exact K_23 _ _ _ _ _ _ _ _ _ _ _ _ _ _ _ _ _ _ _ _ hv hP hD hS hl
        · have hv := hv.2 hc_54
          refine lv_iconst (v := 1) hx hb dX8_takeClause_92 (by decide) ?_
          refine lv_goto (tgt := 97) hx hb dX8_takeClause_93 (by decide) ?_
          refine lv_iconst (v := 3) hx hb dX8_takeClause_97 (by decide) ?_
          refine lv_iload_n hx hb dX8_takeClause_98 rfl (lv_at hl 0 rfl) ?_
          obtain ⟨hp, hv⟩ := hv
          refine x_calli (wr := []) (w' := fun (u : (Int32) × (Int32)) => [(m0, .inr (8, [.ref m1, .ref m2, .ref m3, .ref m4, .ref m5, .ref m6, .ref m7, .ref m8, .ref m9, .int fu, .int fd, .int fi, .int nu, .int nw, .int nf, .int bf, .int bn, .ref m10, .int ts, .int ap2_2, .int fs2_3, .int ln2_4, .int u.1, .int u.2, .ref m11, .ref m12, .ref m13, .ref m14, .int wr])), aJ G m1 560 mw, aZ G m2 2 ik, aI G m3 20 zs, aI G m4 20 cl, aI G m5 20 hs, aI G m6 20 ks, aI G m7 20 wa, aI G m8 20 ne, aI G m9 4 mn, aI G m10 400 tx, aI G m11 6 th, aI G m12 6 od, aI G m13 30 bk, aI G m14 30 bh]) (x_runV (As := [.int 1, .int 3, .int fs2_3]) (rest := []) (n := 3) (C := RX8) (ci := 8) ⟨hx, hb, hml, hown, hts⟩ (k_X8_want l G m0 m1 m2 m3 m4 m5 m6 m7 m8 m9 m10 m11 m12 m13 m14 _ mw ik zs cl hs ks wa ne mn tx th od bk bh fu fd fi nu nw nf bf bn ts ap2_2 fs2_3 ln2_4 fo fa wr 1 3 fs2_3 hp) gX8_takeClause_X8_want rfl (by decide +kernel) ⟨Nat.le_trans (Nat.le_of_ble_eq_true rfl) hRf, Nat.le_trans (Nat.le_of_ble_eq_true rfl) hRl⟩ hKK hSS hS hA hP hD [0, 1, 2, 3, 4, 5, 6, 7, 8, 9, 10, 11, 12, 13, 14] (by decide) rfl rfl rfl 0 rfl rfl hl.1 rfl (Nat.le_of_ble_eq_true rfl) dX8_takeClause_99) hP hD hS hA [0, 1, 2, 3, 4, 5, 6, 7, 8, 9, 10, 11, 12, 13, 14] [] [0, 1, 2, 3, 4, 5, 6, 7, 8, 9, 10, 11, 12, 13, 14] rfl rfl (by decide) (by decide) (by decide) (fun _ => rfl) (fun r_69 u H locs hw hP hD hS => ?_)
          obtain ⟨fo2_70, fa2_71⟩ := u
          have hP : va_P G.1 vwCl [(m0, .inr (8, [.ref m1, .ref m2, .ref m3, .ref m4, .ref m5, .ref m6, .ref m7, .ref m8, .ref m9, .int fu, .int fd, .int fi, .int nu, .int nw, .int nf, .int bf, .int bn, .ref m10, .int ts, .int ap2_2, .int fs2_3, .int ln2_4, .int fo2_70, .int fa2_71, .ref m11, .ref m12, .ref m13, .ref m14, .int wr])), aJ G m1 560 mw, aZ G m2 2 ik, aI G m3 20 zs, aI G m4 20 cl, aI G m5 20 hs, aI G m6 20 ks, aI G m7 20 wa, aI G m8 20 ne, aI G m9 4 mn, aI G m10 400 tx, aI G m11 6 th, aI G m12 6 od, aI G m13 30 bk, aI G m14 30 bh] H := hP
          have hD : va_D A [(m0, .inr (8, [.ref m1, .ref m2, .ref m3, .ref m4, .ref m5, .ref m6, .ref m7, .ref m8, .ref m9, .int fu, .int fd, .int fi, .int nu, .int nw, .int nf, .int bf, .int bn, .ref m10, .int ts, .int ap2_2, .int fs2_3, .int ln2_4, .int fo2_70, .int fa2_71, .ref m11, .ref m12, .ref m13, .ref m14, .int wr])), aJ G m1 560 mw, aZ G m2 2 ik, aI G m3 20 zs, aI G m4 20 cl, aI G m5 20 hs, aI G m6 20 ks, aI G m7 20 wa, aI G m8 20 ne, aI G m9 4 mn, aI G m10 400 tx, aI G m11 6 th, aI G m12 6 od, aI G m13 30 bk, aI G m14 30 bh] := hD
          have hv := hv r_69 fo2_70 fa2_71 hw
          refine lv_if_eq (tgt := 196) hx hb dX8_takeClause_102 (by decide) (fun hc_72 => ?_) (fun hc_72 => ?_)
          · have hv := hv.1 hc_72
            exact K_23 _ _ _ _ _ _ _ _ _ _ _ _ _ _ _ _ _ _ _ _ hv hP hD hS hl
          · have hv := hv.2 hc_72
            refine lv_aload_n hx hb dX8_takeClause_105 rfl (lv_at hl 1 rfl) ?_
            refine lv_iconst (v := 1) hx hb dX8_takeClause_106 (by decide) ?_
            refine va_put (D := G.1) (ci := 8) (v := .int 1) (ty := .boolean) (C := RX8) (T := TX8) (N := 29) hx hb hts hinX8 tyX8 tyX8_ok nmX8 hown hKK.1 hP hD hS 0 rfl rfl 15 (by decide) kl127 (fun _ h9 => h9) rfl (by decide +kernel) rfl rfl (Nat.le_of_ble_eq_true rfl) dX8_takeClause_107 (fun H locs hP hD hS => ?_)
            have hP : va_P G.1 vwCl [(m0, .inr (8, [.ref m1, .ref m2, .ref m3, .ref m4, .ref m5, .ref m6, .ref m7, .ref m8, .ref m9, .int fu, .int fd, .int fi, .int nu, .int nw, .int nf, .int 1, .int bn, .ref m10, .int ts, .int ap2_2, .int fs2_3, .int ln2_4, .int fo2_70, .int fa2_71, .ref m11, .ref m12, .ref m13, .ref m14, .int wr])), aJ G m1 560 mw, aZ G m2 2 ik, aI G m3 20 zs, aI G m4 20 cl, aI G m5 20 hs, aI G m6 20 ks, aI G m7 20 wa, aI G m8 20 ne, aI G m9 4 mn, aI G m10 400 tx, aI G m11 6 th, aI G m12 6 od, aI G m13 30 bk, aI G m14 30 bh] H := hP
            have hD : va_D A [(m0, .inr (8, [.ref m1, .ref m2, .ref m3, .ref m4, .ref m5, .ref m6, .ref m7, .ref m8, .ref m9, .int fu, .int fd, .int fi, .int nu, .int nw, .int nf, .int 1, .int bn, .ref m10, .int ts, .int ap2_2, .int fs2_3, .int ln2_4, .int fo2_70, .int fa2_71, .ref m11, .ref m12, .ref m13, .ref m14, .int wr])), aJ G m1 560 mw, aZ G m2 2 ik, aI G m3 20 zs, aI G m4 20 cl, aI G m5 20 hs, aI G m6 20 ks, aI G m7 20 wa, aI G m8 20 ne, aI G m9 4 mn, aI G m10 400 tx, aI G m11 6 th, aI G m12 6 od, aI G m13 30 bk, aI G m14 30 bh] := hD
            refine lv_aload_n hx hb dX8_takeClause_110 rfl (lv_at hl 1 rfl) ?_
            refine lv_aload_n hx hb dX8_takeClause_111 rfl (lv_at hl 1 rfl) ?_
            refine lv_iconst (v := 0) hx hb dX8_takeClause_112 (by decide) ?_
            refine lv_bipush (v := 99) hx hb dX8_takeClause_113 (by decide) ?_
            obtain ⟨hp, hv⟩ := hv
            refine x_calli (wr := []) (w' := fun (u : (Int32) × (Int32) × (Int32) × (Int32)) => [(m0, .inr (8, [.ref m1, .ref m2, .ref m3, .ref m4, .ref m5, .ref m6, .ref m7, .ref m8, .ref m9, .int fu, .int fd, .int fi, .int nu, .int nw, .int nf, .int 1, .int bn, .ref m10, .int ts, .int u.1, .int u.2.1, .int ln2_4, .int u.2.2.1, .int u.2.2.2, .ref m11, .ref m12, .ref m13, .ref m14, .int wr])), aJ G m1 560 mw, aZ G m2 2 ik, aI G m3 20 zs, aI G m4 20 cl, aI G m5 20 hs, aI G m6 20 ks, aI G m7 20 wa, aI G m8 20 ne, aI G m9 4 mn, aI G m10 400 tx, aI G m11 6 th, aI G m12 6 od, aI G m13 30 bk, aI G m14 30 bh]) (x_runV (As := [.int 0, .int 99]) (rest := [.ref m0]) (n := 2) (C := RX8) (ci := 8) ⟨hx, hb, hml, hown, hts⟩ (k_X8_takeNumber l G m0 m1 m2 m3 m4 m5 m6 m7 m8 m9 m10 m11 m12 m13 m14 _ mw ik zs cl hs ks wa ne mn tx th od bk bh fu fd fi nu nw nf 1 bn ts ap2_2 fs2_3 ln2_4 fo2_70 fa2_71 wr 0 99 hp) gX8_takeClause_X8_takeNumber rfl (by decide +kernel) ⟨Nat.le_trans (Nat.le_of_ble_eq_true rfl) hRf, Nat.le_trans (Nat.le_of_ble_eq_true rfl) hRl⟩ hKK hSS hS hA hP hD [0, 1, 2, 3, 4, 5, 6, 7, 8, 9, 10, 11, 12, 13, 14] (by decide) rfl rfl rfl 0 rfl rfl hl.1 rfl (Nat.le_of_ble_eq_true rfl) dX8_takeClause_115) hP hD hS hA [0, 1, 2, 3, 4, 5, 6, 7, 8, 9, 10, 11, 12, 13, 14] [] [0, 1, 2, 3, 4, 5, 6, 7, 8, 9, 10, 11, 12, 13, 14] rfl rfl (by decide) (by decide) (by decide) (fun _ => rfl) (fun r_73 u H locs hw hP hD hS => ?_)
            obtain ⟨ap2_74, fs2_75, fo2_76, fa2_77⟩ := u
            have hP : va_P G.1 vwCl [(m0, .inr (8, [.ref m1, .ref m2, .ref m3, .ref m4, .ref m5, .ref m6, .ref m7, .ref m8, .ref m9, .int fu, .int fd, .int fi, .int nu, .int nw, .int nf, .int 1, .int bn, .ref m10, .int ts, .int ap2_74, .int fs2_75, .int ln2_4, .int fo2_76, .int fa2_77, .ref m11, .ref m12, .ref m13, .ref m14, .int wr])), aJ G m1 560 mw, aZ G m2 2 ik, aI G m3 20 zs, aI G m4 20 cl, aI G m5 20 hs, aI G m6 20 ks, aI G m7 20 wa, aI G m8 20 ne, aI G m9 4 mn, aI G m10 400 tx, aI G m11 6 th, aI G m12 6 od, aI G m13 30 bk, aI G m14 30 bh] H := hP
            have hD : va_D A [(m0, .inr (8, [.ref m1, .ref m2, .ref m3, .ref m4, .ref m5, .ref m6, .ref m7, .ref m8, .ref m9, .int fu, .int fd, .int fi, .int nu, .int nw, .int nf, .int 1, .int bn, .ref m10, .int ts, .int ap2_74, .int fs2_75, .int ln2_4, .int fo2_76, .int fa2_77, .ref m11, .ref m12, .ref m13, .ref m14, .int wr])), aJ G m1 560 mw, aZ G m2 2 ik, aI G m3 20 zs, aI G m4 20 cl, aI G m5 20 hs, aI G m6 20 ks, aI G m7 20 wa, aI G m8 20 ne, aI G m9 4 mn, aI G m10 400 tx, aI G m11 6 th, aI G m12 6 od, aI G m13 30 bk, aI G m14 30 bh] := hD
            have hv := hv r_73 ap2_74 fs2_75 fo2_76 fa2_77 hw
            refine va_put (D := G.1) (ci := 8) (v := .int r_73) (ty := .int) (C := RX8) (T := TX8) (N := 29) hx hb hts hinX8 tyX8 tyX8_ok nmX8 hown hKK.1 hP hD hS 0 rfl rfl 12 (by decide) kl131 (fun _ h9 => h9) rfl (by decide +kernel) rfl rfl (Nat.le_of_ble_eq_true rfl) dX8_takeClause_118 (fun H locs hP hD hS => ?_)
            have hP : va_P G.1 vwCl [(m0, .inr (8, [.ref m1, .ref m2, .ref m3, .ref m4, .ref m5, .ref m6, .ref m7, .ref m8, .ref m9, .int fu, .int fd, .int fi, .int r_73, .int nw, .int nf, .int 1, .int bn, .ref m10, .int ts, .int ap2_74, .int fs2_75, .int ln2_4, .int fo2_76, .int fa2_77, .ref m11, .ref m12, .ref m13, .ref m14, .int wr])), aJ G m1 560 mw, aZ G m2 2 ik, aI G m3 20 zs, aI G m4 20 cl, aI G m5 20 hs, aI G m6 20 ks, aI G m7 20 wa, aI G m8 20 ne, aI G m9 4 mn, aI G m10 400 tx, aI G m11 6 th, aI G m12 6 od, aI G m13 30 bk, aI G m14 30 bh] H := hP
            have hD : va_D A [(m0, .inr (8, [.ref m1, .ref m2, .ref m3, .ref m4, .ref m5, .ref m6, .ref m7, .ref m8, .ref m9, .int fu, .int fd, .int fi, .int r_73, .int nw, .int nf, .int 1, .int bn, .ref m10, .int ts, .int ap2_74, .int fs2_75, .int ln2_4, .int fo2_76, .int fa2_77, .ref m11, .ref m12, .ref m13, .ref m14, .int wr])), aJ G m1 560 mw, aZ G m2 2 ik, aI G m3 20 zs, aI G m4 20 cl, aI G m5 20 hs, aI G m6 20 ks, aI G m7 20 wa, aI G m8 20 ne, aI G m9 4 mn, aI G m10 400 tx, aI G m11 6 th, aI G m12 6 od, aI G m13 30 bk, aI G m14 30 bh] := hD
            refine lv_aload_n hx hb dX8_takeClause_121 rfl (lv_at hl 1 rfl) ?_
            refine lv_aload_n hx hb dX8_takeClause_122 rfl (lv_at hl 1 rfl) ?_
            refine lv_iconst (v := 0) hx hb dX8_takeClause_123 (by decide) ?_
            refine lv_bipush (v := 99) hx hb dX8_takeClause_124 (by decide) ?_
            obtain ⟨hp, hv⟩ := hv
            refine x_calli (wr := []) (w' := fun (u : (Int32) × (Int32) × (Int32) × (Int32)) => [(m0, .inr (8, [.ref m1, .ref m2, .ref m3, .ref m4, .ref m5, .ref m6, .ref m7, .ref m8, .ref m9, .int fu, .int fd, .int fi, .int r_73, .int nw, .int nf, .int 1, .int bn, .ref m10, .int ts, .int u.1, .int u.2.1, .int ln2_4, .int u.2.2.1, .int u.2.2.2, .ref m11, .ref m12, .ref m13, .ref m14, .int wr])), aJ G m1 560 mw, aZ G m2 2 ik, aI G m3 20 zs, aI G m4 20 cl, aI G m5 20 hs, aI G m6 20 ks, aI G m7 20 wa, aI G m8 20 ne, aI G m9 4 mn, aI G m10 400 tx, aI G m11 6 th, aI G m12 6 od, aI G m13 30 bk, aI G m14 30 bh]) (x_runV (As := [.int 0, .int 99]) (rest := [.ref m0]) (n := 2) (C := RX8) (ci := 8) ⟨hx, hb, hml, hown, hts⟩ (k_X8_takeNumber l G m0 m1 m2 m3 m4 m5 m6 m7 m8 m9 m10 m11 m12 m13 m14 _ mw ik zs cl hs ks wa ne mn tx th od bk bh fu fd fi r_73 nw nf 1 bn ts ap2_74 fs2_75 ln2_4 fo2_76 fa2_77 wr 0 99 hp) gX8_takeClause_X8_takeNumber rfl (by decide +kernel) ⟨Nat.le_trans (Nat.le_of_ble_eq_true rfl) hRf, Nat.le_trans (Nat.le_of_ble_eq_true rfl) hRl⟩ hKK hSS hS hA hP hD [0, 1, 2, 3, 4, 5, 6, 7, 8, 9, 10, 11, 12, 13, 14] (by decide) rfl rfl rfl 0 rfl rfl hl.1 rfl (Nat.le_of_ble_eq_true rfl) dX8_takeClause_126) hP hD hS hA [0, 1, 2, 3, 4, 5, 6, 7, 8, 9, 10, 11, 12, 13, 14] [] [0, 1, 2, 3, 4, 5, 6, 7, 8, 9, 10, 11, 12, 13, 14] rfl rfl (by decide) (by decide) (by decide) (fun _ => rfl) (fun r_78 u H locs hw hP hD hS => ?_)
            obtain ⟨ap2_79, fs2_80, fo2_81, fa2_82⟩ := u
            have hP : va_P G.1 vwCl [(m0, .inr (8, [.ref m1, .ref m2, .ref m3, .ref m4, .ref m5, .ref m6, .ref m7, .ref m8, .ref m9, .int fu, .int fd, .int fi, .int r_73, .int nw, .int nf, .int 1, .int bn, .ref m10, .int ts, .int ap2_79, .int fs2_80, .int ln2_4, .int fo2_81, .int fa2_82, .ref m11, .ref m12, .ref m13, .ref m14, .int wr])), aJ G m1 560 mw, aZ G m2 2 ik, aI G m3 20 zs, aI G m4 20 cl, aI G m5 20 hs, aI G m6 20 ks, aI G m7 20 wa, aI G m8 20 ne, aI G m9 4 mn, aI G m10 400 tx, aI G m11 6 th, aI G m12 6 od, aI G m13 30 bk, aI G m14 30 bh] H := hP
            have hD : va_D A [(m0, .inr (8, [.ref m1, .ref m2, .ref m3, .ref m4, .ref m5, .ref m6, .ref m7, .ref m8, .ref m9, .int fu, .int fd, .int fi, .int r_73, .int nw, .int nf, .int 1, .int bn, .ref m10, .int ts, .int ap2_79, .int fs2_80, .int ln2_4, .int fo2_81, .int fa2_82, .ref m11, .ref m12, .ref m13, .ref m14, .int wr])), aJ G m1 560 mw, aZ G m2 2 ik, aI G m3 20 zs, aI G m4 20 cl, aI G m5 20 hs, aI G m6 20 ks, aI G m7 20 wa, aI G m8 20 ne, aI G m9 4 mn, aI G m10 400 tx, aI G m11 6 th, aI G m12 6 od, aI G m13 30 bk, aI G m14 30 bh] := hD
            have hv := hv r_78 ap2_79 fs2_80 fo2_81 fa2_82 hw
            refine va_put (D := G.1) (ci := 8) (v := .int r_78) (ty := .int) (C := RX8) (T := TX8) (N := 29) hx hb hts hinX8 tyX8 tyX8_ok nmX8 hown hKK.1 hP hD hS 0 rfl rfl 13 (by decide) kl134 (fun _ h9 => h9) rfl (by decide +kernel) rfl rfl (Nat.le_of_ble_eq_true rfl) dX8_takeClause_129 (fun H locs hP hD hS => ?_)
            have hP : va_P G.1 vwCl [(m0, .inr (8, [.ref m1, .ref m2, .ref m3, .ref m4, .ref m5, .ref m6, .ref m7, .ref m8, .ref m9, .int fu, .int fd, .int fi, .int r_73, .int r_78, .int nf, .int 1, .int bn, .ref m10, .int ts, .int ap2_79, .int fs2_80, .int ln2_4, .int fo2_81, .int fa2_82, .ref m11, .ref m12, .ref m13, .ref m14, .int wr])), aJ G m1 560 mw, aZ G m2 2 ik, aI G m3 20 zs, aI G m4 20 cl, aI G m5 20 hs, aI G m6 20 ks, aI G m7 20 wa, aI G m8 20 ne, aI G m9 4 mn, aI G m10 400 tx, aI G m11 6 th, aI G m12 6 od, aI G m13 30 bk, aI G m14 30 bh] H := hP
            have hD : va_D A [(m0, .inr (8, [.ref m1, .ref m2, .ref m3, .ref m4, .ref m5, .ref m6, .ref m7, .ref m8, .ref m9, .int fu, .int fd, .int fi, .int r_73, .int r_78, .int nf, .int 1, .int bn, .ref m10, .int ts, .int ap2_79, .int fs2_80, .int ln2_4, .int fo2_81, .int fa2_82, .ref m11, .ref m12, .ref m13, .ref m14, .int wr])), aJ G m1 560 mw, aZ G m2 2 ik, aI G m3 20 zs, aI G m4 20 cl, aI G m5 20 hs, aI G m6 20 ks, aI G m7 20 wa, aI G m8 20 ne, aI G m9 4 mn, aI G m10 400 tx, aI G m11 6 th, aI G m12 6 od, aI G m13 30 bk, aI G m14 30 bh] := hD
            refine lv_goto (tgt := 196) hx hb dX8_takeClause_132 (by decide) ?_
            exact K_23 _ _ _ _ _ _ _ _ _ _ _ _ _ _ _ _ _ _ _ _ hv hP hD hS hl
    · have hv := hv.2 hc_27
      refine lv_aload_n hx hb dX8_takeClause_57 rfl (lv_at hl 1 rfl) ?_
      refine lv_iload_n hx hb dX8_takeClause_58 rfl (lv_at hl 0 rfl) ?_
      obtain ⟨hp, hv⟩ := hv
      refine x_callv (wr := []) (w' := fun (u : (Nat → Int32) × (Nat → Int32) × (Nat → Int32) × (Nat → Int32) × (Int32) × (Int32) × (Int32) × (Int32) × (Int32)) => [(m0, .inr (8, [.ref m1, .ref m2, .ref m3, .ref m4, .ref m5, .ref m6, .ref m7, .ref m8, .ref m9, .int fu, .int fd, .int fi, .int nu, .int nw, .int nf, .int bf, .int bn, .ref m10, .int ts, .int u.2.2.2.2.1, .int u.2.2.2.2.2.1, .int u.2.2.2.2.2.2.1, .int u.2.2.2.2.2.2.2.1, .int u.2.2.2.2.2.2.2.2, .ref m11, .ref m12, .ref m13, .ref m14, .int wr])), aJ G m1 560 mw, aZ G m2 2 ik, aI G m3 20 zs, aI G m4 20 cl, aI G m5 20 hs, aI G m6 20 u.1, aI G m7 20 u.2.1, aI G m8 20 u.2.2.1, aI G m9 4 u.2.2.2.1, aI G m10 400 tx, aI G m11 6 th, aI G m12 6 od, aI G m13 30 bk, aI G m14 30 bh]) (x_runV (As := [.int fs2_3]) (rest := []) (n := 1) (C := RX8) (ci := 8) ⟨hx, hb, hml, hown, hts⟩ (k_X8_takePerson l G m0 m1 m2 m3 m4 m5 m6 m7 m8 m9 m10 m11 m12 m13 m14 _ mw ik zs cl hs ks wa ne mn tx th od bk bh fu fd fi nu nw nf bf bn ts ap2_2 fs2_3 ln2_4 fo fa wr fs2_3 hp) gX8_takeClause_X8_takePerson rfl (by decide +kernel) ⟨Nat.le_trans (Nat.le_of_ble_eq_true rfl) hRf, Nat.le_trans (Nat.le_of_ble_eq_true rfl) hRl⟩ hKK hSS hS hA hP hD [0, 1, 2, 3, 4, 5, 6, 7, 8, 9, 10, 11, 12, 13, 14] (by decide) rfl rfl rfl 0 rfl rfl hl.1 rfl (Nat.le_of_ble_eq_true rfl) dX8_takeClause_59) hP hD hS hA [0, 1, 2, 3, 4, 5, 6, 7, 8, 9, 10, 11, 12, 13, 14] [] [0, 1, 2, 3, 4, 5, 6, 7, 8, 9, 10, 11, 12, 13, 14] rfl rfl (by decide) (by decide) (by decide) (fun _ => rfl) (fun  u H locs hw hP hD hS => ?_)
      obtain ⟨ks2_84, wa2_85, ne2_86, mn2_87, ap2_88, fs2_89, ln2_90, fo2_91, fa2_92⟩ := u
      have hP : va_P G.1 vwCl [(m0, .inr (8, [.ref m1, .ref m2, .ref m3, .ref m4, .ref m5, .ref m6, .ref m7, .ref m8, .ref m9, .int fu, .int fd, .int fi, .int nu, .int nw, .int nf, .int bf, .int bn, .ref m10, .int ts, .int ap2_88, .int fs2_89, .int ln2_90, .int fo2_91, .int fa2_92, .ref m11, .ref m12, .ref m13, .ref m14, .int wr])), aJ G m1 560 mw, aZ G m2 2 ik, aI G m3 20 zs, aI G m4 20 cl, aI G m5 20 hs, aI G m6 20 ks2_84, aI G m7 20 wa2_85, aI G m8 20 ne2_86, aI G m9 4 mn2_87, aI G m10 400 tx, aI G m11 6 th, aI G m12 6 od, aI G m13 30 bk, aI G m14 30 bh] H := hP
      have hD : va_D A [(m0, .inr (8, [.ref m1, .ref m2, .ref m3, .ref m4, .ref m5, .ref m6, .ref m7, .ref m8, .ref m9, .int fu, .int fd, .int fi, .int nu, .int nw, .int nf, .int bf, .int bn, .ref m10, .int ts, .int ap2_88, .int fs2_89, .int ln2_90, .int fo2_91, .int fa2_92, .ref m11, .ref m12, .ref m13, .ref m14, .int wr])), aJ G m1 560 mw, aZ G m2 2 ik, aI G m3 20 zs, aI G m4 20 cl, aI G m5 20 hs, aI G m6 20 ks2_84, aI G m7 20 wa2_85, aI G m8 20 ne2_86, aI G m9 4 mn2_87, aI G m10 400 tx, aI G m11 6 th, aI G m12 6 od, aI G m13 30 bk, aI G m14 30 bh] := hD
      have hv := hv ks2_84 wa2_85 ne2_86 mn2_87 ap2_88 fs2_89 ln2_90 fo2_91 fa2_92 hw
      refine lv_goto (tgt := 196) hx hb dX8_takeClause_62 (by decide) ?_
      exact K_23 _ _ _ _ _ _ _ _ _ _ _ _ _ _ _ _ _ _ _ _ hv hP hD hS hl
  · have hv := hv.2 hc_25
    refine lv_aload_n hx hb dX8_takeClause_28 rfl (lv_at hl 1 rfl) ?_
    refine lv_iload_n hx hb dX8_takeClause_29 rfl (lv_at hl 0 rfl) ?_
    obtain ⟨hp, hv⟩ := hv
    refine x_callv (wr := []) (w' := fun (u : (Nat → Int32) × (Nat → Int32) × (Nat → Int32) × (Nat → Int32) × (Int32) × (Int32) × (Int32) × (Int32)) => [(m0, .inr (8, [.ref m1, .ref m2, .ref m3, .ref m4, .ref m5, .ref m6, .ref m7, .ref m8, .ref m9, .int fu, .int fd, .int fi, .int nu, .int nw, .int nf, .int bf, .int bn, .ref m10, .int ts, .int u.2.2.2.2.1, .int u.2.2.2.2.2.1, .int ln2_4, .int u.2.2.2.2.2.2.1, .int u.2.2.2.2.2.2.2, .ref m11, .ref m12, .ref m13, .ref m14, .int wr])), aJ G m1 560 mw, aZ G m2 2 ik, aI G m3 20 u.1, aI G m4 20 u.2.1, aI G m5 20 u.2.2.1, aI G m6 20 ks, aI G m7 20 wa, aI G m8 20 ne, aI G m9 4 u.2.2.2.1, aI G m10 400 tx, aI G m11 6 th, aI G m12 6 od, aI G m13 30 bk, aI G m14 30 bh]) (x_runV (As := [.int fs2_3]) (rest := []) (n := 1) (C := RX8) (ci := 8) ⟨hx, hb, hml, hown, hts⟩ (k_X8_takeStone l G m0 m1 m2 m3 m4 m5 m6 m7 m8 m9 m10 m11 m12 m13 m14 _ mw ik zs cl hs ks wa ne mn tx th od bk bh fu fd fi nu nw nf bf bn ts ap2_2 fs2_3 ln2_4 fo fa wr fs2_3 hp) gX8_takeClause_X8_takeStone rfl (by decide +kernel) ⟨Nat.le_trans (Nat.le_of_ble_eq_true rfl) hRf, Nat.le_trans (Nat.le_of_ble_eq_true rfl) hRl⟩ hKK hSS hS hA hP hD [0, 1, 2, 3, 4, 5, 6, 7, 8, 9, 10, 11, 12, 13, 14] (by decide) rfl rfl rfl 0 rfl rfl hl.1 rfl (Nat.le_of_ble_eq_true rfl) dX8_takeClause_30) hP hD hS hA [0, 1, 2, 3, 4, 5, 6, 7, 8, 9, 10, 11, 12, 13, 14] [] [0, 1, 2, 3, 4, 5, 6, 7, 8, 9, 10, 11, 12, 13, 14] rfl rfl (by decide) (by decide) (by decide) (fun _ => rfl) (fun  u H locs hw hP hD hS => ?_)
    obtain ⟨zs2_94, cl2_95, hs2_96, mn2_97, ap2_98, fs2_99, fo2_100, fa2_101⟩ := u
    have hP : va_P G.1 vwCl [(m0, .inr (8, [.ref m1, .ref m2, .ref m3, .ref m4, .ref m5, .ref m6, .ref m7, .ref m8, .ref m9, .int fu, .int fd, .int fi, .int nu, .int nw, .int nf, .int bf, .int bn, .ref m10, .int ts, .int ap2_98, .int fs2_99, .int ln2_4, .int fo2_100, .int fa2_101, .ref m11, .ref m12, .ref m13, .ref m14, .int wr])), aJ G m1 560 mw, aZ G m2 2 ik, aI G m3 20 zs2_94, aI G m4 20 cl2_95, aI G m5 20 hs2_96, aI G m6 20 ks, aI G m7 20 wa, aI G m8 20 ne, aI G m9 4 mn2_97, aI G m10 400 tx, aI G m11 6 th, aI G m12 6 od, aI G m13 30 bk, aI G m14 30 bh] H := hP
    have hD : va_D A [(m0, .inr (8, [.ref m1, .ref m2, .ref m3, .ref m4, .ref m5, .ref m6, .ref m7, .ref m8, .ref m9, .int fu, .int fd, .int fi, .int nu, .int nw, .int nf, .int bf, .int bn, .ref m10, .int ts, .int ap2_98, .int fs2_99, .int ln2_4, .int fo2_100, .int fa2_101, .ref m11, .ref m12, .ref m13, .ref m14, .int wr])), aJ G m1 560 mw, aZ G m2 2 ik, aI G m3 20 zs2_94, aI G m4 20 cl2_95, aI G m5 20 hs2_96, aI G m6 20 ks, aI G m7 20 wa, aI G m8 20 ne, aI G m9 4 mn2_97, aI G m10 400 tx, aI G m11 6 th, aI G m12 6 od, aI G m13 30 bk, aI G m14 30 bh] := hD
    have hv := hv zs2_94 cl2_95 hs2_96 mn2_97 ap2_98 fs2_99 fo2_100 fa2_101 hw
    refine lv_goto (tgt := 196) hx hb dX8_takeClause_33 (by decide) ?_
    exact K_23 _ _ _ _ _ _ _ _ _ _ _ _ _ _ _ _ _ _ _ _ hv hP hD hS hl
theorem k_X8_takeClause (l : Launch) (G : Gt) (m0 m1 m2 m3 m4 m5 m6 m7 m8 m9 m10 m11 m12 m13 m14 : Nat) (sz : Nat) (mw : Nat → Int64) (ik : Nat → Int32) (zs : Nat → Int32) (cl : Nat → Int32) (hs : Nat → Int32) (ks : Nat → Int32) (wa : Nat → Int32) (ne : Nat → Int32) (mn : Nat → Int32) (tx : Nat → Int32) (th : Nat → Int32) (od : Nat → Int32) (bk : Nat → Int32) (bh : Nat → Int32) (fu : Int32) (fd : Int32) (fi : Int32) (nu : Int32) (nw : Int32) (nf : Int32) (bf : Int32) (bn : Int32) (ts : Int32) (ap : Int32) (fs : Int32) (ln : Int32) (fo : Int32) (fa : Int32) (wr : Int32) (hp : True) : MetV l yX8_takeClause wsX8_takeClause 3 73 G [.ref m0] [(m0, .inr (8, [.ref m1, .ref m2, .ref m3, .ref m4, .ref m5, .ref m6, .ref m7, .ref m8, .ref m9, .int fu, .int fd, .int fi, .int nu, .int nw, .int nf, .int bf, .int bn, .ref m10, .int ts, .int ap, .int fs, .int ln, .int fo, .int fa, .ref m11, .ref m12, .ref m13, .ref m14, .int wr])), aJ G m1 560 mw, aZ G m2 2 ik, aI G m3 20 zs, aI G m4 20 cl, aI G m5 20 hs, aI G m6 20 ks, aI G m7 20 wa, aI G m8 20 ne, aI G m9 4 mn, aI G m10 400 tx, aI G m11 6 th, aI G m12 6 od, aI G m13 30 bk, aI G m14 30 bh] sz (fun (u : (Nat → Int32) × (Nat → Int32) × (Nat → Int32) × (Nat → Int32) × (Nat → Int32) × (Nat → Int32) × (Nat → Int32) × (Int32) × (Int32) × (Int32) × (Int32) × (Int32) × (Int32) × (Int32) × (Int32) × (Int32) × (Int32)) => True) (fun (u : (Nat → Int32) × (Nat → Int32) × (Nat → Int32) × (Nat → Int32) × (Nat → Int32) × (Nat → Int32) × (Nat → Int32) × (Int32) × (Int32) × (Int32) × (Int32) × (Int32) × (Int32) × (Int32) × (Int32) × (Int32) × (Int32)) => [(m0, .inr (8, [.ref m1, .ref m2, .ref m3, .ref m4, .ref m5, .ref m6, .ref m7, .ref m8, .ref m9, .int fu, .int fd, .int fi, .int u.2.2.2.2.2.2.2.2.2.2.2.2.2.2.1, .int u.2.2.2.2.2.2.2.2.2.2.2.2.2.2.2.1, .int u.2.2.2.2.2.2.2.2.2.2.2.2.2.2.2.2, .int u.2.2.2.2.2.2.2.2.2.2.2.2.1, .int u.2.2.2.2.2.2.2.2.2.2.2.2.2.1, .ref m10, .int ts, .int u.2.2.2.2.2.2.2.1, .int u.2.2.2.2.2.2.2.2.1, .int u.2.2.2.2.2.2.2.2.2.1, .int u.2.2.2.2.2.2.2.2.2.2.1, .int u.2.2.2.2.2.2.2.2.2.2.2.1, .ref m11, .ref m12, .ref m13, .ref m14, .int wr])), aJ G m1 560 mw, aZ G m2 2 ik, aI G m3 20 u.1, aI G m4 20 u.2.1, aI G m5 20 u.2.2.1, aI G m6 20 u.2.2.2.1, aI G m7 20 u.2.2.2.2.1, aI G m8 20 u.2.2.2.2.2.1, aI G m9 4 u.2.2.2.2.2.2.1, aI G m10 400 tx, aI G m11 6 th, aI G m12 6 od, aI G m13 30 bk, aI G m14 30 bh]) :=
  c_X8_takeClause l G m0 m1 m2 m3 m4 m5 m6 m7 m8 m9 m10 m11 m12 m13 m14 sz mw ik zs cl hs ks wa ne mn tx th od bk bh fu fd fi nu nw nf bf bn ts ap fs ln fo fa wr (by
    sorry)

set_option maxHeartbeats 4000000 in
set_option maxRecDepth 100000 in
theorem c_X8_begin (l : Launch) (G : Gt) (m0 m1 m2 m3 m4 m5 m6 m7 m8 m9 m10 m11 m12 m13 m14 : Nat) (sz : Nat) (mw : Nat → Int64) (ik : Nat → Int32) (zs : Nat → Int32) (cl : Nat → Int32) (hs : Nat → Int32) (ks : Nat → Int32) (wa : Nat → Int32) (ne : Nat → Int32) (mn : Nat → Int32) (tx : Nat → Int32) (th : Nat → Int32) (od : Nat → Int32) (bk : Nat → Int32) (bh : Nat → Int32) (fu : Int32) (fd : Int32) (fi : Int32) (nu : Int32) (nw : Int32) (nf : Int32) (bf : Int32) (bn : Int32) (ts : Int32) (ap : Int32) (fs : Int32) (ln : Int32) (fo : Int32) (fa : Int32) (wr : Int32) (hv : ∀ (y_1 : Int64), (y_1 = (mw 133)) → (∃ (I11_4 : (Nat → Int64) → Int32 → Prop) (μ11_5 : (Nat → Int64) → Int32 → Nat), I11_4 mw 0 ∧ (∀ (fm1_2 : (Nat → Int64)) (x3_3 : Int32), I11_4 fm1_2 x3_3 → (140 ≤ x3_3 → ∃ (I33_11 : (Nat → Int64) → Int32 → Prop) (μ33_12 : (Nat → Int64) → Int32 → Nat), I33_11 fm1_2 0 ∧ (∀ (fm1_9 : (Nat → Int64)) (x3_10 : Int32), I33_11 fm1_9 x3_10 → (10 ≤ x3_10 → ∀ (fm1_16 : (Nat → Int64)), (fm1_16 = (vp_updL fm1_9 133 y_1)) → (True)) ∧ (¬ (10 ≤ x3_10) → (vp_in x3_10 20) ∧ ((vp_in x3_10 560) ∧ (∀ (fm1_17 : (Nat → Int64)), (fm1_17 = (vp_updL fm1_9 x3_10.toNatClampNeg ((hs x3_10.toNatClampNeg).toInt64))) → ((vp_in x3_10 20) ∧ ((vp_in (10 + x3_10) 560) ∧ (∀ (fm1_18 : (Nat → Int64)), (fm1_18 = (vp_updL fm1_17 ((10 + x3_10).toNatClampNeg) ((wa x3_10.toNatClampNeg).toInt64))) → ((vp_in (20 + x3_10) 560) ∧ (∀ (fm1_19 : (Nat → Int64)), (fm1_19 = (vp_updL fm1_18 ((20 + x3_10).toNatClampNeg) (-1))) → (I33_11 fm1_19 (x3_10 + 1) ∧ μ33_12 fm1_19 (x3_10 + 1) < μ33_12 fm1_9 x3_10))))))))))) ∧ (¬ (140 ≤ x3_3) → (vp_in x3_3 560) ∧ (∀ (fm1_23 : (Nat → Int64)), (fm1_23 = (vp_updL fm1_2 x3_3.toNatClampNeg 0)) → (I11_4 fm1_23 (x3_3 + 1) ∧ μ11_5 fm1_23 (x3_3 + 1) < μ11_5 fm1_2 x3_3)))))) : MetV l yX8_begin wsX8_begin 0 0 G [.ref m0] [(m0, .inr (8, [.ref m1, .ref m2, .ref m3, .ref m4, .ref m5, .ref m6, .ref m7, .ref m8, .ref m9, .int fu, .int fd, .int fi, .int nu, .int nw, .int nf, .int bf, .int bn, .ref m10, .int ts, .int ap, .int fs, .int ln, .int fo, .int fa, .ref m11, .ref m12, .ref m13, .ref m14, .int wr])), aJ G m1 560 mw, aZ G m2 2 ik, aI G m3 20 zs, aI G m4 20 cl, aI G m5 20 hs, aI G m6 20 ks, aI G m7 20 wa, aI G m8 20 ne, aI G m9 4 mn, aI G m10 400 tx, aI G m11 6 th, aI G m12 6 od, aI G m13 30 bk, aI G m14 30 bh] sz (fun (u : (Nat → Int64)) => True) (fun (u : (Nat → Int64)) => [(m0, .inr (8, [.ref m1, .ref m2, .ref m3, .ref m4, .ref m5, .ref m6, .ref m7, .ref m8, .ref m9, .int fu, .int fd, .int fi, .int nu, .int nw, .int nf, .int bf, .int bn, .ref m10, .int ts, .int ap, .int fs, .int ln, .int fo, .int fa, .ref m11, .ref m12, .ref m13, .ref m14, .int wr])), aJ G m1 560 u, aZ G m2 2 ik, aI G m3 20 zs, aI G m4 20 cl, aI G m5 20 hs, aI G m6 20 ks, aI G m7 20 wa, aI G m8 20 ne, aI G m9 4 mn, aI G m10 400 tx, aI G m11 6 th, aI G m12 6 od, aI G m13 30 bk, aI G m14 30 bh]) := by
  refine x_startV (cc := cX8_begin) (maxL := 4) (ret := none) (by decide) rfl (Nat.le_of_ble_eq_true rfl) ?_
  intro p e s m args below meth c A R Q ls hRf hRl hQ C hP hD hS hA hSS hl
  obtain ⟨hx, hb, hr, hml, hown, hts, hlocks, hKK⟩ := C
  have hown : s.vm.findClass RX8 = some m.cls := hown
  have hl : lv_has ls 4 [(0, .ref m0)] := hl
  have hinX8 : ∀ w ∈ u_ws RX8 TX8 29, w ∈ wsX8_begin := by decide +kernel
  have kl152 := hts (.constantLong RX8 152 (-1)) (by decide +kernel)
  have kl24 := hts (.fieldLink RX8 24 "WarmStonesModel" "heats" "[I") (by decide +kernel)
  have kl30 := hts (.fieldLink RX8 30 "WarmStonesModel" "warmths" "[I") (by decide +kernel)
  have kl7 := hts (.fieldLink RX8 7 "WarmStonesModel" "w" "[J") (by decide +kernel)
  refine lv_aload_n hx hb dX8_begin_0 rfl (lv_at hl 0 rfl) ?_
  refine va_get (D := G.1) (ci := 8) (v := .ref m1) (C := RX8) (T := TX8) (N := 29) hx hb hts hinX8 hown hKK.1 hP 0 rfl rfl 0 (by decide) kl7 (fun _ h9 => h9) rfl dX8_begin_1 ?_
  refine lv_sipush (v := 133) hx hb dX8_begin_4 (by decide) ?_
  refine va_lald hx hb hKK.1 hP 1 2 rfl rfl (by unfold vp_in; decide) dX8_begin_7 ?_
  refine lv_topl (fun y_1 ey => ?_)
  have hv := hv y_1 ey
  refine lv_lstore_n (lv' := [(1, .long y_1), (0, .ref m0)]) hx hb dX8_begin_8 rfl hl (by decide) rfl (fun ls hl => ?_)
  refine lv_iconst (v := 0) hx hb dX8_begin_9 (by decide) ?_
  refine lv_istore_n (lv' := [(3, .int 0), (1, .long y_1), (0, .ref m0)]) hx hb dX8_begin_10 rfl hl (by decide) rfl (fun ls hl => ?_)
  obtain ⟨I11_4, μ11_5, hi0, hs_24⟩ := hv
  have Lm_26 : ∀ (n_25 : Nat) (fm1_2 : (Nat → Int64)) (x3_3 : Int32) (H : Heap) (locs : List Loc) (ls : Array Slot), μ11_5 fm1_2 x3_3 < n_25 → I11_4 fm1_2 x3_3 → va_P G.1 vwCl [(m0, .inr (8, [.ref m1, .ref m2, .ref m3, .ref m4, .ref m5, .ref m6, .ref m7, .ref m8, .ref m9, .int fu, .int fd, .int fi, .int nu, .int nw, .int nf, .int bf, .int bn, .ref m10, .int ts, .int ap, .int fs, .int ln, .int fo, .int fa, .ref m11, .ref m12, .ref m13, .ref m14, .int wr])), aJ G m1 560 fm1_2, aZ G m2 2 ik, aI G m3 20 zs, aI G m4 20 cl, aI G m5 20 hs, aI G m6 20 ks, aI G m7 20 wa, aI G m8 20 ne, aI G m9 4 mn, aI G m10 400 tx, aI G m11 6 th, aI G m12 6 od, aI G m13 30 bk, aI G m14 30 bh] H → va_D A [(m0, .inr (8, [.ref m1, .ref m2, .ref m3, .ref m4, .ref m5, .ref m6, .ref m7, .ref m8, .ref m9, .int fu, .int fd, .int fi, .int nu, .int nw, .int nf, .int bf, .int bn, .ref m10, .int ts, .int ap, .int fs, .int ln, .int fo, .int fa, .ref m11, .ref m12, .ref m13, .ref m14, .int wr])), aJ G m1 560 fm1_2, aZ G m2 2 ik, aI G m3 20 zs, aI G m4 20 cl, aI G m5 20 hs, aI G m6 20 ks, aI G m7 20 wa, aI G m8 20 ne, aI G m9 4 mn, aI G m10 400 tx, aI G m11 6 th, aI G m12 6 od, aI G m13 30 bk, aI G m14 30 bh] → va_S A s.heap H locs → lv_has ls 4 [(3, .int x3_3), (1, .long y_1), (0, .ref m0)] → W p l e R s m args below meth c H locs 0 0 Q (F0 m 11 ls []) := by
    intro n_25
    induction n_25 with
    | zero => intro fm1_2 x3_3 H locs ls hm; exact absurd hm (Nat.not_lt_zero _)
    | succ n_25 ih_6 =>
      intro fm1_2 x3_3 H locs ls hI_7 hi hP hD hS hl
      have hv := hs_24 fm1_2 x3_3 hi
      refine lv_iload_n hx hb dX8_begin_11 rfl (lv_at hl 0 rfl) ?_
      refine lv_sipush (v := 140) hx hb dX8_begin_12 (by decide) ?_
      refine lv_icmp_ge (tgt := 31) hx hb dX8_begin_15 (by decide) (fun hc_8 => ?_) (fun hc_8 => ?_)
      · have hv := hv.1 hc_8
        refine lv_iconst (v := 0) hx hb dX8_begin_31 (by decide) ?_
        refine lv_istore_n (lv' := [(3, .int 0), (1, .long y_1), (0, .ref m0)]) hx hb dX8_begin_32 rfl hl (by decide) rfl (fun ls hl => ?_)
        obtain ⟨I33_11, μ33_12, hi0, hs_20⟩ := hv
        have Lm_22 : ∀ (n_21 : Nat) (fm1_9 : (Nat → Int64)) (x3_10 : Int32) (H : Heap) (locs : List Loc) (ls : Array Slot), μ33_12 fm1_9 x3_10 < n_21 → I33_11 fm1_9 x3_10 → va_P G.1 vwCl [(m0, .inr (8, [.ref m1, .ref m2, .ref m3, .ref m4, .ref m5, .ref m6, .ref m7, .ref m8, .ref m9, .int fu, .int fd, .int fi, .int nu, .int nw, .int nf, .int bf, .int bn, .ref m10, .int ts, .int ap, .int fs, .int ln, .int fo, .int fa, .ref m11, .ref m12, .ref m13, .ref m14, .int wr])), aJ G m1 560 fm1_9, aZ G m2 2 ik, aI G m3 20 zs, aI G m4 20 cl, aI G m5 20 hs, aI G m6 20 ks, aI G m7 20 wa, aI G m8 20 ne, aI G m9 4 mn, aI G m10 400 tx, aI G m11 6 th, aI G m12 6 od, aI G m13 30 bk, aI G m14 30 bh] H → va_D A [(m0, .inr (8, [.ref m1, .ref m2, .ref m3, .ref m4, .ref m5, .ref m6, .ref m7, .ref m8, .ref m9, .int fu, .int fd, .int fi, .int nu, .int nw, .int nf, .int bf, .int bn, .ref m10, .int ts, .int ap, .int fs, .int ln, .int fo, .int fa, .ref m11, .ref m12, .ref m13, .ref m14, .int wr])), aJ G m1 560 fm1_9, aZ G m2 2 ik, aI G m3 20 zs, aI G m4 20 cl, aI G m5 20 hs, aI G m6 20 ks, aI G m7 20 wa, aI G m8 20 ne, aI G m9 4 mn, aI G m10 400 tx, aI G m11 6 th, aI G m12 6 od, aI G m13 30 bk, aI G m14 30 bh] → va_S A s.heap H locs → lv_has ls 4 [(3, .int x3_10), (1, .long y_1), (0, .ref m0)] → W p l e R s m args below meth c H locs 0 0 Q (F0 m 33 ls []) := by
          intro n_21
          induction n_21 with
          | zero => intro fm1_9 x3_10 H locs ls hm; exact absurd hm (Nat.not_lt_zero _)
          | succ n_21 ih_13 =>
            intro fm1_9 x3_10 H locs ls hI_14 hi hP hD hS hl
            have hv := hs_20 fm1_9 x3_10 hi
            refine lv_iload_n hx hb dX8_begin_33 rfl (lv_at hl 0 rfl) ?_
            refine lv_bipush (v := 10) hx hb dX8_begin_34 (by decide) ?_
            refine lv_icmp_ge (tgt := 86) hx hb dX8_begin_36 (by decide) (fun hc_15 => ?_) (fun hc_15 => ?_)
            · have hv := hv.1 hc_15
              refine lv_aload_n hx hb dX8_begin_86 rfl (lv_at hl 2 rfl) ?_
              refine va_get (D := G.1) (ci := 8) (v := .ref m1) (C := RX8) (T := TX8) (N := 29) hx hb hts hinX8 hown hKK.1 hP 0 rfl rfl 0 (by decide) kl7 (fun _ h9 => h9) rfl dX8_begin_87 ?_
              refine lv_sipush (v := 133) hx hb dX8_begin_90 (by decide) ?_
              refine lv_lload_n hx hb dX8_begin_93 rfl (lv_at hl 1 rfl) ?_
              refine va_last hx hb hKK.1 hP hD hS 1 2 rfl rfl (by unfold vp_in; decide) dX8_begin_94 (fun H locs hP hD hS => ?_)
              obtain ⟨fm1_16, ef⟩ : ∃ z9_, z9_ = (vp_updL fm1_9 133 y_1) := ⟨_, rfl⟩
              have hP : va_P G.1 vwCl [(m0, .inr (8, [.ref m1, .ref m2, .ref m3, .ref m4, .ref m5, .ref m6, .ref m7, .ref m8, .ref m9, .int fu, .int fd, .int fi, .int nu, .int nw, .int nf, .int bf, .int bn, .ref m10, .int ts, .int ap, .int fs, .int ln, .int fo, .int fa, .ref m11, .ref m12, .ref m13, .ref m14, .int wr])), aJ G m1 560 fm1_16, aZ G m2 2 ik, aI G m3 20 zs, aI G m4 20 cl, aI G m5 20 hs, aI G m6 20 ks, aI G m7 20 wa, aI G m8 20 ne, aI G m9 4 mn, aI G m10 400 tx, aI G m11 6 th, aI G m12 6 od, aI G m13 30 bk, aI G m14 30 bh] H := by rw [ef]; exact hP
              have hD : va_D A [(m0, .inr (8, [.ref m1, .ref m2, .ref m3, .ref m4, .ref m5, .ref m6, .ref m7, .ref m8, .ref m9, .int fu, .int fd, .int fi, .int nu, .int nw, .int nf, .int bf, .int bn, .ref m10, .int ts, .int ap, .int fs, .int ln, .int fo, .int fa, .ref m11, .ref m12, .ref m13, .ref m14, .int wr])), aJ G m1 560 fm1_16, aZ G m2 2 ik, aI G m3 20 zs, aI G m4 20 cl, aI G m5 20 hs, aI G m6 20 ks, aI G m7 20 wa, aI G m8 20 ne, aI G m9 4 mn, aI G m10 400 tx, aI G m11 6 th, aI G m12 6 od, aI G m13 30 bk, aI G m14 30 bh] := by rw [ef]; exact hD
              have hv := hv fm1_16 ef
              exact x_vret fm1_16 hQ hx hb hr hlocks hS dX8_begin_95 hv hP hD
            · have hv := hv.2 hc_15
              refine lv_aload_n hx hb dX8_begin_39 rfl (lv_at hl 2 rfl) ?_
              refine va_get (D := G.1) (ci := 8) (v := .ref m1) (C := RX8) (T := TX8) (N := 29) hx hb hts hinX8 hown hKK.1 hP 0 rfl rfl 0 (by decide) kl7 (fun _ h9 => h9) rfl dX8_begin_40 ?_
              refine lv_iload_n hx hb dX8_begin_43 rfl (lv_at hl 0 rfl) ?_
              refine lv_aload_n hx hb dX8_begin_44 rfl (lv_at hl 2 rfl) ?_
              refine va_get (D := G.1) (ci := 8) (v := .ref m5) (C := RX8) (T := TX8) (N := 29) hx hb hts hinX8 hown hKK.1 hP 0 rfl rfl 4 (by decide) kl24 (fun _ h9 => h9) rfl dX8_begin_45 ?_
              refine lv_iload_n hx hb dX8_begin_48 rfl (lv_at hl 0 rfl) ?_
              obtain ⟨hin, hv⟩ := hv
              refine va_iald hx hb hKK.1 hP 5 0 rfl rfl hin dX8_begin_49 ?_
              refine lv_i2l hx hb dX8_begin_50 rfl ?_
              obtain ⟨hin, hv⟩ := hv
              refine va_last hx hb hKK.1 hP hD hS 1 2 rfl rfl hin dX8_begin_51 (fun H locs hP hD hS => ?_)
              obtain ⟨fm1_17, ef⟩ : ∃ z9_, z9_ = (vp_updL fm1_9 x3_10.toNatClampNeg ((hs x3_10.toNatClampNeg).toInt64)) := ⟨_, rfl⟩
              have hP : va_P G.1 vwCl [(m0, .inr (8, [.ref m1, .ref m2, .ref m3, .ref m4, .ref m5, .ref m6, .ref m7, .ref m8, .ref m9, .int fu, .int fd, .int fi, .int nu, .int nw, .int nf, .int bf, .int bn, .ref m10, .int ts, .int ap, .int fs, .int ln, .int fo, .int fa, .ref m11, .ref m12, .ref m13, .ref m14, .int wr])), aJ G m1 560 fm1_17, aZ G m2 2 ik, aI G m3 20 zs, aI G m4 20 cl, aI G m5 20 hs, aI G m6 20 ks, aI G m7 20 wa, aI G m8 20 ne, aI G m9 4 mn, aI G m10 400 tx, aI G m11 6 th, aI G m12 6 od, aI G m13 30 bk, aI G m14 30 bh] H := by rw [ef]; exact hP
              have hD : va_D A [(m0, .inr (8, [.ref m1, .ref m2, .ref m3, .ref m4, .ref m5, .ref m6, .ref m7, .ref m8, .ref m9, .int fu, .int fd, .int fi, .int nu, .int nw, .int nf, .int bf, .int bn, .ref m10, .int ts, .int ap, .int fs, .int ln, .int fo, .int fa, .ref m11, .ref m12, .ref m13, .ref m14, .int wr])), aJ G m1 560 fm1_17, aZ G m2 2 ik, aI G m3 20 zs, aI G m4 20 cl, aI G m5 20 hs, aI G m6 20 ks, aI G m7 20 wa, aI G m8 20 ne, aI G m9 4 mn, aI G m10 400 tx, aI G m11 6 th, aI G m12 6 od, aI G m13 30 bk, aI G m14 30 bh] := by rw [ef]; exact hD
              have hv := hv fm1_17 ef
              refine lv_aload_n hx hb dX8_begin_52 rfl (lv_at hl 2 rfl) ?_
              refine va_get (D := G.1) (ci := 8) (v := .ref m1) (C := RX8) (T := TX8) (N := 29) hx hb hts hinX8 hown hKK.1 hP 0 rfl rfl 0 (by decide) kl7 (fun _ h9 => h9) rfl dX8_begin_53 ?_
              refine lv_bipush (v := 10) hx hb dX8_begin_56 (by decide) ?_
              refine lv_iload_n hx hb dX8_begin_58 rfl (lv_at hl 0 rfl) ?_
              refine lv_iadd hx hb dX8_begin_59 ?_
              refine lv_aload_n hx hb dX8_begin_60 rfl (lv_at hl 2 rfl) ?_
              refine va_get (D := G.1) (ci := 8) (v := .ref m7) (C := RX8) (T := TX8) (N := 29) hx hb hts hinX8 hown hKK.1 hP 0 rfl rfl 6 (by decide) kl30 (fun _ h9 => h9) rfl dX8_begin_61 ?_
              refine lv_iload_n hx hb dX8_begin_64 rfl (lv_at hl 0 rfl) ?_
              obtain ⟨hin, hv⟩ := hv
              refine va_iald hx hb hKK.1 hP 7 0 rfl rfl hin dX8_begin_65 ?_
              refine lv_i2l hx hb dX8_begin_66 rfl ?_
              obtain ⟨hin, hv⟩ := hv
              refine va_last hx hb hKK.1 hP hD hS 1 2 rfl rfl hin dX8_begin_67 (fun H locs hP hD hS => ?_)
              obtain ⟨fm1_18, ef⟩ : ∃ z9_, z9_ = (vp_updL fm1_17 ((10 + x3_10).toNatClampNeg) ((wa x3_10.toNatClampNeg).toInt64)) := ⟨_, rfl⟩
              have hP : va_P G.1 vwCl [(m0, .inr (8, [.ref m1, .ref m2, .ref m3, .ref m4, .ref m5, .ref m6, .ref m7, .ref m8, .ref m9, .int fu, .int fd, .int fi, .int nu, .int nw, .int nf, .int bf, .int bn, .ref m10, .int ts, .int ap, .int fs, .int ln, .int fo, .int fa, .ref m11, .ref m12, .ref m13, .ref m14, .int wr])), aJ G m1 560 fm1_18, aZ G m2 2 ik, aI G m3 20 zs, aI G m4 20 cl, aI G m5 20 hs, aI G m6 20 ks, aI G m7 20 wa, aI G m8 20 ne, aI G m9 4 mn, aI G m10 400 tx, aI G m11 6 th, aI G m12 6 od, aI G m13 30 bk, aI G m14 30 bh] H := by rw [ef]; exact hP
              have hD : va_D A [(m0, .inr (8, [.ref m1, .ref m2, .ref m3, .ref m4, .ref m5, .ref m6, .ref m7, .ref m8, .ref m9, .int fu, .int fd, .int fi, .int nu, .int nw, .int nf, .int bf, .int bn, .ref m10, .int ts, .int ap, .int fs, .int ln, .int fo, .int fa, .ref m11, .ref m12, .ref m13, .ref m14, .int wr])), aJ G m1 560 fm1_18, aZ G m2 2 ik, aI G m3 20 zs, aI G m4 20 cl, aI G m5 20 hs, aI G m6 20 ks, aI G m7 20 wa, aI G m8 20 ne, aI G m9 4 mn, aI G m10 400 tx, aI G m11 6 th, aI G m12 6 od, aI G m13 30 bk, aI G m14 30 bh] := by rw [ef]; exact hD
              have hv := hv fm1_18 ef
              refine lv_aload_n hx hb dX8_begin_68 rfl (lv_at hl 2 rfl) ?_
              refine va_get (D := G.1) (ci := 8) (v := .ref m1) (C := RX8) (T := TX8) (N := 29) hx hb hts hinX8 hown hKK.1 hP 0 rfl rfl 0 (by decide) kl7 (fun _ h9 => h9) rfl dX8_begin_69 ?_
              refine lv_bipush (v := 20) hx hb dX8_begin_72 (by decide) ?_
              refine lv_iload_n hx hb dX8_begin_74 rfl (lv_at hl 0 rfl) ?_
              refine lv_iadd hx hb dX8_begin_75 ?_
              refine lv_ldc2 (v := (-1)) hx hb hown kl152 dX8_begin_76 ?_
              obtain ⟨hin, hv⟩ := hv
              refine va_last hx hb hKK.1 hP hD hS 1 2 rfl rfl hin dX8_begin_79 (fun H locs hP hD hS => ?_)
              obtain ⟨fm1_19, ef⟩ : ∃ z9_, z9_ = (vp_updL fm1_18 ((20 + x3_10).toNatClampNeg) (-1)) := ⟨_, rfl⟩
              have hP : va_P G.1 vwCl [(m0, .inr (8, [.ref m1, .ref m2, .ref m3, .ref m4, .ref m5, .ref m6, .ref m7, .ref m8, .ref m9, .int fu, .int fd, .int fi, .int nu, .int nw, .int nf, .int bf, .int bn, .ref m10, .int ts, .int ap, .int fs, .int ln, .int fo, .int fa, .ref m11, .ref m12, .ref m13, .ref m14, .int wr])), aJ G m1 560 fm1_19, aZ G m2 2 ik, aI G m3 20 zs, aI G m4 20 cl, aI G m5 20 hs, aI G m6 20 ks, aI G m7 20 wa, aI G m8 20 ne, aI G m9 4 mn, aI G m10 400 tx, aI G m11 6 th, aI G m12 6 od, aI G m13 30 bk, aI G m14 30 bh] H := by rw [ef]; exact hP
              have hD : va_D A [(m0, .inr (8, [.ref m1, .ref m2, .ref m3, .ref m4, .ref m5, .ref m6, .ref m7, .ref m8, .ref m9, .int fu, .int fd, .int fi, .int nu, .int nw, .int nf, .int bf, .int bn, .ref m10, .int ts, .int ap, .int fs, .int ln, .int fo, .int fa, .ref m11, .ref m12, .ref m13, .ref m14, .int wr])), aJ G m1 560 fm1_19, aZ G m2 2 ik, aI G m3 20 zs, aI G m4 20 cl, aI G m5 20 hs, aI G m6 20 ks, aI G m7 20 wa, aI G m8 20 ne, aI G m9 4 mn, aI G m10 400 tx, aI G m11 6 th, aI G m12 6 od, aI G m13 30 bk, aI G m14 30 bh] := by rw [ef]; exact hD
              have hv := hv fm1_19 ef
              refine lv_iinc (v := (x3_10 + 1)) (lv' := [(3, .int (x3_10 + 1)), (1, .long y_1), (0, .ref m0)]) hx hb dX8_begin_80 hl (k := 0) rfl rfl (by decide) rfl (fun ls hl => ?_)
              refine lv_goto (tgt := 33) hx hb dX8_begin_83 (by decide) ?_
              exact ih_13 _ _ _ _ _ (Nat.lt_of_lt_of_le hv.2 (Nat.le_of_lt_succ hI_14)) hv.1 hP hD hS hl
        exact Lm_22 _ _ _ _ _ _ (Nat.lt_succ_self _) hi0 hP hD hS hl
      · have hv := hv.2 hc_8
        refine lv_aload_n hx hb dX8_begin_18 rfl (lv_at hl 2 rfl) ?_
        refine va_get (D := G.1) (ci := 8) (v := .ref m1) (C := RX8) (T := TX8) (N := 29) hx hb hts hinX8 hown hKK.1 hP 0 rfl rfl 0 (by decide) kl7 (fun _ h9 => h9) rfl dX8_begin_19 ?_
        refine lv_iload_n hx hb dX8_begin_22 rfl (lv_at hl 0 rfl) ?_
        refine lv_lconst (v := 0) hx hb dX8_begin_23 (by decide) ?_
        obtain ⟨hin, hv⟩ := hv
        refine va_last hx hb hKK.1 hP hD hS 1 2 rfl rfl hin dX8_begin_24 (fun H locs hP hD hS => ?_)
        obtain ⟨fm1_23, ef⟩ : ∃ z9_, z9_ = (vp_updL fm1_2 x3_3.toNatClampNeg 0) := ⟨_, rfl⟩
        have hP : va_P G.1 vwCl [(m0, .inr (8, [.ref m1, .ref m2, .ref m3, .ref m4, .ref m5, .ref m6, .ref m7, .ref m8, .ref m9, .int fu, .int fd, .int fi, .int nu, .int nw, .int nf, .int bf, .int bn, .ref m10, .int ts, .int ap, .int fs, .int ln, .int fo, .int fa, .ref m11, .ref m12, .ref m13, .ref m14, .int wr])), aJ G m1 560 fm1_23, aZ G m2 2 ik, aI G m3 20 zs, aI G m4 20 cl, aI G m5 20 hs, aI G m6 20 ks, aI G m7 20 wa, aI G m8 20 ne, aI G m9 4 mn, aI G m10 400 tx, aI G m11 6 th, aI G m12 6 od, aI G m13 30 bk, aI G m14 30 bh] H := by rw [ef]; exact hP
        have hD : va_D A [(m0, .inr (8, [.ref m1, .ref m2, .ref m3, .ref m4, .ref m5, .ref m6, .ref m7, .ref m8, .ref m9, .int fu, .int fd, .int fi, .int nu, .int nw, .int nf, .int bf, .int bn, .ref m10, .int ts, .int ap, .int fs, .int ln, .int fo, .int fa, .ref m11, .ref m12, .ref m13, .ref m14, .int wr])), aJ G m1 560 fm1_23, aZ G m2 2 ik, aI G m3 20 zs, aI G m4 20 cl, aI G m5 20 hs, aI G m6 20 ks, aI G m7 20 wa, aI G m8 20 ne, aI G m9 4 mn, aI G m10 400 tx, aI G m11 6 th, aI G m12 6 od, aI G m13 30 bk, aI G m14 30 bh] := by rw [ef]; exact hD
        have hv := hv fm1_23 ef
        refine lv_iinc (v := (x3_3 + 1)) (lv' := [(3, .int (x3_3 + 1)), (1, .long y_1), (0, .ref m0)]) hx hb dX8_begin_25 hl (k := 0) rfl rfl (by decide) rfl (fun ls hl => ?_)
        refine lv_goto (tgt := 11) hx hb dX8_begin_28 (by decide) ?_
        exact ih_6 _ _ _ _ _ (Nat.lt_of_lt_of_le hv.2 (Nat.le_of_lt_succ hI_7)) hv.1 hP hD hS hl
  exact Lm_26 _ _ _ _ _ _ (Nat.lt_succ_self _) hi0 hP hD hS hl
theorem k_X8_begin (l : Launch) (G : Gt) (m0 m1 m2 m3 m4 m5 m6 m7 m8 m9 m10 m11 m12 m13 m14 : Nat) (sz : Nat) (mw : Nat → Int64) (ik : Nat → Int32) (zs : Nat → Int32) (cl : Nat → Int32) (hs : Nat → Int32) (ks : Nat → Int32) (wa : Nat → Int32) (ne : Nat → Int32) (mn : Nat → Int32) (tx : Nat → Int32) (th : Nat → Int32) (od : Nat → Int32) (bk : Nat → Int32) (bh : Nat → Int32) (fu : Int32) (fd : Int32) (fi : Int32) (nu : Int32) (nw : Int32) (nf : Int32) (bf : Int32) (bn : Int32) (ts : Int32) (ap : Int32) (fs : Int32) (ln : Int32) (fo : Int32) (fa : Int32) (wr : Int32) (hp : True) : MetV l yX8_begin wsX8_begin 0 0 G [.ref m0] [(m0, .inr (8, [.ref m1, .ref m2, .ref m3, .ref m4, .ref m5, .ref m6, .ref m7, .ref m8, .ref m9, .int fu, .int fd, .int fi, .int nu, .int nw, .int nf, .int bf, .int bn, .ref m10, .int ts, .int ap, .int fs, .int ln, .int fo, .int fa, .ref m11, .ref m12, .ref m13, .ref m14, .int wr])), aJ G m1 560 mw, aZ G m2 2 ik, aI G m3 20 zs, aI G m4 20 cl, aI G m5 20 hs, aI G m6 20 ks, aI G m7 20 wa, aI G m8 20 ne, aI G m9 4 mn, aI G m10 400 tx, aI G m11 6 th, aI G m12 6 od, aI G m13 30 bk, aI G m14 30 bh] sz (fun (u : (Nat → Int64)) => True) (fun (u : (Nat → Int64)) => [(m0, .inr (8, [.ref m1, .ref m2, .ref m3, .ref m4, .ref m5, .ref m6, .ref m7, .ref m8, .ref m9, .int fu, .int fd, .int fi, .int nu, .int nw, .int nf, .int bf, .int bn, .ref m10, .int ts, .int ap, .int fs, .int ln, .int fo, .int fa, .ref m11, .ref m12, .ref m13, .ref m14, .int wr])), aJ G m1 560 u, aZ G m2 2 ik, aI G m3 20 zs, aI G m4 20 cl, aI G m5 20 hs, aI G m6 20 ks, aI G m7 20 wa, aI G m8 20 ne, aI G m9 4 mn, aI G m10 400 tx, aI G m11 6 th, aI G m12 6 od, aI G m13 30 bk, aI G m14 30 bh]) :=
  c_X8_begin l G m0 m1 m2 m3 m4 m5 m6 m7 m8 m9 m10 m11 m12 m13 m14 sz mw ik zs cl hs ks wa ne mn tx th od bk bh fu fd fi nu nw nf bf bn ts ap fs ln fo fa wr (by
    sorry)
