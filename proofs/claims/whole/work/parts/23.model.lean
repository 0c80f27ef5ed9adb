set_option maxHeartbeats 4000000 in
set_option maxRecDepth 100000 in
theorem c_X8_feed (l : Launch) (G : Gt) (m0 m1 m2 m3 m4 m5 m6 m7 m8 m9 m10 m11 m12 m13 m14 : Nat) (sz : Nat) (mw : Nat → Int64) (ik : Nat → Int32) (zs : Nat → Int32) (cl : Nat → Int32) (hs : Nat → Int32) (ks : Nat → Int32) (wa : Nat → Int32) (ne : Nat → Int32) (mn : Nat → Int32) (tx : Nat → Int32) (th : Nat → Int32) (od : Nat → Int32) (bk : Nat → Int32) (bh : Nat → Int32) (fu : Int32) (fd : Int32) (fi : Int32) (nu : Int32) (nw : Int32) (nf : Int32) (bf : Int32) (bn : Int32) (ts : Int32) (ap : Int32) (fs : Int32) (ln : Int32) (fo : Int32) (fa : Int32) (wr : Int32) (x : Int32) (y : Int64) (B : Nat → Int) (L : Nat) (hv : (¬ x.toInt64 < 1 ∧ ¬ 8 < x.toInt64 → ((ts + x) ≤ 400 → ∀ (y_4 : Int32), (y_4 = (x - 1)) → (∃ (I35_8 : (Nat → Int32) → Int32 → Int32 → Prop) (μ35_9 : (Nat → Int32) → Int32 → Int32 → Nat), I35_8 tx ts y_4 ∧ (∀ (fm10_5 : (Nat → Int32)) (gm018_6 : Int32) (x4_7 : Int32), I35_8 fm10_5 gm018_6 x4_7 → (x4_7 < 0 → gm018_6.toInt = (qFd B L x.toInt y).1 ∧ MX (qFd B L x.toInt y).2.1 (qFd B L x.toInt y).2.2 fm10_5 gm018_6) ∧ (¬ (x4_7 < 0) → (vp_in gm018_6 400) ∧ (∀ (fm10_13 : (Nat → Int32)), (fm10_13 = (upd fm10_5 gm018_6.toNatClampNeg (((y >>> (((8 * x4_7) : Int32).toInt64 &&& 63)) &&& 255).toInt32))) → (I35_8 fm10_13 (gm018_6 + 1) (x4_7 + (-1)) ∧ μ35_9 fm10_13 (gm018_6 + 1) (x4_7 + (-1)) < μ35_9 fm10_5 gm018_6 x4_7)))))) ∧ (¬ ((ts + x) ≤ 400) → ((-1000000004) : Int32).toInt = (qFd B L x.toInt y).1 ∧ MX (qFd B L x.toInt y).2.1 (qFd B L x.toInt y).2.2 tx ts)) ∧ (¬ (¬ x.toInt64 < 1 ∧ ¬ 8 < x.toInt64) → ((-1000000002) : Int32).toInt = (qFd B L x.toInt y).1 ∧ MX (qFd B L x.toInt y).2.1 (qFd B L x.toInt y).2.2 tx ts)) : MetI l yX8_feed wsX8_feed 1 25 G [.ref m0, .int x, .long y] [(m0, .inr (8, [.ref m1, .ref m2, .ref m3, .ref m4, .ref m5, .ref m6, .ref m7, .ref m8, .ref m9, .int fu, .int fd, .int fi, .int nu, .int nw, .int nf, .int bf, .int bn, .ref m10, .int ts, .int ap, .int fs, .int ln, .int fo, .int fa, .ref m11, .ref m12, .ref m13, .ref m14, .int wr])), aJ G m1 560 mw, aZ G m2 2 ik, aI G m3 20 zs, aI G m4 20 cl, aI G m5 20 hs, aI G m6 20 ks, aI G m7 20 wa, aI G m8 20 ne, aI G m9 4 mn, aI G m10 400 tx, aI G m11 6 th, aI G m12 6 od, aI G m13 30 bk, aI G m14 30 bh] sz (fun (r : Int32) (u : (Nat → Int32) × (Int32)) => r.toInt = (qFd B L x.toInt y).1 ∧ MX (qFd B L x.toInt y).2.1 (qFd B L x.toInt y).2.2 u.1 u.2) (fun (u : (Nat → Int32) × (Int32)) => [(m0, .inr (8, [.ref m1, .ref m2, .ref m3, .ref m4, .ref m5, .ref m6, .ref m7, .ref m8, .ref m9, .int fu, .int fd, .int fi, .int nu, .int nw, .int nf, .int bf, .int bn, .ref m10, .int u.2, .int ap, .int fs, .int ln, .int fo, .int fa, .ref m11, .ref m12, .ref m13, .ref m14, .int wr])), aJ G m1 560 mw, aZ G m2 2 ik, aI G m3 20 zs, aI G m4 20 cl, aI G m5 20 hs, aI G m6 20 ks, aI G m7 20 wa, aI G m8 20 ne, aI G m9 4 mn, aI G m10 400 u.1, aI G m11 6 th, aI G m12 6 od, aI G m13 30 bk, aI G m14 30 bh]) := by
  refine x_startI (cc := cX8_feed) (maxL := 5) (ret := (some .int)) (by decide) rfl (Nat.le_of_ble_eq_true rfl) ?_
  intro p e s m args below meth c A R Q ls hRf hRl hQ C hP hD hS hA hSS hl
  obtain ⟨hx, hb, hr, hml, hown, hts, hlocks, hKK⟩ := C
  have hown : s.vm.findClass RX8 = some m.cls := hown
  have hl : lv_has ls 5 [(0, .ref m0), (1, .int x), (2, .long y)] := hl
  have hinX8 : ∀ w ∈ u_ws RX8 TX8 29, w ∈ wsX8_feed := by decide +kernel
  have kl46 := hts (.fieldLink RX8 46 "WarmStonesModel" "text" "[I") (by decide +kernel)
  have kl67 := hts (.constantLong RX8 67 (8)) (by decide +kernel)
  have kl73 := hts (.constant RX8 73 (-1000000002)) (by decide +kernel)
  have kl74 := hts (.fieldLink RX8 74 "WarmStonesModel" "textSize" "I") (by decide +kernel)
  have kl77 := hts (.constant RX8 77 (-1000000004)) (by decide +kernel)
  have kl78 := hts (.constantLong RX8 78 (255)) (by decide +kernel)
  refine lv_iload_n hx hb dX8_feed_0 rfl (lv_at hl 1 rfl) ?_
  refine lv_i2l hx hb dX8_feed_1 rfl ?_
  refine lv_lconst (v := 1) hx hb dX8_feed_2 (by decide) ?_
  refine lv_ldc2 (v := 8) hx hb hown kl67 dX8_feed_3 ?_
  refine x_calliR (x_runS (As := [.long x.toInt64, .long 1, .long 8]) (rest := []) (n := 3) ⟨hx, hb, hml, hown, hts⟩ (k_X8_in l G  _ x.toInt64 1 8) gX8_feed_X8_in rfl (by decide +kernel) ⟨Nat.le_trans (Nat.le_of_ble_eq_true rfl) hRf, Nat.le_trans (Nat.le_of_ble_eq_true rfl) hRl⟩ hKK hSS hS hA hP hD [] (by decide) rfl rfl hl.1 rfl (Nat.le_of_ble_eq_true rfl) dX8_feed_6) hP hD hS hA [] rfl (fun r_1 _ H locs hw hP hS => ?_)
  replace hw := hw.symm; subst hw
  refine lv_if_ne (tgt := 15) hx hb dX8_feed_9 (by decide) (fun hc_2 => ?_) (fun hc_2 => ?_)
  · have hv := hv.1 (tv_eqn.mp hc_2)
    refine lv_aload_n hx hb dX8_feed_15 rfl (lv_at hl 0 rfl) ?_
    refine va_get (D := G.1) (ci := 8) (v := .int ts) (C := RX8) (T := TX8) (N := 29) hx hb hts hinX8 hown hKK.1 hP 0 rfl rfl 18 (by decide) kl74 (fun _ h9 => h9) rfl dX8_feed_16 ?_
    refine lv_iload_n hx hb dX8_feed_19 rfl (lv_at hl 1 rfl) ?_
    refine lv_iadd hx hb dX8_feed_20 ?_
    refine lv_sipush (v := 400) hx hb dX8_feed_21 (by decide) ?_
    refine lv_icmp_le (tgt := 30) hx hb dX8_feed_24 (by decide) (fun hc_3 => ?_) (fun hc_3 => ?_)
    · have hv := hv.1 hc_3
      refine lv_iload_n hx hb dX8_feed_30 rfl (lv_at hl 1 rfl) ?_
      refine lv_iconst (v := 1) hx hb dX8_feed_31 (by decide) ?_
      refine lv_isub hx hb dX8_feed_32 ?_
      refine lv_topi (fun y_4 ey => ?_)
      have hv := hv y_4 ey
      refine lv_istore (lv' := [(4, .int y_4), (0, .ref m0), (1, .int x), (2, .long y)]) hx hb dX8_feed_33 hl (by decide) rfl (fun ls hl => ?_)
      obtain ⟨I35_8, μ35_9, hi0, hs_14⟩ := hv
      have Lm_16 : ∀ (n_15 : Nat) (fm10_5 : (Nat → Int32)) (gm018_6 : Int32) (x4_7 : Int32) (H : Heap) (locs : List Loc) (ls : Array Slot), μ35_9 fm10_5 gm018_6 x4_7 < n_15 → I35_8 fm10_5 gm018_6 x4_7 → va_P G.1 vwCl [(m0, .inr (8, [.ref m1, .ref m2, .ref m3, .ref m4, .ref m5, .ref m6, .ref m7, .ref m8, .ref m9, .int fu, .int fd, .int fi, .int nu, .int nw, .int nf, .int bf, .int bn, .ref m10, .int gm018_6, .int ap, .int fs, .int ln, .int fo, .int fa, .ref m11, .ref m12, .ref m13, .ref m14, .int wr])), aJ G m1 560 mw, aZ G m2 2 ik, aI G m3 20 zs, aI G m4 20 cl, aI G m5 20 hs, aI G m6 20 ks, aI G m7 20 wa, aI G m8 20 ne, aI G m9 4 mn, aI G m10 400 fm10_5, aI G m11 6 th, aI G m12 6 od, aI G m13 30 bk, aI G m14 30 bh] H → va_D A [(m0, .inr (8, [.ref m1, .ref m2, .ref m3, .ref m4, .ref m5, .ref m6, .ref m7, .ref m8, .ref m9, .int fu, .int fd, .int fi, .int nu, .int nw, .int nf, .int bf, .int bn, .ref m10, .int gm018_6, .int ap, .int fs, .int ln, .int fo, .int fa, .ref m11, .ref m12, .ref m13, .ref m14, .int wr])), aJ G m1 560 mw, aZ G m2 2 ik, aI G m3 20 zs, aI G m4 20 cl, aI G m5 20 hs, aI G m6 20 ks, aI G m7 20 wa, aI G m8 20 ne, aI G m9 4 mn, aI G m10 400 fm10_5, aI G m11 6 th, aI G m12 6 od, aI G m13 30 bk, aI G m14 30 bh] → va_S A s.heap H locs → lv_has ls 5 [(4, .int x4_7), (0, .ref m0), (1, .int x), (2, .long y)] → W p l e R s m args below meth c H locs 0 0 Q (F0 m 35 ls []) := by
        intro n_15
        induction n_15 with
        | zero => intro fm10_5 gm018_6 x4_7 H locs ls hm; exact absurd hm (Nat.not_lt_zero _)
        | succ n_15 ih_10 =>
          intro fm10_5 gm018_6 x4_7 H locs ls hI_11 hi hP hD hS hl
          have hv := hs_14 fm10_5 gm018_6 x4_7 hi
          refine lv_iload hx hb dX8_feed_35 (lv_at hl 0 rfl) ?_
          refine lv_if_lt (tgt := 77) hx hb dX8_feed_37 (by decide) (fun hc_12 => ?_) (fun hc_12 => ?_)
          · have hv := hv.1 hc_12
            refine lv_aload_n hx hb dX8_feed_77 rfl (lv_at hl 1 rfl) ?_
            refine va_get (D := G.1) (ci := 8) (v := .int gm018_6) (C := RX8) (T := TX8) (N := 29) hx hb hts hinX8 hown hKK.1 hP 0 rfl rfl 18 (by decide) kl74 (fun _ h9 => h9) rfl dX8_feed_78 ?_
            exact x_iret (v := gm018_6) (fm10_5, gm018_6) hQ hx hb hr hlocks hS dX8_feed_81 hv hP hD
          · have hv := hv.2 hc_12
            refine lv_aload_n hx hb dX8_feed_40 rfl (lv_at hl 1 rfl) ?_
            refine va_get (D := G.1) (ci := 8) (v := .ref m10) (C := RX8) (T := TX8) (N := 29) hx hb hts hinX8 hown hKK.1 hP 0 rfl rfl 17 (by decide) kl46 (fun _ h9 => h9) rfl dX8_feed_41 ?_
            refine lv_aload_n hx hb dX8_feed_44 rfl (lv_at hl 1 rfl) ?_
            refine va_get (D := G.1) (ci := 8) (v := .int gm018_6) (C := RX8) (T := TX8) (N := 29) hx hb hts hinX8 hown hKK.1 hP 0 rfl rfl 18 (by decide) kl74 (fun _ h9 => h9) rfl dX8_feed_45 ?_
            refine lv_lload_n hx hb dX8_feed_48 rfl (lv_at hl 3 rfl) ?_
            refine lv_bipush (v := 8) hx hb dX8_feed_49 (by decide) ?_
            refine lv_iload hx hb dX8_feed_51 (lv_at hl 0 rfl) ?_
            refine lv_imul hx hb dX8_feed_53 ?_
            refine lv_lshr hx hb dX8_feed_54 rfl ?_
            refine lv_ldc2 (v := 255) hx hb hown kl78 dX8_feed_55 ?_
            refine lv_land hx hb dX8_feed_58 ?_
            refine lv_l2i hx hb dX8_feed_59 rfl ?_
            obtain ⟨hin, hv⟩ := hv
            refine va_iast hx hb hKK.1 hP hD hS 10 0 rfl rfl hin dX8_feed_60 (fun H locs hP hD hS => ?_)
            obtain ⟨fm10_13, ef⟩ : ∃ z9_, z9_ = (upd fm10_5 gm018_6.toNatClampNeg (((y >>> (((8 * x4_7) : Int32).toInt64 &&& 63)) &&& 255).toInt32)) := ⟨_, rfl⟩
            have hP : va_P G.1 vwCl [(m0, .inr (8, [.ref m1, .ref m2, .ref m3, .ref m4, .ref m5, .ref m6, .ref m7, .ref m8, .ref m9, .int fu, .int fd, .int fi, .int nu, .int nw, .int nf, .int bf, .int bn, .ref m10, .int gm018_6, .int ap, .int fs, .int ln, .int fo, .int fa, .ref m11, .ref m12, .ref m13, .ref m14, .int wr])), aJ G m1 560 mw, aZ G m2 2 ik, aI G m3 20 zs, aI G m4 20 cl, aI G m5 20 hs, aI G m6 20 ks, aI G m7 20 wa, aI G m8 20 ne, aI G m9 4 mn, aI G m10 400 fm10_13, aI G m11 6 th, aI G m12 6 od, aI G m13 30 bk, aI G m14 30 bh] H := by rw [ef]; exact hP
            have hD : va_D A [(m0, .inr (8, [.ref m1, .ref m2, .ref m3, .ref m4, .ref m5, .ref m6, .ref m7, .ref m8, .ref m9, .int fu, .int fd, .int fi, .int nu, .int nw, .int nf, .int bf, .int bn, .ref m10, .int gm018_6, .int ap, .int fs, .int ln, .int fo, .int fa, .ref m11, .ref m12, .ref m13, .ref m14, .int wr])), aJ G m1 560 mw, aZ G m2 2 ik, aI G m3 20 zs, aI G m4 20 cl, aI G m5 20 hs, aI G m6 20 ks, aI G m7 20 wa, aI G m8 20 ne, aI G m9 4 mn, aI G m10 400 fm10_13, aI G m11 6 th, aI G m12 6 od, aI G m13 30 bk, aI G m14 30 bh] := by rw [ef]; exact hD
            have hv := hv fm10_13 ef
            refine lv_aload_n hx hb dX8_feed_61 rfl (lv_at hl 1 rfl) ?_
            refine lv_dup hx hb dX8_feed_62 rfl ?_
            refine va_get (D := G.1) (ci := 8) (v := .int gm018_6) (C := RX8) (T := TX8) (N := 29) hx hb hts hinX8 hown hKK.1 hP 0 rfl rfl 18 (by decide) kl74 (fun _ h9 => h9) rfl dX8_feed_63 ?_
            refine lv_iconst (v := 1) hx hb dX8_feed_66 (by decide) ?_
            refine lv_iadd hx hb dX8_feed_67 ?_
            refine va_put (D := G.1) (ci := 8) (v := .int (gm018_6 + 1)) (ty := .int) (C := RX8) (T := TX8) (N := 29) hx hb hts hinX8 tyX8 tyX8_ok nmX8 hown hKK.1 hP hD hS 0 rfl rfl 18 (by decide) kl74 (fun _ h9 => h9) rfl (by decide +kernel) rfl rfl (Nat.le_of_ble_eq_true rfl) dX8_feed_68 (fun H locs hP hD hS => ?_)
            have hP : va_P G.1 vwCl [(m0, .inr (8, [.ref m1, .ref m2, .ref m3, .ref m4, .ref m5, .ref m6, .ref m7, .ref m8, .ref m9, .int fu, .int fd, .int fi, .int nu, .int nw, .int nf, .int bf, .int bn, .ref m10, .int (gm018_6 + 1), .int ap, .int fs, .int ln, .int fo, .int fa, .ref m11, .ref m12, .ref m13, .ref m14, .int wr])), aJ G m1 560 mw, aZ G m2 2 ik, aI G m3 20 zs, aI G m4 20 cl, aI G m5 20 hs, aI G m6 20 ks, aI G m7 20 wa, aI G m8 20 ne, aI G m9 4 mn, aI G m10 400 fm10_13, aI G m11 6 th, aI G m12 6 od, aI G m13 30 bk, aI G m14 30 bh] H := hP
            have hD : va_D A [(m0, .inr (8, [.ref m1, .ref m2, .ref m3, .ref m4, .ref m5, .ref m6, .ref m7, .ref m8, .ref m9, .int fu, .int fd, .int fi, .int nu, .int nw, .int nf, .int bf, .int bn, .ref m10, .int (gm018_6 + 1), .int ap, .int fs, .int ln, .int fo, .int fa, .ref m11, .ref m12, .ref m13, .ref m14, .int wr])), aJ G m1 560 mw, aZ G m2 2 ik, aI G m3 20 zs, aI G m4 20 cl, aI G m5 20 hs, aI G m6 20 ks, aI G m7 20 wa, aI G m8 20 ne, aI G m9 4 mn, aI G m10 400 fm10_13, aI G m11 6 th, aI G m12 6 od, aI G m13 30 bk, aI G m14 30 bh] := hD
            refine lv_iinc (v := (x4_7 + (-1))) (lv' := [(4, .int (x4_7 + (-1))), (0, .ref m0), (1, .int x), (2, .long y)]) hx hb dX8_feed_71 hl (k := 0) rfl rfl (by decide) rfl (fun ls hl => ?_)
            refine lv_goto (tgt := 35) hx hb dX8_feed_74 (by decide) ?_
            exact ih_10 _ _ _ _ _ _ (Nat.lt_of_lt_of_le hv.2 (Nat.le_of_lt_succ hI_11)) hv.1 hP hD hS hl
      exact Lm_16 _ _ _ _ _ _ _ (Nat.lt_succ_self _) hi0 hP hD hS hl
    · have hv := hv.2 hc_3
      refine lv_ldc (v := (-1000000004)) hx hb hown kl77 dX8_feed_27 ?_
      exact x_iret (v := (-1000000004)) (tx, ts) hQ hx hb hr hlocks hS dX8_feed_29 hv hP hD
  · have hv := hv.2 (tv_eq.mp hc_2)
    refine lv_ldc (v := (-1000000002)) hx hb hown kl73 dX8_feed_12 ?_
    exact x_iret (v := (-1000000002)) (tx, ts) hQ hx hb hr hlocks hS dX8_feed_14 hv hP hD
theorem v_X8_feed (l : Launch) (G : Gt) (m0 m1 m2 m3 m4 m5 m6 m7 m8 m9 m10 m11 m12 m13 m14 : Nat) (sz : Nat) (mw : Nat → Int64) (ik : Nat → Int32) (zs : Nat → Int32) (cl : Nat → Int32) (hs : Nat → Int32) (ks : Nat → Int32) (wa : Nat → Int32) (ne : Nat → Int32) (mn : Nat → Int32) (tx : Nat → Int32) (th : Nat → Int32) (od : Nat → Int32) (bk : Nat → Int32) (bh : Nat → Int32) (fu : Int32) (fd : Int32) (fi : Int32) (nu : Int32) (nw : Int32) (nf : Int32) (bf : Int32) (bn : Int32) (ts : Int32) (ap : Int32) (fs : Int32) (ln : Int32) (fo : Int32) (fa : Int32) (wr : Int32) (x : Int32) (y : Int64) (B : Nat → Int) (L : Nat) (hp : MX B L tx ts) : (¬ x.toInt64 < 1 ∧ ¬ 8 < x.toInt64 → ((ts + x) ≤ 400 → ∀ (y_4 : Int32), (y_4 = (x - 1)) → (∃ (I35_8 : (Nat → Int32) → Int32 → Int32 → Prop) (μ35_9 : (Nat → Int32) → Int32 → Int32 → Nat), I35_8 tx ts y_4 ∧ (∀ (fm10_5 : (Nat → Int32)) (gm018_6 : Int32) (x4_7 : Int32), I35_8 fm10_5 gm018_6 x4_7 → (x4_7 < 0 → gm018_6.toInt = (qFd B L x.toInt y).1 ∧ MX (qFd B L x.toInt y).2.1 (qFd B L x.toInt y).2.2 fm10_5 gm018_6) ∧ (¬ (x4_7 < 0) → (vp_in gm018_6 400) ∧ (∀ (fm10_13 : (Nat → Int32)), (fm10_13 = (upd fm10_5 gm018_6.toNatClampNeg (((y >>> (((8 * x4_7) : Int32).toInt64 &&& 63)) &&& 255).toInt32))) → (I35_8 fm10_13 (gm018_6 + 1) (x4_7 + (-1)) ∧ μ35_9 fm10_13 (gm018_6 + 1) (x4_7 + (-1)) < μ35_9 fm10_5 gm018_6 x4_7)))))) ∧ (¬ ((ts + x) ≤ 400) → ((-1000000004) : Int32).toInt = (qFd B L x.toInt y).1 ∧ MX (qFd B L x.toInt y).2.1 (qFd B L x.toInt y).2.2 tx ts)) ∧ (¬ (¬ x.toInt64 < 1 ∧ ¬ 8 < x.toInt64) → ((-1000000002) : Int32).toInt = (qFd B L x.toInt y).1 ∧ MX (qFd B L x.toInt y).2.1 (qFd B L x.toInt y).2.2 tx ts) := by
  have hX : MX B L tx ts := hp
  have hL := hX.1
  have hxl := hX.2.1
  have ex : x.toInt64.toInt = x.toInt := i_l rfl
  have hx_ : (¬ x.toInt64 < 1 ∧ ¬ 8 < x.toInt64) ↔ (1 ≤ x.toInt ∧ x.toInt ≤ 8) := by
    rw [l_lt ex (show (1 : Int64).toInt = 1 from rfl), l_lt (show (8 : Int64).toInt = 8 from rfl) ex]; omega
  simp only [hx_]
  refine ⟨fun hx => ?_, fun h => ?_⟩
  · obtain ⟨n, hn, rfl, hni, hnt⟩ := in_nat (x := x) (n := 9) (by omega) (by omega)
    have e4 : ts + nI n ≤ 400 ↔ L + n ≤ 400 := by
      rw [hxl, nI_add]; exact nI_leI (b := 400) (by omega) (by omega)
    rw [e4]
    refine ⟨fun q y0 ey0 => ?_, fun q => ?_⟩
    · subst ey0
      have e : qFd B L (nI n).toInt y = ((L : Int) + (n : Int), fdB B L n y, L + n) := by unfold qFd; rw [if_neg (fun z => z hx), if_neg (by omega), hnt, hni]
      rw [e]
      refine ⟨fun f g z => ∃ j, j ≤ n ∧ z = nI (n - j) - 1 ∧ g = nI (L + j) ∧ ∀ i, i < L + j → 0 ≤ fdB B L n y i ∧ fdB B L n y i ≤ 255 ∧ (f i).toInt = fdB B L n y i, fun _ g _ => 401 - g.toNatClampNeg, ⟨0, by omega, rfl, hxl, fun i hi => ?_⟩, ?_⟩
      · rw [Nat.add_zero] at hi
        unfold fdB
        rw [if_pos hi]
        exact hX.2.2 i hi
      rintro f g z ⟨j, hj, rfl, rfl, hf⟩
      have hz := nm_i (d := n - j) (by omega)
      have eg : (nI (L + j)).toNatClampNeg = L + j := nI_clamp (by omega)
      have eg1 : nI (L + j) + 1 = nI (L + j + 1) := nI_1 (L + j)
      have eg2 : (nI (L + j + 1)).toNatClampNeg = L + j + 1 := nI_clamp (by omega)
      have hz0 : nI (n - j) - 1 < 0 ↔ j = n := by
        rw [i_lt hz i32_0]; omega
      simp only [eg, eg1, eg2, hz0]
      refine ⟨fun q1 => ?_, fun q1 => ⟨vp_in_nI (by omega) (by omega), fun f2 ef2 => ⟨⟨j + 1, by omega, ?_, rfl, fun i hi => ?_⟩, by omega⟩⟩⟩
      · subst q1
        refine ⟨?_, by omega, rfl, hf⟩
        rw [nI_toInt (by omega)]
        omega
      · rw [← Int32.toInt_inj, i_add hz (show (-1 : Int32).toInt = -1 from rfl) (by omega) (by omega), nm_i (by omega)]
        omega
      · rw [ef2]
        by_cases e : i = L + j
        · subst e
          have ek : fdB B L n y (L + j) = byZ y (n - 1 - j) := by
            unfold fdB
            rw [if_neg (by omega), show L + j - L = j by omega]
          have bb := byZ_bd y (n - 1 - j)
          rw [ek, upd_at]
          refine ⟨bb.1, bb.2, ?_⟩
          rw [nm_s (by omega) (by omega), show n - j - 1 = n - 1 - j by omega]
          exact by_ref y (by omega)
        · rw [upd_ne e]
          exact hf i (by omega)
    · have e : qFd B L (nI n).toInt y = (-1000000004, B, L) := by unfold qFd; rw [if_neg (fun z => z hx), if_pos (by omega)]
      rw [e]
      exact ⟨rfl, hX⟩
  · have e : qFd B L x.toInt y = (-1000000002, B, L) := by unfold qFd; rw [if_pos h]
    rw [e]
    exact ⟨rfl, hX⟩
theorem k_X8_feed (l : Launch) (G : Gt) (m0 m1 m2 m3 m4 m5 m6 m7 m8 m9 m10 m11 m12 m13 m14 : Nat) (sz : Nat) (mw : Nat → Int64) (ik : Nat → Int32) (zs : Nat → Int32) (cl : Nat → Int32) (hs : Nat → Int32) (ks : Nat → Int32) (wa : Nat → Int32) (ne : Nat → Int32) (mn : Nat → Int32) (tx : Nat → Int32) (th : Nat → Int32) (od : Nat → Int32) (bk : Nat → Int32) (bh : Nat → Int32) (fu : Int32) (fd : Int32) (fi : Int32) (nu : Int32) (nw : Int32) (nf : Int32) (bf : Int32) (bn : Int32) (ts : Int32) (ap : Int32) (fs : Int32) (ln : Int32) (fo : Int32) (fa : Int32) (wr : Int32) (x : Int32) (y : Int64) (B : Nat → Int) (L : Nat) (hp : MX B L tx ts) : MetI l yX8_feed wsX8_feed 1 25 G [.ref m0, .int x, .long y] [(m0, .inr (8, [.ref m1, .ref m2, .ref m3, .ref m4, .ref m5, .ref m6, .ref m7, .ref m8, .ref m9, .int fu, .int fd, .int fi, .int nu, .int nw, .int nf, .int bf, .int bn, .ref m10, .int ts, .int ap, .int fs, .int ln, .int fo, .int fa, .ref m11, .ref m12, .ref m13, .ref m14, .int wr])), aJ G m1 560 mw, aZ G m2 2 ik, aI G m3 20 zs, aI G m4 20 cl, aI G m5 20 hs, aI G m6 20 ks, aI G m7 20 wa, aI G m8 20 ne, aI G m9 4 mn, aI G m10 400 tx, aI G m11 6 th, aI G m12 6 od, aI G m13 30 bk, aI G m14 30 bh] sz (fun (r : Int32) (u : (Nat → Int32) × (Int32)) => r.toInt = (qFd B L x.toInt y).1 ∧ MX (qFd B L x.toInt y).2.1 (qFd B L x.toInt y).2.2 u.1 u.2) (fun (u : (Nat → Int32) × (Int32)) => [(m0, .inr (8, [.ref m1, .ref m2, .ref m3, .ref m4, .ref m5, .ref m6, .ref m7, .ref m8, .ref m9, .int fu, .int fd, .int fi, .int nu, .int nw, .int nf, .int bf, .int bn, .ref m10, .int u.2, .int ap, .int fs, .int ln, .int fo, .int fa, .ref m11, .ref m12, .ref m13, .ref m14, .int wr])), aJ G m1 560 mw, aZ G m2 2 ik, aI G m3 20 zs, aI G m4 20 cl, aI G m5 20 hs, aI G m6 20 ks, aI G m7 20 wa, aI G m8 20 ne, aI G m9 4 mn, aI G m10 400 u.1, aI G m11 6 th, aI G m12 6 od, aI G m13 30 bk, aI G m14 30 bh]) :=
  c_X8_feed l G m0 m1 m2 m3 m4 m5 m6 m7 m8 m9 m10 m11 m12 m13 m14 sz mw ik zs cl hs ks wa ne mn tx th od bk bh fu fd fi nu nw nf bf bn ts ap fs ln fo fa wr x y B L (v_X8_feed l G m0 m1 m2 m3 m4 m5 m6 m7 m8 m9 m10 m11 m12 m13 m14 sz mw ik zs cl hs ks wa ne mn tx th od bk bh fu fd fi nu nw nf bf bn ts ap fs ln fo fa wr x y B L hp)

set_option maxHeartbeats 4000000 in
set_option maxRecDepth 100000 in
theorem c_X8_here (l : Launch) (G : Gt) (m0 m1 m2 m3 m4 m5 m6 m7 m8 m9 m10 m11 m12 m13 m14 : Nat) (sz : Nat) (mw : Nat → Int64) (ik : Nat → Int32) (zs : Nat → Int32) (cl : Nat → Int32) (hs : Nat → Int32) (ks : Nat → Int32) (wa : Nat → Int32) (ne : Nat → Int32) (mn : Nat → Int32) (tx : Nat → Int32) (th : Nat → Int32) (od : Nat → Int32) (bk : Nat → Int32) (bh : Nat → Int32) (fu : Int32) (fd : Int32) (fi : Int32) (nu : Int32) (nw : Int32) (nf : Int32) (bf : Int32) (bn : Int32) (ts : Int32) (ap : Int32) (fs : Int32) (ln : Int32) (fo : Int32) (fa : Int32) (wr : Int32) (B : Nat → Int) (L : Nat) (aq : Nat) (hv : ∃ (I0_2 : Int32 → Prop) (μ0_3 : Int32 → Nat), I0_2 ap ∧ (∀ (gm019_1 : Int32), I0_2 gm019_1 → (ts ≤ gm019_1 → (ts ≤ gm019_1 → gm019_1 = nI (sk B L aq) ∧ ((-1) : Int32).toInt = (if sk B L aq < L then B (sk B L aq) else -1)) ∧ (¬ (ts ≤ gm019_1) → (vp_in gm019_1 400) ∧ (gm019_1 = nI (sk B L aq) ∧ (tx gm019_1.toNatClampNeg).toInt = (if sk B L aq < L then B (sk B L aq) else -1)))) ∧ (¬ (ts ≤ gm019_1) → (vp_in gm019_1 400) ∧ ((¬ (tx gm019_1.toNatClampNeg) = 32 → (ts ≤ gm019_1 → gm019_1 = nI (sk B L aq) ∧ ((-1) : Int32).toInt = (if sk B L aq < L then B (sk B L aq) else -1)) ∧ (¬ (ts ≤ gm019_1) → (vp_in gm019_1 400) ∧ (gm019_1 = nI (sk B L aq) ∧ (tx gm019_1.toNatClampNeg).toInt = (if sk B L aq < L then B (sk B L aq) else -1)))) ∧ ((tx gm019_1.toNatClampNeg) = 32 → I0_2 (gm019_1 + 1) ∧ μ0_3 (gm019_1 + 1) < μ0_3 gm019_1))))) : MetI l yX8_here wsX8_here 0 0 G [.ref m0] [(m0, .inr (8, [.ref m1, .ref m2, .ref m3, .ref m4, .ref m5, .ref m6, .ref m7, .ref m8, .ref m9, .int fu, .int fd, .int fi, .int nu, .int nw, .int nf, .int bf, .int bn, .ref m10, .int ts, .int ap, .int fs, .int ln, .int fo, .int fa, .ref m11, .ref m12, .ref m13, .ref m14, .int wr])), aJ G m1 560 mw, aZ G m2 2 ik, aI G m3 20 zs, aI G m4 20 cl, aI G m5 20 hs, aI G m6 20 ks, aI G m7 20 wa, aI G m8 20 ne, aI G m9 4 mn, aI G m10 400 tx, aI G m11 6 th, aI G m12 6 od, aI G m13 30 bk, aI G m14 30 bh] sz (fun (r : Int32) (u : (Int32)) => u = nI (sk B L aq) ∧ r.toInt = (if sk B L aq < L then B (sk B L aq) else -1)) (fun (u : (Int32)) => [(m0, .inr (8, [.ref m1, .ref m2, .ref m3, .ref m4, .ref m5, .ref m6, .ref m7, .ref m8, .ref m9, .int fu, .int fd, .int fi, .int nu, .int nw, .int nf, .int bf, .int bn, .ref m10, .int ts, .int u, .int fs, .int ln, .int fo, .int fa, .ref m11, .ref m12, .ref m13, .ref m14, .int wr])), aJ G m1 560 mw, aZ G m2 2 ik, aI G m3 20 zs, aI G m4 20 cl, aI G m5 20 hs, aI G m6 20 ks, aI G m7 20 wa, aI G m8 20 ne, aI G m9 4 mn, aI G m10 400 tx, aI G m11 6 th, aI G m12 6 od, aI G m13 30 bk, aI G m14 30 bh]) := by
  refine x_startI (cc := cX8_here) (maxL := 1) (ret := (some .int)) (by decide) rfl (Nat.le_of_ble_eq_true rfl) ?_
  intro p e s m args below meth c A R Q ls hRf hRl hQ C hP hD hS hA hSS hl
  obtain ⟨hx, hb, hr, hml, hown, hts, hlocks, hKK⟩ := C
  have hown : s.vm.findClass RX8 = some m.cls := hown
  have hl : lv_has ls 1 [(0, .ref m0)] := hl
  have hinX8 : ∀ w ∈ u_ws RX8 TX8 29, w ∈ wsX8_here := by decide +kernel
  have kl46 := hts (.fieldLink RX8 46 "WarmStonesModel" "text" "[I") (by decide +kernel)
  have kl74 := hts (.fieldLink RX8 74 "WarmStonesModel" "textSize" "I") (by decide +kernel)
  have kl80 := hts (.fieldLink RX8 80 "WarmStonesModel" "at" "I") (by decide +kernel)
  obtain ⟨I0_2, μ0_3, hi0, hs_10⟩ := hv
  have Lm_12 : ∀ (n_11 : Nat) (gm019_1 : Int32) (H : Heap) (locs : List Loc) (ls : Array Slot), μ0_3 gm019_1 < n_11 → I0_2 gm019_1 → va_P G.1 vwCl [(m0, .inr (8, [.ref m1, .ref m2, .ref m3, .ref m4, .ref m5, .ref m6, .ref m7, .ref m8, .ref m9, .int fu, .int fd, .int fi, .int nu, .int nw, .int nf, .int bf, .int bn, .ref m10, .int ts, .int gm019_1, .int fs, .int ln, .int fo, .int fa, .ref m11, .ref m12, .ref m13, .ref m14, .int wr])), aJ G m1 560 mw, aZ G m2 2 ik, aI G m3 20 zs, aI G m4 20 cl, aI G m5 20 hs, aI G m6 20 ks, aI G m7 20 wa, aI G m8 20 ne, aI G m9 4 mn, aI G m10 400 tx, aI G m11 6 th, aI G m12 6 od, aI G m13 30 bk, aI G m14 30 bh] H → va_D A [(m0, .inr (8, [.ref m1, .ref m2, .ref m3, .ref m4, .ref m5, .ref m6, .ref m7, .ref m8, .ref m9, .int fu, .int fd, .int fi, .int nu, .int nw, .int nf, .int bf, .int bn, .ref m10, .int ts, .int gm019_1, .int fs, .int ln, .int fo, .int fa, .ref m11, .ref m12, .ref m13, .ref m14, .int wr])), aJ G m1 560 mw, aZ G m2 2 ik, aI G m3 20 zs, aI G m4 20 cl, aI G m5 20 hs, aI G m6 20 ks, aI G m7 20 wa, aI G m8 20 ne, aI G m9 4 mn, aI G m10 400 tx, aI G m11 6 th, aI G m12 6 od, aI G m13 30 bk, aI G m14 30 bh] → va_S A s.heap H locs → lv_has ls 1 [(0, .ref m0)] → W p l e R s m args below meth c H locs 0 0 Q (F0 m 0 ls []) := by
    intro n_11
    induction n_11 with
    | zero => intro gm019_1 H locs ls hm; exact absurd hm (Nat.not_lt_zero _)
    | succ n_11 ih_4 =>
      intro gm019_1 H locs ls hI_5 hi hP hD hS hl
      have hv := hs_10 gm019_1 hi
      refine lv_aload_n hx hb dX8_here_0 rfl (lv_at hl 0 rfl) ?_
      refine va_get (D := G.1) (ci := 8) (v := .int gm019_1) (C := RX8) (T := TX8) (N := 29) hx hb hts hinX8 hown hKK.1 hP 0 rfl rfl 19 (by decide) kl80 (fun _ h9 => h9) rfl dX8_here_1 ?_
      refine lv_aload_n hx hb dX8_here_4 rfl (lv_at hl 0 rfl) ?_
      refine va_get (D := G.1) (ci := 8) (v := .int ts) (C := RX8) (T := TX8) (N := 29) hx hb hts hinX8 hown hKK.1 hP 0 rfl rfl 18 (by decide) kl74 (fun _ h9 => h9) rfl dX8_here_5 ?_
      refine lv_icmp_ge (tgt := 38) hx hb dX8_here_8 (by decide) (fun hc_6 => ?_) (fun hc_6 => ?_)
      · have hv := hv.1 hc_6
        refine lv_aload_n hx hb dX8_here_38 rfl (lv_at hl 0 rfl) ?_
        refine va_get (D := G.1) (ci := 8) (v := .int gm019_1) (C := RX8) (T := TX8) (N := 29) hx hb hts hinX8 hown hKK.1 hP 0 rfl rfl 19 (by decide) kl80 (fun _ h9 => h9) rfl dX8_here_39 ?_
        refine lv_aload_n hx hb dX8_here_42 rfl (lv_at hl 0 rfl) ?_
        refine va_get (D := G.1) (ci := 8) (v := .int ts) (C := RX8) (T := TX8) (N := 29) hx hb hts hinX8 hown hKK.1 hP 0 rfl rfl 18 (by decide) kl74 (fun _ h9 => h9) rfl dX8_here_43 ?_
        refine lv_icmp_ge (tgt := 61) hx hb dX8_here_46 (by decide) (fun hc_7 => ?_) (fun hc_7 => ?_)
        · have hv := hv.1 hc_7
          refine lv_iconst (v := (-1)) hx hb dX8_here_61 (by decide) ?_
          exact x_iret (v := (-1)) gm019_1 hQ hx hb hr hlocks hS dX8_here_62 hv hP hD
        · have hv := hv.2 hc_7
          refine lv_aload_n hx hb dX8_here_49 rfl (lv_at hl 0 rfl) ?_
          refine va_get (D := G.1) (ci := 8) (v := .ref m10) (C := RX8) (T := TX8) (N := 29) hx hb hts hinX8 hown hKK.1 hP 0 rfl rfl 17 (by decide) kl46 (fun _ h9 => h9) rfl dX8_here_50 ?_
          refine lv_aload_n hx hb dX8_here_53 rfl (lv_at hl 0 rfl) ?_
          refine va_get (D := G.1) (ci := 8) (v := .int gm019_1) (C := RX8) (T := TX8) (N := 29) hx hb hts hinX8 hown hKK.1 hP 0 rfl rfl 19 (by decide) kl80 (fun _ h9 => h9) rfl dX8_here_54 ?_
          obtain ⟨hin, hv⟩ := hv
          refine va_iald hx hb hKK.1 hP 10 0 rfl rfl hin dX8_here_57 ?_
          refine lv_goto (tgt := 62) hx hb dX8_here_58 (by decide) ?_
          exact x_iret (v := (tx gm019_1.toNatClampNeg)) gm019_1 hQ hx hb hr hlocks hS dX8_here_62 hv hP hD
      · have hv := hv.2 hc_6
        refine lv_aload_n hx hb dX8_here_11 rfl (lv_at hl 0 rfl) ?_
        refine va_get (D := G.1) (ci := 8) (v := .ref m10) (C := RX8) (T := TX8) (N := 29) hx hb hts hinX8 hown hKK.1 hP 0 rfl rfl 17 (by decide) kl46 (fun _ h9 => h9) rfl dX8_here_12 ?_
        refine lv_aload_n hx hb dX8_here_15 rfl (lv_at hl 0 rfl) ?_
        refine va_get (D := G.1) (ci := 8) (v := .int gm019_1) (C := RX8) (T := TX8) (N := 29) hx hb hts hinX8 hown hKK.1 hP 0 rfl rfl 19 (by decide) kl80 (fun _ h9 => h9) rfl dX8_here_16 ?_
        obtain ⟨hin, hv⟩ := hv
        refine va_iald hx hb hKK.1 hP 10 0 rfl rfl hin dX8_here_19 ?_
        refine lv_bipush (v := 32) hx hb dX8_here_20 (by decide) ?_
        refine lv_icmp_ne (tgt := 38) hx hb dX8_here_22 (by decide) (fun hc_8 => ?_) (fun hc_8 => ?_)
        · have hv := hv.1 hc_8
          refine lv_aload_n hx hb dX8_here_38 rfl (lv_at hl 0 rfl) ?_
          refine va_get (D := G.1) (ci := 8) (v := .int gm019_1) (C := RX8) (T := TX8) (N := 29) hx hb hts hinX8 hown hKK.1 hP 0 rfl rfl 19 (by decide) kl80 (fun _ h9 => h9) rfl dX8_here_39 ?_
          refine lv_aload_n hx hb dX8_here_42 rfl (lv_at hl 0 rfl) ?_
          refine va_get (D := G.1) (ci := 8) (v := .int ts) (C := RX8) (T := TX8) (N := 29) hx hb hts hinX8 hown hKK.1 hP 0 rfl rfl 18 (by decide) kl74 (fun _ h9 => h9) rfl dX8_here_43 ?_
          refine lv_icmp_ge (tgt := 61) hx hb dX8_here_46 (by decide) (fun hc_9 => ?_) (fun hc_9 => ?_)
          · have hv := hv.1 hc_9
            refine lv_iconst (v := (-1)) hx hb dX8_here_61 (by decide) ?_
            exact x_iret (v := (-1)) gm019_1 hQ hx hb hr hlocks hS dX8_here_62 hv hP hD
          · have hv := hv.2 hc_9
            refine lv_aload_n hx hb dX8_here_49 rfl (lv_at hl 0 rfl) ?_
            refine va_get (D := G.1) (ci := 8) (v := .ref m10) (C := RX8) (T := TX8) (N := 29) hx hb hts hinX8 hown hKK.1 hP 0 rfl rfl 17 (by decide) kl46 (fun _ h9 => h9) rfl dX8_here_50 ?_
            refine lv_aload_n hx hb dX8_here_53 rfl (lv_at hl 0 rfl) ?_
            refine va_get (D := G.1) (ci := 8) (v := .int gm019_1) (C := RX8) (T := TX8) (N := 29) hx hb hts hinX8 hown hKK.1 hP 0 rfl rfl 19 (by decide) kl80 (fun _ h9 => h9) rfl dX8_here_54 ?_
            obtain ⟨hin, hv⟩ := hv
            refine va_iald hx hb hKK.1 hP 10 0 rfl rfl hin dX8_here_57 ?_
            refine lv_goto (tgt := 62) hx hb dX8_here_58 (by decide) ?_
            exact x_iret (v := (tx gm019_1.toNatClampNeg)) gm019_1 hQ hx hb hr hlocks hS dX8_here_62 hv hP hD
        · have hv := hv.2 hc_8
          refine lv_aload_n hx hb dX8_here_25 rfl (lv_at hl 0 rfl) ?_
          refine lv_dup hx hb dX8_here_26 rfl ?_
          refine va_get (D := G.1) (ci := 8) (v := .int gm019_1) (C := RX8) (T := TX8) (N := 29) hx hb hts hinX8 hown hKK.1 hP 0 rfl rfl 19 (by decide) kl80 (fun _ h9 => h9) rfl dX8_here_27 ?_
          refine lv_iconst (v := 1) hx hb dX8_here_30 (by decide) ?_
          refine lv_iadd hx hb dX8_here_31 ?_
          refine va_put (D := G.1) (ci := 8) (v := .int (gm019_1 + 1)) (ty := .int) (C := RX8) (T := TX8) (N := 29) hx hb hts hinX8 tyX8 tyX8_ok nmX8 hown hKK.1 hP hD hS 0 rfl rfl 19 (by decide) kl80 (fun _ h9 => h9) rfl (by decide +kernel) rfl rfl (Nat.le_of_ble_eq_true rfl) dX8_here_32 (fun H locs hP hD hS => ?_)
          have hP : va_P G.1 vwCl [(m0, .inr (8, [.ref m1, .ref m2, .ref m3, .ref m4, .ref m5, .ref m6, .ref m7, .ref m8, .ref m9, .int fu, .int fd, .int fi, .int nu, .int nw, .int nf, .int bf, .int bn, .ref m10, .int ts, .int (gm019_1 + 1), .int fs, .int ln, .int fo, .int fa, .ref m11, .ref m12, .ref m13, .ref m14, .int wr])), aJ G m1 560 mw, aZ G m2 2 ik, aI G m3 20 zs, aI G m4 20 cl, aI G m5 20 hs, aI G m6 20 ks, aI G m7 20 wa, aI G m8 20 ne, aI G m9 4 mn, aI G m10 400 tx, aI G m11 6 th, aI G m12 6 od, aI G m13 30 bk, aI G m14 30 bh] H := hP
          have hD : va_D A [(m0, .inr (8, [.ref m1, .ref m2, .ref m3, .ref m4, .ref m5, .ref m6, .ref m7, .ref m8, .ref m9, .int fu, .int fd, .int fi, .int nu, .int nw, .int nf, .int bf, .int bn, .ref m10, .int ts, .int (gm019_1 + 1), .int fs, .int ln, .int fo, .int fa, .ref m11, .ref m12, .ref m13, .ref m14, .int wr])), aJ G m1 560 mw, aZ G m2 2 ik, aI G m3 20 zs, aI G m4 20 cl, aI G m5 20 hs, aI G m6 20 ks, aI G m7 20 wa, aI G m8 20 ne, aI G m9 4 mn, aI G m10 400 tx, aI G m11 6 th, aI G m12 6 od, aI G m13 30 bk, aI G m14 30 bh] := hD
          refine lv_goto (tgt := 0) hx hb dX8_here_35 (by decide) ?_
          exact ih_4 _ _ _ _ (Nat.lt_of_lt_of_le hv.2 (Nat.le_of_lt_succ hI_5)) hv.1 hP hD hS hl
  exact Lm_12 _ _ _ _ _ (Nat.lt_succ_self _) hi0 hP hD hS hl
theorem v_X8_here (l : Launch) (G : Gt) (m0 m1 m2 m3 m4 m5 m6 m7 m8 m9 m10 m11 m12 m13 m14 : Nat) (sz : Nat) (mw : Nat → Int64) (ik : Nat → Int32) (zs : Nat → Int32) (cl : Nat → Int32) (hs : Nat → Int32) (ks : Nat → Int32) (wa : Nat → Int32) (ne : Nat → Int32) (mn : Nat → Int32) (tx : Nat → Int32) (th : Nat → Int32) (od : Nat → Int32) (bk : Nat → Int32) (bh : Nat → Int32) (fu : Int32) (fd : Int32) (fi : Int32) (nu : Int32) (nw : Int32) (nf : Int32) (bf : Int32) (bn : Int32) (ts : Int32) (ap : Int32) (fs : Int32) (ln : Int32) (fo : Int32) (fa : Int32) (wr : Int32) (B : Nat → Int) (L : Nat) (aq : Nat) (hp : MX B L tx ts ∧ ap = nI aq ∧ aq ≤ L) : ∃ (I0_2 : Int32 → Prop) (μ0_3 : Int32 → Nat), I0_2 ap ∧ (∀ (gm019_1 : Int32), I0_2 gm019_1 → (ts ≤ gm019_1 → (ts ≤ gm019_1 → gm019_1 = nI (sk B L aq) ∧ ((-1) : Int32).toInt = (if sk B L aq < L then B (sk B L aq) else -1)) ∧ (¬ (ts ≤ gm019_1) → (vp_in gm019_1 400) ∧ (gm019_1 = nI (sk B L aq) ∧ (tx gm019_1.toNatClampNeg).toInt = (if sk B L aq < L then B (sk B L aq) else -1)))) ∧ (¬ (ts ≤ gm019_1) → (vp_in gm019_1 400) ∧ ((¬ (tx gm019_1.toNatClampNeg) = 32 → (ts ≤ gm019_1 → gm019_1 = nI (sk B L aq) ∧ ((-1) : Int32).toInt = (if sk B L aq < L then B (sk B L aq) else -1)) ∧ (¬ (ts ≤ gm019_1) → (vp_in gm019_1 400) ∧ (gm019_1 = nI (sk B L aq) ∧ (tx gm019_1.toNatClampNeg).toInt = (if sk B L aq < L then B (sk B L aq) else -1)))) ∧ ((tx gm019_1.toNatClampNeg) = 32 → I0_2 (gm019_1 + 1) ∧ μ0_3 (gm019_1 + 1) < μ0_3 gm019_1)))) := by
  obtain ⟨hX, rfl, ha⟩ := hp
  have hL := hX.1
  have hxl := hX.2.1
  refine ⟨fun z => ∃ a, z = nI a ∧ a ≤ L ∧ sk B L a = sk B L aq, fun z => 401 - z.toNatClampNeg, ⟨aq, rfl, ha, rfl⟩, ?_⟩
  rintro z ⟨a, rfl, haL, hs⟩
  have ea : (nI a).toNatClampNeg = a := nI_clamp (by omega)
  have ea1 : nI a + 1 = nI (a + 1) := nI_1 a
  have ea2 : (nI (a + 1)).toNatClampNeg = a + 1 := nI_clamp (by omega)
  have hle : nI L ≤ nI a ↔ L ≤ a := nI_leI (by omega) (by omega)
  simp only [ea, ea1, ea2, hxl, hle]
  have stop : ¬ (a < L ∧ isBl B a = true) → sk B L aq = a := fun h => by rw [← hs]; unfold sk; rw [run_end h]
  have tail : ¬ (a < L ∧ isBl B a = true) → (L ≤ a → nI a = nI (sk B L aq) ∧ ((-1) : Int32).toInt = (if sk B L aq < L then B (sk B L aq) else -1)) ∧ (¬ L ≤ a → vp_in (nI a) 400 ∧ nI a = nI (sk B L aq) ∧ (tx a).toInt = (if sk B L aq < L then B (sk B L aq) else -1)) := fun h => by
    rw [stop h]
    refine ⟨fun q => ⟨rfl, by rw [if_neg (by omega)]; rfl⟩, fun q => ⟨vp_in_nI (by omega) (by omega), rfl, ?_⟩⟩
    rw [if_pos (by omega)]
    exact (hX.2.2 a (by omega)).2.2
  refine ⟨fun q => tail (fun z => absurd z.1 (by omega)), fun q => ?_⟩
  have hb := hX.is (i := a) (by omega) 32
  refine ⟨vp_in_nI (by omega) (by omega), fun h => tail (fun z => h (hb.mpr (of_decide_eq_true z.2))), fun h => ⟨⟨a + 1, rfl, by omega, ?_⟩, by omega⟩⟩
  rw [← hs]
  exact run_go (by omega) (decide_eq_true (hb.mp h))
theorem k_X8_here (l : Launch) (G : Gt) (m0 m1 m2 m3 m4 m5 m6 m7 m8 m9 m10 m11 m12 m13 m14 : Nat) (sz : Nat) (mw : Nat → Int64) (ik : Nat → Int32) (zs : Nat → Int32) (cl : Nat → Int32) (hs : Nat → Int32) (ks : Nat → Int32) (wa : Nat → Int32) (ne : Nat → Int32) (mn : Nat → Int32) (tx : Nat → Int32) (th : Nat → Int32) (od : Nat → Int32) (bk : Nat → Int32) (bh : Nat → Int32) (fu : Int32) (fd : Int32) (fi : Int32) (nu : Int32) (nw : Int32) (nf : Int32) (bf : Int32) (bn : Int32) (ts : Int32) (ap : Int32) (fs : Int32) (ln : Int32) (fo : Int32) (fa : Int32) (wr : Int32) (B : Nat → Int) (L : Nat) (aq : Nat) (hp : MX B L tx ts ∧ ap = nI aq ∧ aq ≤ L) : MetI l yX8_here wsX8_here 0 0 G [.ref m0] [(m0, .inr (8, [.ref m1, .ref m2, .ref m3, .ref m4, .ref m5, .ref m6, .ref m7, .ref m8, .ref m9, .int fu, .int fd, .int fi, .int nu, .int nw, .int nf, .int bf, .int bn, .ref m10, .int ts, .int ap, .int fs, .int ln, .int fo, .int fa, .ref m11, .ref m12, .ref m13, .ref m14, .int wr])), aJ G m1 560 mw, aZ G m2 2 ik, aI G m3 20 zs, aI G m4 20 cl, aI G m5 20 hs, aI G m6 20 ks, aI G m7 20 wa, aI G m8 20 ne, aI G m9 4 mn, aI G m10 400 tx, aI G m11 6 th, aI G m12 6 od, aI G m13 30 bk, aI G m14 30 bh] sz (fun (r : Int32) (u : (Int32)) => u = nI (sk B L aq) ∧ r.toInt = (if sk B L aq < L then B (sk B L aq) else -1)) (fun (u : (Int32)) => [(m0, .inr (8, [.ref m1, .ref m2, .ref m3, .ref m4, .ref m5, .ref m6, .ref m7, .ref m8, .ref m9, .int fu, .int fd, .int fi, .int nu, .int nw, .int nf, .int bf, .int bn, .ref m10, .int ts, .int u, .int fs, .int ln, .int fo, .int fa, .ref m11, .ref m12, .ref m13, .ref m14, .int wr])), aJ G m1 560 mw, aZ G m2 2 ik, aI G m3 20 zs, aI G m4 20 cl, aI G m5 20 hs, aI G m6 20 ks, aI G m7 20 wa, aI G m8 20 ne, aI G m9 4 mn, aI G m10 400 tx, aI G m11 6 th, aI G m12 6 od, aI G m13 30 bk, aI G m14 30 bh]) :=
  c_X8_here l G m0 m1 m2 m3 m4 m5 m6 m7 m8 m9 m10 m11 m12 m13 m14 sz mw ik zs cl hs ks wa ne mn tx th od bk bh fu fd fi nu nw nf bf bn ts ap fs ln fo fa wr B L aq (v_X8_here l G m0 m1 m2 m3 m4 m5 m6 m7 m8 m9 m10 m11 m12 m13 m14 sz mw ik zs cl hs ks wa ne mn tx th od bk bh fu fd fi nu nw nf bf bn ts ap fs ln fo fa wr B L aq hp)

set_option maxHeartbeats 4000000 in
set_option maxRecDepth 100000 in
theorem c_X8_want (l : Launch) (G : Gt) (m0 m1 m2 m3 m4 m5 m6 m7 m8 m9 m10 m11 m12 m13 m14 : Nat) (sz : Nat) (mw : Nat → Int64) (ik : Nat → Int32) (zs : Nat → Int32) (cl : Nat → Int32) (hs : Nat → Int32) (ks : Nat → Int32) (wa : Nat → Int32) (ne : Nat → Int32) (mn : Nat → Int32) (tx : Nat → Int32) (th : Nat → Int32) (od : Nat → Int32) (bk : Nat → Int32) (bh : Nat → Int32) (fu : Int32) (fd : Int32) (fi : Int32) (nu : Int32) (nw : Int32) (nf : Int32) (bf : Int32) (bn : Int32) (ts : Int32) (ap : Int32) (fs : Int32) (ln : Int32) (fo : Int32) (fa : Int32) (wr : Int32) (x : Int32) (y : Int32) (z : Int32) (hv : (¬ x = 0 → (¬ fo = 0 → ((fo = 0 ∧ ¬ x = 0 ∧ (0 : Int32) = 1 ∧ fo = fo ∧ fa = fa) ∨ (fo = 0 ∧ x = 0 ∧ (0 : Int32) = 0 ∧ fo = y ∧ fa = z) ∨ (¬ fo = 0 ∧ (0 : Int32) = 0 ∧ fo = fo ∧ fa = fa))) ∧ (fo = 0 → ((fo = 0 ∧ ¬ x = 0 ∧ (1 : Int32) = 1 ∧ fo = fo ∧ fa = fa) ∨ (fo = 0 ∧ x = 0 ∧ (1 : Int32) = 0 ∧ fo = y ∧ fa = z) ∨ (¬ fo = 0 ∧ (1 : Int32) = 0 ∧ fo = fo ∧ fa = fa)))) ∧ (x = 0 → (¬ fo = 0 → (¬ fo = 0 → ((fo = 0 ∧ ¬ x = 0 ∧ (0 : Int32) = 1 ∧ fo = fo ∧ fa = fa) ∨ (fo = 0 ∧ x = 0 ∧ (0 : Int32) = 0 ∧ fo = y ∧ fa = z) ∨ (¬ fo = 0 ∧ (0 : Int32) = 0 ∧ fo = fo ∧ fa = fa))) ∧ (fo = 0 → ((fo = 0 ∧ ¬ x = 0 ∧ (1 : Int32) = 1 ∧ fo = fo ∧ fa = fa) ∨ (fo = 0 ∧ x = 0 ∧ (1 : Int32) = 0 ∧ fo = y ∧ fa = z) ∨ (¬ fo = 0 ∧ (1 : Int32) = 0 ∧ fo = fo ∧ fa = fa)))) ∧ (fo = 0 → (¬ y = 0 → ((fo = 0 ∧ ¬ x = 0 ∧ (0 : Int32) = 1 ∧ y = fo ∧ z = fa) ∨ (fo = 0 ∧ x = 0 ∧ (0 : Int32) = 0 ∧ y = y ∧ z = z) ∨ (¬ fo = 0 ∧ (0 : Int32) = 0 ∧ y = fo ∧ z = fa))) ∧ (y = 0 → ((fo = 0 ∧ ¬ x = 0 ∧ (1 : Int32) = 1 ∧ y = fo ∧ z = fa) ∨ (fo = 0 ∧ x = 0 ∧ (1 : Int32) = 0 ∧ y = y ∧ z = z) ∨ (¬ fo = 0 ∧ (1 : Int32) = 0 ∧ y = fo ∧ z = fa)))))) : MetI l yX8_want wsX8_want 0 0 G [.ref m0, .int x, .int y, .int z] [(m0, .inr (8, [.ref m1, .ref m2, .ref m3, .ref m4, .ref m5, .ref m6, .ref m7, .ref m8, .ref m9, .int fu, .int fd, .int fi, .int nu, .int nw, .int nf, .int bf, .int bn, .ref m10, .int ts, .int ap, .int fs, .int ln, .int fo, .int fa, .ref m11, .ref m12, .ref m13, .ref m14, .int wr])), aJ G m1 560 mw, aZ G m2 2 ik, aI G m3 20 zs, aI G m4 20 cl, aI G m5 20 hs, aI G m6 20 ks, aI G m7 20 wa, aI G m8 20 ne, aI G m9 4 mn, aI G m10 400 tx, aI G m11 6 th, aI G m12 6 od, aI G m13 30 bk, aI G m14 30 bh] sz (fun (r : Int32) (u : (Int32) × (Int32)) => ((fo = 0 ∧ ¬ x = 0 ∧ r = 1 ∧ u.1 = fo ∧ u.2 = fa) ∨ (fo = 0 ∧ x = 0 ∧ r = 0 ∧ u.1 = y ∧ u.2 = z) ∨ (¬ fo = 0 ∧ r = 0 ∧ u.1 = fo ∧ u.2 = fa))) (fun (u : (Int32) × (Int32)) => [(m0, .inr (8, [.ref m1, .ref m2, .ref m3, .ref m4, .ref m5, .ref m6, .ref m7, .ref m8, .ref m9, .int fu, .int fd, .int fi, .int nu, .int nw, .int nf, .int bf, .int bn, .ref m10, .int ts, .int ap, .int fs, .int ln, .int u.1, .int u.2, .ref m11, .ref m12, .ref m13, .ref m14, .int wr])), aJ G m1 560 mw, aZ G m2 2 ik, aI G m3 20 zs, aI G m4 20 cl, aI G m5 20 hs, aI G m6 20 ks, aI G m7 20 wa, aI G m8 20 ne, aI G m9 4 mn, aI G m10 400 tx, aI G m11 6 th, aI G m12 6 od, aI G m13 30 bk, aI G m14 30 bh]) := by
  refine x_startI (cc := cX8_want) (maxL := 4) (ret := (some .boolean)) (by decide) rfl (Nat.le_of_ble_eq_true rfl) ?_
  intro p e s m args below meth c A R Q ls hRf hRl hQ C hP hD hS hA hSS hl
  obtain ⟨hx, hb, hr, hml, hown, hts, hlocks, hKK⟩ := C
  have hown : s.vm.findClass RX8 = some m.cls := hown
  have hl : lv_has ls 4 [(0, .ref m0), (1, .int x), (2, .int y), (3, .int z)] := hl
  have hinX8 : ∀ w ∈ u_ws RX8 TX8 29, w ∈ wsX8_want := by decide +kernel
  have kl49 := hts (.fieldLink RX8 49 "WarmStonesModel" "fault" "I") (by decide +kernel)
  have kl83 := hts (.fieldLink RX8 83 "WarmStonesModel" "faultOf" "I") (by decide +kernel)
  refine lv_iload_n hx hb dX8_want_0 rfl (lv_at hl 1 rfl) ?_
  refine lv_if_ne (tgt := 21) hx hb dX8_want_1 (by decide) (fun hc_1 => ?_) (fun hc_1 => ?_)
  · have hv := hv.1 hc_1
    refine lv_aload_n hx hb dX8_want_21 rfl (lv_at hl 0 rfl) ?_
    refine va_get (D := G.1) (ci := 8) (v := .int fo) (C := RX8) (T := TX8) (N := 29) hx hb hts hinX8 hown hKK.1 hP 0 rfl rfl 22 (by decide) kl83 (fun _ h9 => h9) rfl dX8_want_22 ?_
    refine lv_if_ne (tgt := 32) hx hb dX8_want_25 (by decide) (fun hc_2 => ?_) (fun hc_2 => ?_)
    · have hv := hv.1 hc_2
      refine lv_iconst (v := 0) hx hb dX8_want_32 (by decide) ?_
      exact x_zret (v := 0) (fo, fa) hQ hx hb hr hlocks hS dX8_want_33 rfl hv hP hD
    · have hv := hv.2 hc_2
      refine lv_iconst (v := 1) hx hb dX8_want_28 (by decide) ?_
      refine lv_goto (tgt := 33) hx hb dX8_want_29 (by decide) ?_
      exact x_zret (v := 1) (fo, fa) hQ hx hb hr hlocks hS dX8_want_33 rfl hv hP hD
  · have hv := hv.2 hc_1
    refine lv_aload_n hx hb dX8_want_4 rfl (lv_at hl 0 rfl) ?_
    refine va_get (D := G.1) (ci := 8) (v := .int fo) (C := RX8) (T := TX8) (N := 29) hx hb hts hinX8 hown hKK.1 hP 0 rfl rfl 22 (by decide) kl83 (fun _ h9 => h9) rfl dX8_want_5 ?_
    refine lv_if_ne (tgt := 21) hx hb dX8_want_8 (by decide) (fun hc_3 => ?_) (fun hc_3 => ?_)
    · have hv := hv.1 hc_3
      refine lv_aload_n hx hb dX8_want_21 rfl (lv_at hl 0 rfl) ?_
      refine va_get (D := G.1) (ci := 8) (v := .int fo) (C := RX8) (T := TX8) (N := 29) hx hb hts hinX8 hown hKK.1 hP 0 rfl rfl 22 (by decide) kl83 (fun _ h9 => h9) rfl dX8_want_22 ?_
      refine lv_if_ne (tgt := 32) hx hb dX8_want_25 (by decide) (fun hc_4 => ?_) (fun hc_4 => ?_)
      · have hv := hv.1 hc_4
        refine lv_iconst (v := 0) hx hb dX8_want_32 (by decide) ?_
        exact x_zret (v := 0) (fo, fa) hQ hx hb hr hlocks hS dX8_want_33 rfl hv hP hD
      · have hv := hv.2 hc_4
        refine lv_iconst (v := 1) hx hb dX8_want_28 (by decide) ?_
        refine lv_goto (tgt := 33) hx hb dX8_want_29 (by decide) ?_
        exact x_zret (v := 1) (fo, fa) hQ hx hb hr hlocks hS dX8_want_33 rfl hv hP hD
    · have hv := hv.2 hc_3
      refine lv_aload_n hx hb dX8_want_11 rfl (lv_at hl 0 rfl) ?_
      refine lv_iload_n hx hb dX8_want_12 rfl (lv_at hl 2 rfl) ?_
      refine va_put (D := G.1) (ci := 8) (v := .int y) (ty := .int) (C := RX8) (T := TX8) (N := 29) hx hb hts hinX8 tyX8 tyX8_ok nmX8 hown hKK.1 hP hD hS 0 rfl rfl 22 (by decide) kl83 (fun _ h9 => h9) rfl (by decide +kernel) rfl rfl (Nat.le_of_ble_eq_true rfl) dX8_want_13 (fun H locs hP hD hS => ?_)
      have hP : va_P G.1 vwCl [(m0, .inr (8, [.ref m1, .ref m2, .ref m3, .ref m4, .ref m5, .ref m6, .ref m7, .ref m8, .ref m9, .int fu, .int fd, .int fi, .int nu, .int nw, .int nf, .int bf, .int bn, .ref m10, .int ts, .int ap, .int fs, .int ln, .int y, .int fa, .ref m11, .ref m12, .ref m13, .ref m14, .int wr])), aJ G m1 560 mw, aZ G m2 2 ik, aI G m3 20 zs, aI G m4 20 cl, aI G m5 20 hs, aI G m6 20 ks, aI G m7 20 wa, aI G m8 20 ne, aI G m9 4 mn, aI G m10 400 tx, aI G m11 6 th, aI G m12 6 od, aI G m13 30 bk, aI G m14 30 bh] H := hP
      have hD : va_D A [(m0, .inr (8, [.ref m1, .ref m2, .ref m3, .ref m4, .ref m5, .ref m6, .ref m7, .ref m8, .ref m9, .int fu, .int fd, .int fi, .int nu, .int nw, .int nf, .int bf, .int bn, .ref m10, .int ts, .int ap, .int fs, .int ln, .int y, .int fa, .ref m11, .ref m12, .ref m13, .ref m14, .int wr])), aJ G m1 560 mw, aZ G m2 2 ik, aI G m3 20 zs, aI G m4 20 cl, aI G m5 20 hs, aI G m6 20 ks, aI G m7 20 wa, aI G m8 20 ne, aI G m9 4 mn, aI G m10 400 tx, aI G m11 6 th, aI G m12 6 od, aI G m13 30 bk, aI G m14 30 bh] := hD
      refine lv_aload_n hx hb dX8_want_16 rfl (lv_at hl 0 rfl) ?_
      refine lv_iload_n hx hb dX8_want_17 rfl (lv_at hl 3 rfl) ?_
      refine va_put (D := G.1) (ci := 8) (v := .int z) (ty := .int) (C := RX8) (T := TX8) (N := 29) hx hb hts hinX8 tyX8 tyX8_ok nmX8 hown hKK.1 hP hD hS 0 rfl rfl 23 (by decide) kl49 (fun _ h9 => h9) rfl (by decide +kernel) rfl rfl (Nat.le_of_ble_eq_true rfl) dX8_want_18 (fun H locs hP hD hS => ?_)
      have hP : va_P G.1 vwCl [(m0, .inr (8, [.ref m1, .ref m2, .ref m3, .ref m4, .ref m5, .ref m6, .ref m7, .ref m8, .ref m9, .int fu, .int fd, .int fi, .int nu, .int nw, .int nf, .int bf, .int bn, .ref m10, .int ts, .int ap, .int fs, .int ln, .int y, .int z, .ref m11, .ref m12, .ref m13, .ref m14, .int wr])), aJ G m1 560 mw, aZ G m2 2 ik, aI G m3 20 zs, aI G m4 20 cl, aI G m5 20 hs, aI G m6 20 ks, aI G m7 20 wa, aI G m8 20 ne, aI G m9 4 mn, aI G m10 400 tx, aI G m11 6 th, aI G m12 6 od, aI G m13 30 bk, aI G m14 30 bh] H := hP
      have hD : va_D A [(m0, .inr (8, [.ref m1, .ref m2, .ref m3, .ref m4, .ref m5, .ref m6, .ref m7, .ref m8, .ref m9, .int fu, .int fd, .int fi, .int nu, .int nw, .int nf, .int bf, .int bn, .ref m10, .int ts, .int ap, .int fs, .int ln, .int y, .int z, .ref m11, .ref m12, .ref m13, .ref m14, .int wr])), aJ G m1 560 mw, aZ G m2 2 ik, aI G m3 20 zs, aI G m4 20 cl, aI G m5 20 hs, aI G m6 20 ks, aI G m7 20 wa, aI G m8 20 ne, aI G m9 4 mn, aI G m10 400 tx, aI G m11 6 th, aI G m12 6 od, aI G m13 30 bk, aI G m14 30 bh] := hD
      refine lv_aload_n hx hb dX8_want_21 rfl (lv_at hl 0 rfl) ?_
      refine va_get (D := G.1) (ci := 8) (v := .int y) (C := RX8) (T := TX8) (N := 29) hx hb hts hinX8 hown hKK.1 hP 0 rfl rfl 22 (by decide) kl83 (fun _ h9 => h9) rfl dX8_want_22 ?_
      refine lv_if_ne (tgt := 32) hx hb dX8_want_25 (by decide) (fun hc_5 => ?_) (fun hc_5 => ?_)
      · have hv := hv.1 hc_5
        refine lv_iconst (v := 0) hx hb dX8_want_32 (by decide) ?_
        exact x_zret (v := 0) (y, z) hQ hx hb hr hlocks hS dX8_want_33 rfl hv hP hD
      · have hv := hv.2 hc_5
        refine lv_iconst (v := 1) hx hb dX8_want_28 (by decide) ?_
        refine lv_goto (tgt := 33) hx hb dX8_want_29 (by decide) ?_
        exact x_zret (v := 1) (y, z) hQ hx hb hr hlocks hS dX8_want_33 rfl hv hP hD
theorem v_X8_want (l : Launch) (G : Gt) (m0 m1 m2 m3 m4 m5 m6 m7 m8 m9 m10 m11 m12 m13 m14 : Nat) (sz : Nat) (mw : Nat → Int64) (ik : Nat → Int32) (zs : Nat → Int32) (cl : Nat → Int32) (hs : Nat → Int32) (ks : Nat → Int32) (wa : Nat → Int32) (ne : Nat → Int32) (mn : Nat → Int32) (tx : Nat → Int32) (th : Nat → Int32) (od : Nat → Int32) (bk : Nat → Int32) (bh : Nat → Int32) (fu : Int32) (fd : Int32) (fi : Int32) (nu : Int32) (nw : Int32) (nf : Int32) (bf : Int32) (bn : Int32) (ts : Int32) (ap : Int32) (fs : Int32) (ln : Int32) (fo : Int32) (fa : Int32) (wr : Int32) (x : Int32) (y : Int32) (z : Int32) (hp : ¬ y = 0) : (¬ x = 0 → (¬ fo = 0 → ((fo = 0 ∧ ¬ x = 0 ∧ (0 : Int32) = 1 ∧ fo = fo ∧ fa = fa) ∨ (fo = 0 ∧ x = 0 ∧ (0 : Int32) = 0 ∧ fo = y ∧ fa = z) ∨ (¬ fo = 0 ∧ (0 : Int32) = 0 ∧ fo = fo ∧ fa = fa))) ∧ (fo = 0 → ((fo = 0 ∧ ¬ x = 0 ∧ (1 : Int32) = 1 ∧ fo = fo ∧ fa = fa) ∨ (fo = 0 ∧ x = 0 ∧ (1 : Int32) = 0 ∧ fo = y ∧ fa = z) ∨ (¬ fo = 0 ∧ (1 : Int32) = 0 ∧ fo = fo ∧ fa = fa)))) ∧ (x = 0 → (¬ fo = 0 → (¬ fo = 0 → ((fo = 0 ∧ ¬ x = 0 ∧ (0 : Int32) = 1 ∧ fo = fo ∧ fa = fa) ∨ (fo = 0 ∧ x = 0 ∧ (0 : Int32) = 0 ∧ fo = y ∧ fa = z) ∨ (¬ fo = 0 ∧ (0 : Int32) = 0 ∧ fo = fo ∧ fa = fa))) ∧ (fo = 0 → ((fo = 0 ∧ ¬ x = 0 ∧ (1 : Int32) = 1 ∧ fo = fo ∧ fa = fa) ∨ (fo = 0 ∧ x = 0 ∧ (1 : Int32) = 0 ∧ fo = y ∧ fa = z) ∨ (¬ fo = 0 ∧ (1 : Int32) = 0 ∧ fo = fo ∧ fa = fa)))) ∧ (fo = 0 → (¬ y = 0 → ((fo = 0 ∧ ¬ x = 0 ∧ (0 : Int32) = 1 ∧ y = fo ∧ z = fa) ∨ (fo = 0 ∧ x = 0 ∧ (0 : Int32) = 0 ∧ y = y ∧ z = z) ∨ (¬ fo = 0 ∧ (0 : Int32) = 0 ∧ y = fo ∧ z = fa))) ∧ (y = 0 → ((fo = 0 ∧ ¬ x = 0 ∧ (1 : Int32) = 1 ∧ y = fo ∧ z = fa) ∨ (fo = 0 ∧ x = 0 ∧ (1 : Int32) = 0 ∧ y = y ∧ z = z) ∨ (¬ fo = 0 ∧ (1 : Int32) = 0 ∧ y = fo ∧ z = fa))))) := by
  simp_all
theorem k_X8_want (l : Launch) (G : Gt) (m0 m1 m2 m3 m4 m5 m6 m7 m8 m9 m10 m11 m12 m13 m14 : Nat) (sz : Nat) (mw : Nat → Int64) (ik : Nat → Int32) (zs : Nat → Int32) (cl : Nat → Int32) (hs : Nat → Int32) (ks : Nat → Int32) (wa : Nat → Int32) (ne : Nat → Int32) (mn : Nat → Int32) (tx : Nat → Int32) (th : Nat → Int32) (od : Nat → Int32) (bk : Nat → Int32) (bh : Nat → Int32) (fu : Int32) (fd : Int32) (fi : Int32) (nu : Int32) (nw : Int32) (nf : Int32) (bf : Int32) (bn : Int32) (ts : Int32) (ap : Int32) (fs : Int32) (ln : Int32) (fo : Int32) (fa : Int32) (wr : Int32) (x : Int32) (y : Int32) (z : Int32) (hp : ¬ y = 0) : MetI l yX8_want wsX8_want 0 0 G [.ref m0, .int x, .int y, .int z] [(m0, .inr (8, [.ref m1, .ref m2, .ref m3, .ref m4, .ref m5, .ref m6, .ref m7, .ref m8, .ref m9, .int fu, .int fd, .int fi, .int nu, .int nw, .int nf, .int bf, .int bn, .ref m10, .int ts, .int ap, .int fs, .int ln, .int fo, .int fa, .ref m11, .ref m12, .ref m13, .ref m14, .int wr])), aJ G m1 560 mw, aZ G m2 2 ik, aI G m3 20 zs, aI G m4 20 cl, aI G m5 20 hs, aI G m6 20 ks, aI G m7 20 wa, aI G m8 20 ne, aI G m9 4 mn, aI G m10 400 tx, aI G m11 6 th, aI G m12 6 od, aI G m13 30 bk, aI G m14 30 bh] sz (fun (r : Int32) (u : (Int32) × (Int32)) => ((fo = 0 ∧ ¬ x = 0 ∧ r = 1 ∧ u.1 = fo ∧ u.2 = fa) ∨ (fo = 0 ∧ x = 0 ∧ r = 0 ∧ u.1 = y ∧ u.2 = z) ∨ (¬ fo = 0 ∧ r = 0 ∧ u.1 = fo ∧ u.2 = fa))) (fun (u : (Int32) × (Int32)) => [(m0, .inr (8, [.ref m1, .ref m2, .ref m3, .ref m4, .ref m5, .ref m6, .ref m7, .ref m8, .ref m9, .int fu, .int fd, .int fi, .int nu, .int nw, .int nf, .int bf, .int bn, .ref m10, .int ts, .int ap, .int fs, .int ln, .int u.1, .int u.2, .ref m11, .ref m12, .ref m13, .ref m14, .int wr])), aJ G m1 560 mw, aZ G m2 2 ik, aI G m3 20 zs, aI G m4 20 cl, aI G m5 20 hs, aI G m6 20 ks, aI G m7 20 wa, aI G m8 20 ne, aI G m9 4 mn, aI G m10 400 tx, aI G m11 6 th, aI G m12 6 od, aI G m13 30 bk, aI G m14 30 bh]) :=
  c_X8_want l G m0 m1 m2 m3 m4 m5 m6 m7 m8 m9 m10 m11 m12 m13 m14 sz mw ik zs cl hs ks wa ne mn tx th od bk bh fu fd fi nu nw nf bf bn ts ap fs ln fo fa wr x y z (v_X8_want l G m0 m1 m2 m3 m4 m5 m6 m7 m8 m9 m10 m11 m12 m13 m14 sz mw ik zs cl hs ks wa ne mn tx th od bk bh fu fd fi nu nw nf bf bn ts ap fs ln fo fa wr x y z hp)

set_option maxHeartbeats 4000000 in
set_option maxRecDepth 100000 in
theorem c_X8_takeWord (l : Launch) (G : Gt) (m0 m1 m2 m3 m4 m5 m6 m7 m8 m9 m10 m11 m12 m13 m14 : Nat) (sz : Nat) (mw : Nat → Int64) (ik : Nat → Int32) (zs : Nat → Int32) (cl : Nat → Int32) (hs : Nat → Int32) (ks : Nat → Int32) (wa : Nat → Int32) (ne : Nat → Int32) (mn : Nat → Int32) (tx : Nat → Int32) (th : Nat → Int32) (od : Nat → Int32) (bk : Nat → Int32) (bh : Nat → Int32) (fu : Int32) (fd : Int32) (fi : Int32) (nu : Int32) (nw : Int32) (nf : Int32) (bf : Int32) (bn : Int32) (ts : Int32) (ap : Int32) (fs : Int32) (ln : Int32) (fo : Int32) (fa : Int32) (wr : Int32) (B : Nat → Int) (L : Nat) (aq : Nat) (hv : ∃ (gB_1 : Nat → Int) (gL_2 : Nat) (gaq_3 : Nat), ((MX gB_1 gL_2 tx ts ∧ ap = nI gaq_3 ∧ gaq_3 ≤ gL_2) ∧ (∀ (r_4 : Int32) (ap2_5 : Int32), (ap2_5 = nI (sk gB_1 gL_2 gaq_3) ∧ r_4.toInt = (if sk gB_1 gL_2 gaq_3 < gL_2 then gB_1 (sk gB_1 gL_2 gaq_3) else -1)) → (∃ (I13_7 : Int32 → Prop) (μ13_8 : Int32 → Nat), I13_7 ap2_5 ∧ (∀ (gm019_6 : Int32), I13_7 gm019_6 → (ts ≤ gm019_6 → ap2_5 = nI (sk B L aq) ∧ gm019_6 = nI (wE B L (sk B L aq)) ∧ (gm019_6 - ap2_5) = nI (wE B L (sk B L aq) - sk B L aq)) ∧ (¬ (ts ≤ gm019_6) → (vp_in gm019_6 400) ∧ ((¬ (¬ ((tx gm019_6.toNatClampNeg).toInt64) < 97 ∧ ¬ 122 < ((tx gm019_6.toNatClampNeg).toInt64)) → ap2_5 = nI (sk B L aq) ∧ gm019_6 = nI (wE B L (sk B L aq)) ∧ (gm019_6 - ap2_5) = nI (wE B L (sk B L aq) - sk B L aq)) ∧ (¬ ((tx gm019_6.toNatClampNeg).toInt64) < 97 ∧ ¬ 122 < ((tx gm019_6.toNatClampNeg).toInt64) → I13_7 (gm019_6 + 1) ∧ μ13_8 (gm019_6 + 1) < μ13_8 gm019_6)))))))) : MetV l yX8_takeWord wsX8_takeWord 1 25 G [.ref m0] [(m0, .inr (8, [.ref m1, .ref m2, .ref m3, .ref m4, .ref m5, .ref m6, .ref m7, .ref m8, .ref m9, .int fu, .int fd, .int fi, .int nu, .int nw, .int nf, .int bf, .int bn, .ref m10, .int ts, .int ap, .int fs, .int ln, .int fo, .int fa, .ref m11, .ref m12, .ref m13, .ref m14, .int wr])), aJ G m1 560 mw, aZ G m2 2 ik, aI G m3 20 zs, aI G m4 20 cl, aI G m5 20 hs, aI G m6 20 ks, aI G m7 20 wa, aI G m8 20 ne, aI G m9 4 mn, aI G m10 400 tx, aI G m11 6 th, aI G m12 6 od, aI G m13 30 bk, aI G m14 30 bh] sz (fun (u : (Int32) × (Int32) × (Int32)) => u.2.1 = nI (sk B L aq) ∧ u.1 = nI (wE B L (sk B L aq)) ∧ u.2.2 = nI (wE B L (sk B L aq) - sk B L aq)) (fun (u : (Int32) × (Int32) × (Int32)) => [(m0, .inr (8, [.ref m1, .ref m2, .ref m3, .ref m4, .ref m5, .ref m6, .ref m7, .ref m8, .ref m9, .int fu, .int fd, .int fi, .int nu, .int nw, .int nf, .int bf, .int bn, .ref m10, .int ts, .int u.1, .int u.2.1, .int u.2.2, .int fo, .int fa, .ref m11, .ref m12, .ref m13, .ref m14, .int wr])), aJ G m1 560 mw, aZ G m2 2 ik, aI G m3 20 zs, aI G m4 20 cl, aI G m5 20 hs, aI G m6 20 ks, aI G m7 20 wa, aI G m8 20 ne, aI G m9 4 mn, aI G m10 400 tx, aI G m11 6 th, aI G m12 6 od, aI G m13 30 bk, aI G m14 30 bh]) := by
  refine x_startV (cc := cX8_takeWord) (maxL := 2) (ret := none) (by decide) rfl (Nat.le_of_ble_eq_true rfl) ?_
  intro p e s m args below meth c A R Q ls hRf hRl hQ C hP hD hS hA hSS hl
  obtain ⟨hx, hb, hr, hml, hown, hts, hlocks, hKK⟩ := C
  have hown : s.vm.findClass RX8 = some m.cls := hown
  have hl : lv_has ls 2 [(0, .ref m0)] := hl
  have hinX8 : ∀ w ∈ u_ws RX8 TX8 29, w ∈ wsX8_takeWord := by decide +kernel
  have kl46 := hts (.fieldLink RX8 46 "WarmStonesModel" "text" "[I") (by decide +kernel)
  have kl74 := hts (.fieldLink RX8 74 "WarmStonesModel" "textSize" "I") (by decide +kernel)
  have kl80 := hts (.fieldLink RX8 80 "WarmStonesModel" "at" "I") (by decide +kernel)
  have kl90 := hts (.fieldLink RX8 90 "WarmStonesModel" "first" "I") (by decide +kernel)
  have kl93 := hts (.constantLong RX8 93 (97)) (by decide +kernel)
  have kl95 := hts (.constantLong RX8 95 (122)) (by decide +kernel)
  have kl97 := hts (.fieldLink RX8 97 "WarmStonesModel" "length" "I") (by decide +kernel)
  refine lv_aload_n hx hb dX8_takeWord_0 rfl (lv_at hl 0 rfl) ?_
  obtain ⟨gB_1, gL_2, gaq_3, hv⟩ := hv
  obtain ⟨hp, hv⟩ := hv
  refine x_calli (wr := []) (w' := fun (u : (Int32)) => [(m0, .inr (8, [.ref m1, .ref m2, .ref m3, .ref m4, .ref m5, .ref m6, .ref m7, .ref m8, .ref m9, .int fu, .int fd, .int fi, .int nu, .int nw, .int nf, .int bf, .int bn, .ref m10, .int ts, .int u, .int fs, .int ln, .int fo, .int fa, .ref m11, .ref m12, .ref m13, .ref m14, .int wr])), aJ G m1 560 mw, aZ G m2 2 ik, aI G m3 20 zs, aI G m4 20 cl, aI G m5 20 hs, aI G m6 20 ks, aI G m7 20 wa, aI G m8 20 ne, aI G m9 4 mn, aI G m10 400 tx, aI G m11 6 th, aI G m12 6 od, aI G m13 30 bk, aI G m14 30 bh]) (x_runV (As := []) (rest := []) (n := 0) (C := RX8) (ci := 8) ⟨hx, hb, hml, hown, hts⟩ (k_X8_here l G m0 m1 m2 m3 m4 m5 m6 m7 m8 m9 m10 m11 m12 m13 m14 _ mw ik zs cl hs ks wa ne mn tx th od bk bh fu fd fi nu nw nf bf bn ts ap fs ln fo fa wr gB_1 gL_2 gaq_3 hp) gX8_takeWord_X8_here rfl (by decide +kernel) ⟨Nat.le_trans (Nat.le_of_ble_eq_true rfl) hRf, Nat.le_trans (Nat.le_of_ble_eq_true rfl) hRl⟩ hKK hSS hS hA hP hD [0, 1, 2, 3, 4, 5, 6, 7, 8, 9, 10, 11, 12, 13, 14] (by decide) rfl rfl rfl 0 rfl rfl hl.1 rfl (Nat.le_of_ble_eq_true rfl) dX8_takeWord_1) hP hD hS hA [0, 1, 2, 3, 4, 5, 6, 7, 8, 9, 10, 11, 12, 13, 14] [] [0, 1, 2, 3, 4, 5, 6, 7, 8, 9, 10, 11, 12, 13, 14] rfl rfl (by decide) (by decide) (by decide) (fun _ => rfl) (fun r_4 u H locs hw hP hD hS => ?_)
  obtain ⟨ap2_5, rfl⟩ : ∃ z9_, z9_ = u := ⟨_, rfl⟩
  have hP : va_P G.1 vwCl [(m0, .inr (8, [.ref m1, .ref m2, .ref m3, .ref m4, .ref m5, .ref m6, .ref m7, .ref m8, .ref m9, .int fu, .int fd, .int fi, .int nu, .int nw, .int nf, .int bf, .int bn, .ref m10, .int ts, .int ap2_5, .int fs, .int ln, .int fo, .int fa, .ref m11, .ref m12, .ref m13, .ref m14, .int wr])), aJ G m1 560 mw, aZ G m2 2 ik, aI G m3 20 zs, aI G m4 20 cl, aI G m5 20 hs, aI G m6 20 ks, aI G m7 20 wa, aI G m8 20 ne, aI G m9 4 mn, aI G m10 400 tx, aI G m11 6 th, aI G m12 6 od, aI G m13 30 bk, aI G m14 30 bh] H := hP
  have hD : va_D A [(m0, .inr (8, [.ref m1, .ref m2, .ref m3, .ref m4, .ref m5, .ref m6, .ref m7, .ref m8, .ref m9, .int fu, .int fd, .int fi, .int nu, .int nw, .int nf, .int bf, .int bn, .ref m10, .int ts, .int ap2_5, .int fs, .int ln, .int fo, .int fa, .ref m11, .ref m12, .ref m13, .ref m14, .int wr])), aJ G m1 560 mw, aZ G m2 2 ik, aI G m3 20 zs, aI G m4 20 cl, aI G m5 20 hs, aI G m6 20 ks, aI G m7 20 wa, aI G m8 20 ne, aI G m9 4 mn, aI G m10 400 tx, aI G m11 6 th, aI G m12 6 od, aI G m13 30 bk, aI G m14 30 bh] := hD
  have hv := hv r_4 ap2_5 hw
  refine lv_istore_n (lv' := [(1, .int r_4), (0, .ref m0)]) hx hb dX8_takeWord_4 rfl hl (by decide) rfl (fun ls hl => ?_)
  refine lv_aload_n hx hb dX8_takeWord_5 rfl (lv_at hl 1 rfl) ?_
  refine lv_aload_n hx hb dX8_takeWord_6 rfl (lv_at hl 1 rfl) ?_
  refine va_get (D := G.1) (ci := 8) (v := .int ap2_5) (C := RX8) (T := TX8) (N := 29) hx hb hts hinX8 hown hKK.1 hP 0 rfl rfl 19 (by decide) kl80 (fun _ h9 => h9) rfl dX8_takeWord_7 ?_
  refine va_put (D := G.1) (ci := 8) (v := .int ap2_5) (ty := .int) (C := RX8) (T := TX8) (N := 29) hx hb hts hinX8 tyX8 tyX8_ok nmX8 hown hKK.1 hP hD hS 0 rfl rfl 20 (by decide) kl90 (fun _ h9 => h9) rfl (by decide +kernel) rfl rfl (Nat.le_of_ble_eq_true rfl) dX8_takeWord_10 (fun H locs hP hD hS => ?_)
  have hP : va_P G.1 vwCl [(m0, .inr (8, [.ref m1, .ref m2, .ref m3, .ref m4, .ref m5, .ref m6, .ref m7, .ref m8, .ref m9, .int fu, .int fd, .int fi, .int nu, .int nw, .int nf, .int bf, .int bn, .ref m10, .int ts, .int ap2_5, .int ap2_5, .int ln, .int fo, .int fa, .ref m11, .ref m12, .ref m13, .ref m14, .int wr])), aJ G m1 560 mw, aZ G m2 2 ik, aI G m3 20 zs, aI G m4 20 cl, aI G m5 20 hs, aI G m6 20 ks, aI G m7 20 wa, aI G m8 20 ne, aI G m9 4 mn, aI G m10 400 tx, aI G m11 6 th, aI G m12 6 od, aI G m13 30 bk, aI G m14 30 bh] H := hP
  have hD : va_D A [(m0, .inr (8, [.ref m1, .ref m2, .ref m3, .ref m4, .ref m5, .ref m6, .ref m7, .ref m8, .ref m9, .int fu, .int fd, .int fi, .int nu, .int nw, .int nf, .int bf, .int bn, .ref m10, .int ts, .int ap2_5, .int ap2_5, .int ln, .int fo, .int fa, .ref m11, .ref m12, .ref m13, .ref m14, .int wr])), aJ G m1 560 mw, aZ G m2 2 ik, aI G m3 20 zs, aI G m4 20 cl, aI G m5 20 hs, aI G m6 20 ks, aI G m7 20 wa, aI G m8 20 ne, aI G m9 4 mn, aI G m10 400 tx, aI G m11 6 th, aI G m12 6 od, aI G m13 30 bk, aI G m14 30 bh] := hD
  obtain ⟨I13_7, μ13_8, hi0, hs_14⟩ := hv
  have Lm_16 : ∀ (n_15 : Nat) (gm019_6 : Int32) (H : Heap) (locs : List Loc) (ls : Array Slot), μ13_8 gm019_6 < n_15 → I13_7 gm019_6 → va_P G.1 vwCl [(m0, .inr (8, [.ref m1, .ref m2, .ref m3, .ref m4, .ref m5, .ref m6, .ref m7, .ref m8, .ref m9, .int fu, .int fd, .int fi, .int nu, .int nw, .int nf, .int bf, .int bn, .ref m10, .int ts, .int gm019_6, .int ap2_5, .int ln, .int fo, .int fa, .ref m11, .ref m12, .ref m13, .ref m14, .int wr])), aJ G m1 560 mw, aZ G m2 2 ik, aI G m3 20 zs, aI G m4 20 cl, aI G m5 20 hs, aI G m6 20 ks, aI G m7 20 wa, aI G m8 20 ne, aI G m9 4 mn, aI G m10 400 tx, aI G m11 6 th, aI G m12 6 od, aI G m13 30 bk, aI G m14 30 bh] H → va_D A [(m0, .inr (8, [.ref m1, .ref m2, .ref m3, .ref m4, .ref m5, .ref m6, .ref m7, .ref m8, .ref m9, .int fu, .int fd, .int fi, .int nu, .int nw, .int nf, .int bf, .int bn, .ref m10, .int ts, .int gm019_6, .int ap2_5, .int ln, .int fo, .int fa, .ref m11, .ref m12, .ref m13, .ref m14, .int wr])), aJ G m1 560 mw, aZ G m2 2 ik, aI G m3 20 zs, aI G m4 20 cl, aI G m5 20 hs, aI G m6 20 ks, aI G m7 20 wa, aI G m8 20 ne, aI G m9 4 mn, aI G m10 400 tx, aI G m11 6 th, aI G m12 6 od, aI G m13 30 bk, aI G m14 30 bh] → va_S A s.heap H locs → lv_has ls 2 [(1, .int r_4), (0, .ref m0)] → W p l e R s m args below meth c H locs 0 0 Q (F0 m 13 ls []) := by
    intro n_15
    induction n_15 with
    | zero => intro gm019_6 H locs ls hm; exact absurd hm (Nat.not_lt_zero _)
    | succ n_15 ih_9 =>
      intro gm019_6 H locs ls hI_10 hi hP hD hS hl
      have hv := hs_14 gm019_6 hi
      refine lv_aload_n hx hb dX8_takeWord_13 rfl (lv_at hl 1 rfl) ?_
      refine va_get (D := G.1) (ci := 8) (v := .int gm019_6) (C := RX8) (T := TX8) (N := 29) hx hb hts hinX8 hown hKK.1 hP 0 rfl rfl 19 (by decide) kl80 (fun _ h9 => h9) rfl dX8_takeWord_14 ?_
      refine lv_aload_n hx hb dX8_takeWord_17 rfl (lv_at hl 1 rfl) ?_
      refine va_get (D := G.1) (ci := 8) (v := .int ts) (C := RX8) (T := TX8) (N := 29) hx hb hts hinX8 hown hKK.1 hP 0 rfl rfl 18 (by decide) kl74 (fun _ h9 => h9) rfl dX8_takeWord_18 ?_
      refine lv_icmp_ge (tgt := 59) hx hb dX8_takeWord_21 (by decide) (fun hc_11 => ?_) (fun hc_11 => ?_)
      · have hv := hv.1 hc_11
        refine lv_aload_n hx hb dX8_takeWord_59 rfl (lv_at hl 1 rfl) ?_
        refine lv_aload_n hx hb dX8_takeWord_60 rfl (lv_at hl 1 rfl) ?_
        refine va_get (D := G.1) (ci := 8) (v := .int gm019_6) (C := RX8) (T := TX8) (N := 29) hx hb hts hinX8 hown hKK.1 hP 0 rfl rfl 19 (by decide) kl80 (fun _ h9 => h9) rfl dX8_takeWord_61 ?_
        refine lv_aload_n hx hb dX8_takeWord_64 rfl (lv_at hl 1 rfl) ?_
        refine va_get (D := G.1) (ci := 8) (v := .int ap2_5) (C := RX8) (T := TX8) (N := 29) hx hb hts hinX8 hown hKK.1 hP 0 rfl rfl 20 (by decide) kl90 (fun _ h9 => h9) rfl dX8_takeWord_65 ?_
        refine lv_isub hx hb dX8_takeWord_68 ?_
        refine va_put (D := G.1) (ci := 8) (v := .int (gm019_6 - ap2_5)) (ty := .int) (C := RX8) (T := TX8) (N := 29) hx hb hts hinX8 tyX8 tyX8_ok nmX8 hown hKK.1 hP hD hS 0 rfl rfl 21 (by decide) kl97 (fun _ h9 => h9) rfl (by decide +kernel) rfl rfl (Nat.le_of_ble_eq_true rfl) dX8_takeWord_69 (fun H locs hP hD hS => ?_)
        have hP : va_P G.1 vwCl [(m0, .inr (8, [.ref m1, .ref m2, .ref m3, .ref m4, .ref m5, .ref m6, .ref m7, .ref m8, .ref m9, .int fu, .int fd, .int fi, .int nu, .int nw, .int nf, .int bf, .int bn, .ref m10, .int ts, .int gm019_6, .int ap2_5, .int (gm019_6 - ap2_5), .int fo, .int fa, .ref m11, .ref m12, .ref m13, .ref m14, .int wr])), aJ G m1 560 mw, aZ G m2 2 ik, aI G m3 20 zs, aI G m4 20 cl, aI G m5 20 hs, aI G m6 20 ks, aI G m7 20 wa, aI G m8 20 ne, aI G m9 4 mn, aI G m10 400 tx, aI G m11 6 th, aI G m12 6 od, aI G m13 30 bk, aI G m14 30 bh] H := hP
        have hD : va_D A [(m0, .inr (8, [.ref m1, .ref m2, .ref m3, .ref m4, .ref m5, .ref m6, .ref m7, .ref m8, .ref m9, .int fu, .int fd, .int fi, .int nu, .int nw, .int nf, .int bf, .int bn, .ref m10, .int ts, .int gm019_6, .int ap2_5, .int (gm019_6 - ap2_5), .int fo, .int fa, .ref m11, .ref m12, .ref m13, .ref m14, .int wr])), aJ G m1 560 mw, aZ G m2 2 ik, aI G m3 20 zs, aI G m4 20 cl, aI G m5 20 hs, aI G m6 20 ks, aI G m7 20 wa, aI G m8 20 ne, aI G m9 4 mn, aI G m10 400 tx, aI G m11 6 th, aI G m12 6 od, aI G m13 30 bk, aI G m14 30 bh] := hD
        exact x_vret (gm019_6, ap2_5, (gm019_6 - ap2_5)) hQ hx hb hr hlocks hS dX8_takeWord_72 hv hP hD
      · have hv := hv.2 hc_11
        refine lv_aload_n hx hb dX8_takeWord_24 rfl (lv_at hl 1 rfl) ?_
        refine va_get (D := G.1) (ci := 8) (v := .ref m10) (C := RX8) (T := TX8) (N := 29) hx hb hts hinX8 hown hKK.1 hP 0 rfl rfl 17 (by decide) kl46 (fun _ h9 => h9) rfl dX8_takeWord_25 ?_
        refine lv_aload_n hx hb dX8_takeWord_28 rfl (lv_at hl 1 rfl) ?_
        refine va_get (D := G.1) (ci := 8) (v := .int gm019_6) (C := RX8) (T := TX8) (N := 29) hx hb hts hinX8 hown hKK.1 hP 0 rfl rfl 19 (by decide) kl80 (fun _ h9 => h9) rfl dX8_takeWord_29 ?_
        obtain ⟨hin, hv⟩ := hv
        refine va_iald hx hb hKK.1 hP 10 0 rfl rfl hin dX8_takeWord_32 ?_
        refine lv_i2l hx hb dX8_takeWord_33 rfl ?_
        refine lv_ldc2 (v := 97) hx hb hown kl93 dX8_takeWord_34 ?_
        refine lv_ldc2 (v := 122) hx hb hown kl95 dX8_takeWord_37 ?_
        refine x_calliR (x_runS (As := [.long ((tx gm019_6.toNatClampNeg).toInt64), .long 97, .long 122]) (rest := []) (n := 3) ⟨hx, hb, hml, hown, hts⟩ (k_X8_in l G  _ ((tx gm019_6.toNatClampNeg).toInt64) 97 122) gX8_takeWord_X8_in rfl (by decide +kernel) ⟨Nat.le_trans (Nat.le_of_ble_eq_true rfl) hRf, Nat.le_trans (Nat.le_of_ble_eq_true rfl) hRl⟩ hKK hSS hS hA hP hD [] (by decide) rfl rfl hl.1 rfl (Nat.le_of_ble_eq_true rfl) dX8_takeWord_40) hP hD hS hA [] rfl (fun r_12 _ H locs hw hP hS => ?_)
        replace hw := hw.symm; subst hw
        refine lv_if_eq (tgt := 59) hx hb dX8_takeWord_43 (by decide) (fun hc_13 => ?_) (fun hc_13 => ?_)
        · have hv := hv.1 (tv_eq.mp hc_13)
          refine lv_aload_n hx hb dX8_takeWord_59 rfl (lv_at hl 1 rfl) ?_
          refine lv_aload_n hx hb dX8_takeWord_60 rfl (lv_at hl 1 rfl) ?_
          refine va_get (D := G.1) (ci := 8) (v := .int gm019_6) (C := RX8) (T := TX8) (N := 29) hx hb hts hinX8 hown hKK.1 hP 0 rfl rfl 19 (by decide) kl80 (fun _ h9 => h9) rfl dX8_takeWord_61 ?_
          refine lv_aload_n hx hb dX8_takeWord_64 rfl (lv_at hl 1 rfl) ?_
          refine va_get (D := G.1) (ci := 8) (v := .int ap2_5) (C := RX8) (T := TX8) (N := 29) hx hb hts hinX8 hown hKK.1 hP 0 rfl rfl 20 (by decide) kl90 (fun _ h9 => h9) rfl dX8_takeWord_65 ?_
          refine lv_isub hx hb dX8_takeWord_68 ?_
          refine va_put (D := G.1) (ci := 8) (v := .int (gm019_6 - ap2_5)) (ty := .int) (C := RX8) (T := TX8) (N := 29) hx hb hts hinX8 tyX8 tyX8_ok nmX8 hown hKK.1 hP hD hS 0 rfl rfl 21 (by decide) kl97 (fun _ h9 => h9) rfl (by decide +kernel) rfl rfl (Nat.le_of_ble_eq_true rfl) dX8_takeWord_69 (fun H locs hP hD hS => ?_)
          have hP : va_P G.1 vwCl [(m0, .inr (8, [.ref m1, .ref m2, .ref m3, .ref m4, .ref m5, .ref m6, .ref m7, .ref m8, .ref m9, .int fu, .int fd, .int fi, .int nu, .int nw, .int nf, .int bf, .int bn, .ref m10, .int ts, .int gm019_6, .int ap2_5, .int (gm019_6 - ap2_5), .int fo, .int fa, .ref m11, .ref m12, .ref m13, .ref m14, .int wr])), aJ G m1 560 mw, aZ G m2 2 ik, aI G m3 20 zs, aI G m4 20 cl, aI G m5 20 hs, aI G m6 20 ks, aI G m7 20 wa, aI G m8 20 ne, aI G m9 4 mn, aI G m10 400 tx, aI G m11 6 th, aI G m12 6 od, aI G m13 30 bk, aI G m14 30 bh] H := hP
          have hD : va_D A [(m0, .inr (8, [.ref m1, .ref m2, .ref m3, .ref m4, .ref m5, .ref m6, .ref m7, .ref m8, .ref m9, .int fu, .int fd, .int fi, .int nu, .int nw, .int nf, .int bf, .int bn, .ref m10, .int ts, .int gm019_6, .int ap2_5, .int (gm019_6 - ap2_5), .int fo, .int fa, .ref m11, .ref m12, .ref m13, .ref m14, .int wr])), aJ G m1 560 mw, aZ G m2 2 ik, aI G m3 20 zs, aI G m4 20 cl, aI G m5 20 hs, aI G m6 20 ks, aI G m7 20 wa, aI G m8 20 ne, aI G m9 4 mn, aI G m10 400 tx, aI G m11 6 th, aI G m12 6 od, aI G m13 30 bk, aI G m14 30 bh] := hD
          exact x_vret (gm019_6, ap2_5, (gm019_6 - ap2_5)) hQ hx hb hr hlocks hS dX8_takeWord_72 hv hP hD
        · have hv := hv.2 (tv_eqn.mp hc_13)
          refine lv_aload_n hx hb dX8_takeWord_46 rfl (lv_at hl 1 rfl) ?_
          refine lv_dup hx hb dX8_takeWord_47 rfl ?_
          refine va_get (D := G.1) (ci := 8) (v := .int gm019_6) (C := RX8) (T := TX8) (N := 29) hx hb hts hinX8 hown hKK.1 hP 0 rfl rfl 19 (by decide) kl80 (fun _ h9 => h9) rfl dX8_takeWord_48 ?_
          refine lv_iconst (v := 1) hx hb dX8_takeWord_51 (by decide) ?_
          refine lv_iadd hx hb dX8_takeWord_52 ?_
          refine va_put (D := G.1) (ci := 8) (v := .int (gm019_6 + 1)) (ty := .int) (C := RX8) (T := TX8) (N := 29) hx hb hts hinX8 tyX8 tyX8_ok nmX8 hown hKK.1 hP hD hS 0 rfl rfl 19 (by decide) kl80 (fun _ h9 => h9) rfl (by decide +kernel) rfl rfl (Nat.le_of_ble_eq_true rfl) dX8_takeWord_53 (fun H locs hP hD hS => ?_)
          have hP : va_P G.1 vwCl [(m0, .inr (8, [.ref m1, .ref m2, .ref m3, .ref m4, .ref m5, .ref m6, .ref m7, .ref m8, .ref m9, .int fu, .int fd, .int fi, .int nu, .int nw, .int nf, .int bf, .int bn, .ref m10, .int ts, .int (gm019_6 + 1), .int ap2_5, .int ln, .int fo, .int fa, .ref m11, .ref m12, .ref m13, .ref m14, .int wr])), aJ G m1 560 mw, aZ G m2 2 ik, aI G m3 20 zs, aI G m4 20 cl, aI G m5 20 hs, aI G m6 20 ks, aI G m7 20 wa, aI G m8 20 ne, aI G m9 4 mn, aI G m10 400 tx, aI G m11 6 th, aI G m12 6 od, aI G m13 30 bk, aI G m14 30 bh] H := hP
          have hD : va_D A [(m0, .inr (8, [.ref m1, .ref m2, .ref m3, .ref m4, .ref m5, .ref m6, .ref m7, .ref m8, .ref m9, .int fu, .int fd, .int fi, .int nu, .int nw, .int nf, .int bf, .int bn, .ref m10, .int ts, .int (gm019_6 + 1), .int ap2_5, .int ln, .int fo, .int fa, .ref m11, .ref m12, .ref m13, .ref m14, .int wr])), aJ G m1 560 mw, aZ G m2 2 ik, aI G m3 20 zs, aI G m4 20 cl, aI G m5 20 hs, aI G m6 20 ks, aI G m7 20 wa, aI G m8 20 ne, aI G m9 4 mn, aI G m10 400 tx, aI G m11 6 th, aI G m12 6 od, aI G m13 30 bk, aI G m14 30 bh] := hD
          refine lv_goto (tgt := 13) hx hb dX8_takeWord_56 (by decide) ?_
          exact ih_9 _ _ _ _ (Nat.lt_of_lt_of_le hv.2 (Nat.le_of_lt_succ hI_10)) hv.1 hP hD hS hl
  exact Lm_16 _ _ _ _ _ (Nat.lt_succ_self _) hi0 hP hD hS hl
theorem v_X8_takeWord (l : Launch) (G : Gt) (m0 m1 m2 m3 m4 m5 m6 m7 m8 m9 m10 m11 m12 m13 m14 : Nat) (sz : Nat) (mw : Nat → Int64) (ik : Nat → Int32) (zs : Nat → Int32) (cl : Nat → Int32) (hs : Nat → Int32) (ks : Nat → Int32) (wa : Nat → Int32) (ne : Nat → Int32) (mn : Nat → Int32) (tx : Nat → Int32) (th : Nat → Int32) (od : Nat → Int32) (bk : Nat → Int32) (bh : Nat → Int32) (fu : Int32) (fd : Int32) (fi : Int32) (nu : Int32) (nw : Int32) (nf : Int32) (bf : Int32) (bn : Int32) (ts : Int32) (ap : Int32) (fs : Int32) (ln : Int32) (fo : Int32) (fa : Int32) (wr : Int32) (B : Nat → Int) (L : Nat) (aq : Nat) (hp : MX B L tx ts ∧ ap = nI aq ∧ aq ≤ L) : ∃ (gB_1 : Nat → Int) (gL_2 : Nat) (gaq_3 : Nat), ((MX gB_1 gL_2 tx ts ∧ ap = nI gaq_3 ∧ gaq_3 ≤ gL_2) ∧ (∀ (r_4 : Int32) (ap2_5 : Int32), (ap2_5 = nI (sk gB_1 gL_2 gaq_3) ∧ r_4.toInt = (if sk gB_1 gL_2 gaq_3 < gL_2 then gB_1 (sk gB_1 gL_2 gaq_3) else -1)) → (∃ (I13_7 : Int32 → Prop) (μ13_8 : Int32 → Nat), I13_7 ap2_5 ∧ (∀ (gm019_6 : Int32), I13_7 gm019_6 → (ts ≤ gm019_6 → ap2_5 = nI (sk B L aq) ∧ gm019_6 = nI (wE B L (sk B L aq)) ∧ (gm019_6 - ap2_5) = nI (wE B L (sk B L aq) - sk B L aq)) ∧ (¬ (ts ≤ gm019_6) → (vp_in gm019_6 400) ∧ ((¬ (¬ ((tx gm019_6.toNatClampNeg).toInt64) < 97 ∧ ¬ 122 < ((tx gm019_6.toNatClampNeg).toInt64)) → ap2_5 = nI (sk B L aq) ∧ gm019_6 = nI (wE B L (sk B L aq)) ∧ (gm019_6 - ap2_5) = nI (wE B L (sk B L aq) - sk B L aq)) ∧ (¬ ((tx gm019_6.toNatClampNeg).toInt64) < 97 ∧ ¬ 122 < ((tx gm019_6.toNatClampNeg).toInt64) → I13_7 (gm019_6 + 1) ∧ μ13_8 (gm019_6 + 1) < μ13_8 gm019_6))))))) := by
  obtain ⟨hX, rfl, ha⟩ := hp
  have hL := hX.1
  have hxl := hX.2.1
  have hs := sk_L (B := B) ha
  refine ⟨B, L, aq, ⟨hX, rfl, ha⟩, fun r z hz => ?_⟩
  obtain ⟨rfl, -⟩ := hz
  refine ⟨fun z => ∃ a, z = nI a ∧ a ≤ L ∧ sk B L aq ≤ a ∧ wE B L a = wE B L (sk B L aq), fun z => 401 - z.toNatClampNeg, ⟨sk B L aq, rfl, hs, Nat.le_refl _, rfl⟩, ?_⟩
  rintro z ⟨a, rfl, haL, hsa, hw⟩
  have ea : (nI a).toNatClampNeg = a := nI_clamp (by omega)
  have ea1 : nI a + 1 = nI (a + 1) := nI_1 a
  have ea2 : (nI (a + 1)).toNatClampNeg = a + 1 := nI_clamp (by omega)
  have hle : nI L ≤ nI a ↔ L ≤ a := nI_leI (by omega) (by omega)
  simp only [ea, ea1, ea2, hxl, hle]
  have stop : ¬ (a < L ∧ isLe B a = true) → True ∧ nI a = nI (wE B L (sk B L aq)) ∧ nI a - nI (sk B L aq) = nI (wE B L (sk B L aq) - sk B L aq) := fun h => by
    have e : wE B L (sk B L aq) = a := by rw [← hw]; unfold wE; rw [run_end h]
    rw [e]
    exact ⟨trivial, rfl, nI_sub hsa (by omega)⟩
  refine ⟨fun q => stop (fun z => absurd z.1 (by omega)), fun q => ?_⟩
  have hb := hX.rg (i := a) (by omega) 97 122
  refine ⟨vp_in_nI (by omega) (by omega), fun h => stop (fun z => h (hb.mpr (of_decide_eq_true z.2))), fun h => ⟨⟨a + 1, rfl, by omega, by omega, ?_⟩, by omega⟩⟩
  rw [← hw]
  exact run_go (by omega) (decide_eq_true (hb.mp h))
theorem k_X8_takeWord (l : Launch) (G : Gt) (m0 m1 m2 m3 m4 m5 m6 m7 m8 m9 m10 m11 m12 m13 m14 : Nat) (sz : Nat) (mw : Nat → Int64) (ik : Nat → Int32) (zs : Nat → Int32) (cl : Nat → Int32) (hs : Nat → Int32) (ks : Nat → Int32) (wa : Nat → Int32) (ne : Nat → Int32) (mn : Nat → Int32) (tx : Nat → Int32) (th : Nat → Int32) (od : Nat → Int32) (bk : Nat → Int32) (bh : Nat → Int32) (fu : Int32) (fd : Int32) (fi : Int32) (nu : Int32) (nw : Int32) (nf : Int32) (bf : Int32) (bn : Int32) (ts : Int32) (ap : Int32) (fs : Int32) (ln : Int32) (fo : Int32) (fa : Int32) (wr : Int32) (B : Nat → Int) (L : Nat) (aq : Nat) (hp : MX B L tx ts ∧ ap = nI aq ∧ aq ≤ L) : MetV l yX8_takeWord wsX8_takeWord 1 25 G [.ref m0] [(m0, .inr (8, [.ref m1, .ref m2, .ref m3, .ref m4, .ref m5, .ref m6, .ref m7, .ref m8, .ref m9, .int fu, .int fd, .int fi, .int nu, .int nw, .int nf, .int bf, .int bn, .ref m10, .int ts, .int ap, .int fs, .int ln, .int fo, .int fa, .ref m11, .ref m12, .ref m13, .ref m14, .int wr])), aJ G m1 560 mw, aZ G m2 2 ik, aI G m3 20 zs, aI G m4 20 cl, aI G m5 20 hs, aI G m6 20 ks, aI G m7 20 wa, aI G m8 20 ne, aI G m9 4 mn, aI G m10 400 tx, aI G m11 6 th, aI G m12 6 od, aI G m13 30 bk, aI G m14 30 bh] sz (fun (u : (Int32) × (Int32) × (Int32)) => u.2.1 = nI (sk B L aq) ∧ u.1 = nI (wE B L (sk B L aq)) ∧ u.2.2 = nI (wE B L (sk B L aq) - sk B L aq)) (fun (u : (Int32) × (Int32) × (Int32)) => [(m0, .inr (8, [.ref m1, .ref m2, .ref m3, .ref m4, .ref m5, .ref m6, .ref m7, .ref m8, .ref m9, .int fu, .int fd, .int fi, .int nu, .int nw, .int nf, .int bf, .int bn, .ref m10, .int ts, .int u.1, .int u.2.1, .int u.2.2, .int fo, .int fa, .ref m11, .ref m12, .ref m13, .ref m14, .int wr])), aJ G m1 560 mw, aZ G m2 2 ik, aI G m3 20 zs, aI G m4 20 cl, aI G m5 20 hs, aI G m6 20 ks, aI G m7 20 wa, aI G m8 20 ne, aI G m9 4 mn, aI G m10 400 tx, aI G m11 6 th, aI G m12 6 od, aI G m13 30 bk, aI G m14 30 bh]) :=
  c_X8_takeWord l G m0 m1 m2 m3 m4 m5 m6 m7 m8 m9 m10 m11 m12 m13 m14 sz mw ik zs cl hs ks wa ne mn tx th od bk bh fu fd fi nu nw nf bf bn ts ap fs ln fo fa wr B L aq (v_X8_takeWord l G m0 m1 m2 m3 m4 m5 m6 m7 m8 m9 m10 m11 m12 m13 m14 sz mw ik zs cl hs ks wa ne mn tx th od bk bh fu fd fi nu nw nf bf bn ts ap fs ln fo fa wr B L aq hp)

set_option maxHeartbeats 4000000 in
set_option maxRecDepth 100000 in
theorem c_X8_isWord (l : Launch) (G : Gt) (m0 m1 m2 m3 m4 m5 m6 m7 m8 m9 m10 m11 m12 m13 m14 : Nat) (sz : Nat) (mw : Nat → Int64) (ik : Nat → Int32) (zs : Nat → Int32) (cl : Nat → Int32) (hs : Nat → Int32) (ks : Nat → Int32) (wa : Nat → Int32) (ne : Nat → Int32) (mn : Nat → Int32) (tx : Nat → Int32) (th : Nat → Int32) (od : Nat → Int32) (bk : Nat → Int32) (bh : Nat → Int32) (fu : Int32) (fd : Int32) (fi : Int32) (nu : Int32) (nw : Int32) (nf : Int32) (bf : Int32) (bn : Int32) (ts : Int32) (ap : Int32) (fs : Int32) (ln : Int32) (fo : Int32) (fa : Int32) (wr : Int32) (x : Int32) (a1 : Int32) (a2 : Int32) (a3 : Int32) (a4 : Int32) (a5 : Int32) (a6 : Int32) (B : Nat → Int) (L : Nat) (wq : Nat) (eq_ : Nat) (i_ : Nat) (hv : ∃ (J13_2 : Int32 → Prop), ((¬ ln = x → J13_2 0) ∧ (ln = x → J13_2 1)) ∧ (∀ (t0_1 : Int32), J13_2 t0_1 → ∃ (I18_7 : Int32 → Int32 → Prop) (μ18_8 : Int32 → Int32 → Nat), I18_7 t0_1 0 ∧ (∀ (x8_5 : Int32) (x9_6 : Int32), I18_7 x8_5 x9_6 → (x ≤ x9_6 → (narrow .boolean (.int x8_5) = .int x8_5) ∧ x8_5 = (if wIs B wq eq_ i_ = true then 1 else 0)) ∧ (¬ (x ≤ x9_6) → (x8_5 = 0 → (narrow .boolean (.int x8_5) = .int x8_5) ∧ x8_5 = (if wIs B wq eq_ i_ = true then 1 else 0)) ∧ (¬ (x8_5 = 0) → (vp_in (fs + x9_6) 400) ∧ (∃ (J95_14 : Int32 → Prop), ((¬ x9_6 = 0 → (¬ x9_6 = 1 → (¬ x9_6 = 2 → (¬ x9_6 = 3 → (¬ x9_6 = 4 → J95_14 a6) ∧ (x9_6 = 4 → J95_14 a5)) ∧ (x9_6 = 3 → J95_14 a4)) ∧ (x9_6 = 2 → J95_14 a3)) ∧ (x9_6 = 1 → J95_14 a2)) ∧ (x9_6 = 0 → J95_14 a1)) ∧ (∀ (t0_13 : Int32), J95_14 t0_13 → ∃ (J103_22 : Int32 → Prop), ((¬ (tx (fs + x9_6).toNatClampNeg) = t0_13 → J103_22 0) ∧ ((tx (fs + x9_6).toNatClampNeg) = t0_13 → J103_22 1)) ∧ (∀ (t0_21 : Int32), J103_22 t0_21 → I18_7 t0_21 (x9_6 + 1) ∧ μ18_8 t0_21 (x9_6 + 1) < μ18_8 x8_5 x9_6)))))))) : MetI l yX8_isWord wsX8_isWord 0 0 G [.ref m0, .int x, .int a1, .int a2, .int a3, .int a4, .int a5, .int a6] [(m0, .inr (8, [.ref m1, .ref m2, .ref m3, .ref m4, .ref m5, .ref m6, .ref m7, .ref m8, .ref m9, .int fu, .int fd, .int fi, .int nu, .int nw, .int nf, .int bf, .int bn, .ref m10, .int ts, .int ap, .int fs, .int ln, .int fo, .int fa, .ref m11, .ref m12, .ref m13, .ref m14, .int wr])), aJ G m1 560 mw, aZ G m2 2 ik, aI G m3 20 zs, aI G m4 20 cl, aI G m5 20 hs, aI G m6 20 ks, aI G m7 20 wa, aI G m8 20 ne, aI G m9 4 mn, aI G m10 400 tx, aI G m11 6 th, aI G m12 6 od, aI G m13 30 bk, aI G m14 30 bh] sz (fun (r : Int32) (_ : Unit) => r = (if wIs B wq eq_ i_ = true then 1 else 0)) (fun (_ : Unit) => [(m0, .inr (8, [.ref m1, .ref m2, .ref m3, .ref m4, .ref m5, .ref m6, .ref m7, .ref m8, .ref m9, .int fu, .int fd, .int fi, .int nu, .int nw, .int nf, .int bf, .int bn, .ref m10, .int ts, .int ap, .int fs, .int ln, .int fo, .int fa, .ref m11, .ref m12, .ref m13, .ref m14, .int wr])), aJ G m1 560 mw, aZ G m2 2 ik, aI G m3 20 zs, aI G m4 20 cl, aI G m5 20 hs, aI G m6 20 ks, aI G m7 20 wa, aI G m8 20 ne, aI G m9 4 mn, aI G m10 400 tx, aI G m11 6 th, aI G m12 6 od, aI G m13 30 bk, aI G m14 30 bh]) := by
  refine x_startI (cc := cX8_isWord) (maxL := 10) (ret := (some .boolean)) (by decide) rfl (Nat.le_of_ble_eq_true rfl) ?_
  intro p e s m args below meth c A R Q ls hRf hRl hQ C hP hD hS hA hSS hl
  obtain ⟨hx, hb, hr, hml, hown, hts, hlocks, hKK⟩ := C
  have hown : s.vm.findClass RX8 = some m.cls := hown
  have hl : lv_has ls 10 [(0, .ref m0), (1, .int x), (2, .int a1), (3, .int a2), (4, .int a3), (5, .int a4), (6, .int a5), (7, .int a6)] := hl
  have hinX8 : ∀ w ∈ u_ws RX8 TX8 29, w ∈ wsX8_isWord := by decide +kernel
  have kl46 := hts (.fieldLink RX8 46 "WarmStonesModel" "text" "[I") (by decide +kernel)
  have kl90 := hts (.fieldLink RX8 90 "WarmStonesModel" "first" "I") (by decide +kernel)
  have kl97 := hts (.fieldLink RX8 97 "WarmStonesModel" "length" "I") (by decide +kernel)
  refine lv_aload_n hx hb dX8_isWord_0 rfl (lv_at hl 0 rfl) ?_
  refine va_get (D := G.1) (ci := 8) (v := .int ln) (C := RX8) (T := TX8) (N := 29) hx hb hts hinX8 hown hKK.1 hP 0 rfl rfl 21 (by decide) kl97 (fun _ h9 => h9) rfl dX8_isWord_1 ?_
  refine lv_iload_n hx hb dX8_isWord_4 rfl (lv_at hl 1 rfl) ?_
  obtain ⟨J13_2, hv, hj_30⟩ := hv
  have K_3 : ∀ (t0_1 : Int32) (H : Heap) (locs : List Loc) (ls : Array Slot), J13_2 t0_1 → va_P G.1 vwCl [(m0, .inr (8, [.ref m1, .ref m2, .ref m3, .ref m4, .ref m5, .ref m6, .ref m7, .ref m8, .ref m9, .int fu, .int fd, .int fi, .int nu, .int nw, .int nf, .int bf, .int bn, .ref m10, .int ts, .int ap, .int fs, .int ln, .int fo, .int fa, .ref m11, .ref m12, .ref m13, .ref m14, .int wr])), aJ G m1 560 mw, aZ G m2 2 ik, aI G m3 20 zs, aI G m4 20 cl, aI G m5 20 hs, aI G m6 20 ks, aI G m7 20 wa, aI G m8 20 ne, aI G m9 4 mn, aI G m10 400 tx, aI G m11 6 th, aI G m12 6 od, aI G m13 30 bk, aI G m14 30 bh] H → va_D A [(m0, .inr (8, [.ref m1, .ref m2, .ref m3, .ref m4, .ref m5, .ref m6, .ref m7, .ref m8, .ref m9, .int fu, .int fd, .int fi, .int nu, .int nw, .int nf, .int bf, .int bn, .ref m10, .int ts, .int ap, .int fs, .int ln, .int fo, .int fa, .ref m11, .ref m12, .ref m13, .ref m14, .int wr])), aJ G m1 560 mw, aZ G m2 2 ik, aI G m3 20 zs, aI G m4 20 cl, aI G m5 20 hs, aI G m6 20 ks, aI G m7 20 wa, aI G m8 20 ne, aI G m9 4 mn, aI G m10 400 tx, aI G m11 6 th, aI G m12 6 od, aI G m13 30 bk, aI G m14 30 bh] → va_S A s.heap H locs → lv_has ls 10 [(0, .ref m0), (1, .int x), (2, .int a1), (3, .int a2), (4, .int a3), (5, .int a4), (6, .int a5), (7, .int a6)] → W p l e R s m args below meth c H locs 0 0 Q (F0 m 13 ls [.int t0_1]) := by
    intro t0_1 H locs ls hi hP hD hS hl
    have hv := hj_30 t0_1 hi
    refine lv_istore (lv' := [(8, .int t0_1), (0, .ref m0), (1, .int x), (2, .int a1), (3, .int a2), (4, .int a3), (5, .int a4), (6, .int a5), (7, .int a6)]) hx hb dX8_isWord_13 hl (by decide) rfl (fun ls hl => ?_)
    refine lv_iconst (v := 0) hx hb dX8_isWord_15 (by decide) ?_
    refine lv_istore (lv' := [(9, .int 0), (8, .int t0_1), (0, .ref m0), (1, .int x), (2, .int a1), (3, .int a2), (4, .int a3), (5, .int a4), (6, .int a5), (7, .int a6)]) hx hb dX8_isWord_16 hl (by decide) rfl (fun ls hl => ?_)
    obtain ⟨I18_7, μ18_8, hi0, hs_27⟩ := hv
    have Lm_29 : ∀ (n_28 : Nat) (x8_5 : Int32) (x9_6 : Int32) (H : Heap) (locs : List Loc) (ls : Array Slot), μ18_8 x8_5 x9_6 < n_28 → I18_7 x8_5 x9_6 → va_P G.1 vwCl [(m0, .inr (8, [.ref m1, .ref m2, .ref m3, .ref m4, .ref m5, .ref m6, .ref m7, .ref m8, .ref m9, .int fu, .int fd, .int fi, .int nu, .int nw, .int nf, .int bf, .int bn, .ref m10, .int ts, .int ap, .int fs, .int ln, .int fo, .int fa, .ref m11, .ref m12, .ref m13, .ref m14, .int wr])), aJ G m1 560 mw, aZ G m2 2 ik, aI G m3 20 zs, aI G m4 20 cl, aI G m5 20 hs, aI G m6 20 ks, aI G m7 20 wa, aI G m8 20 ne, aI G m9 4 mn, aI G m10 400 tx, aI G m11 6 th, aI G m12 6 od, aI G m13 30 bk, aI G m14 30 bh] H → va_D A [(m0, .inr (8, [.ref m1, .ref m2, .ref m3, .ref m4, .ref m5, .ref m6, .ref m7, .ref m8, .ref m9, .int fu, .int fd, .int fi, .int nu, .int nw, .int nf, .int bf, .int bn, .ref m10, .int ts, .int ap, .int fs, .int ln, .int fo, .int fa, .ref m11, .ref m12, .ref m13, .ref m14, .int wr])), aJ G m1 560 mw, aZ G m2 2 ik, aI G m3 20 zs, aI G m4 20 cl, aI G m5 20 hs, aI G m6 20 ks, aI G m7 20 wa, aI G m8 20 ne, aI G m9 4 mn, aI G m10 400 tx, aI G m11 6 th, aI G m12 6 od, aI G m13 30 bk, aI G m14 30 bh] → va_S A s.heap H locs → lv_has ls 10 [(9, .int x9_6), (8, .int x8_5), (0, .ref m0), (1, .int x), (2, .int a1), (3, .int a2), (4, .int a3), (5, .int a4), (6, .int a5), (7, .int a6)] → W p l e R s m args below meth c H locs 0 0 Q (F0 m 18 ls []) := by
      intro n_28
      induction n_28 with
      | zero => intro x8_5 x9_6 H locs ls hm; exact absurd hm (Nat.not_lt_zero _)
      | succ n_28 ih_9 =>
        intro x8_5 x9_6 H locs ls hI_10 hi hP hD hS hl
        have hv := hs_27 x8_5 x9_6 hi
        refine lv_iload hx hb dX8_isWord_18 (lv_at hl 0 rfl) ?_
        refine lv_iload_n hx hb dX8_isWord_20 rfl (lv_at hl 3 rfl) ?_
        refine lv_icmp_ge (tgt := 111) hx hb dX8_isWord_21 (by decide) (fun hc_11 => ?_) (fun hc_11 => ?_)
        · have hv := hv.1 hc_11
          refine lv_iload hx hb dX8_isWord_111 (lv_at hl 1 rfl) ?_
          exact x_zret (v := x8_5) () hQ hx hb hr hlocks hS dX8_isWord_113 hv.1 hv.2 hP hD
        · have hv := hv.2 hc_11
          refine lv_iload hx hb dX8_isWord_24 (lv_at hl 1 rfl) ?_
          refine lv_if_eq (tgt := 111) hx hb dX8_isWord_26 (by decide) (fun hc_12 => ?_) (fun hc_12 => ?_)
          · have hv := hv.1 hc_12
            refine lv_iload hx hb dX8_isWord_111 (lv_at hl 1 rfl) ?_
            exact x_zret (v := x8_5) () hQ hx hb hr hlocks hS dX8_isWord_113 hv.1 hv.2 hP hD
          · have hv := hv.2 hc_12
            refine lv_aload_n hx hb dX8_isWord_29 rfl (lv_at hl 2 rfl) ?_
            refine va_get (D := G.1) (ci := 8) (v := .ref m10) (C := RX8) (T := TX8) (N := 29) hx hb hts hinX8 hown hKK.1 hP 0 rfl rfl 17 (by decide) kl46 (fun _ h9 => h9) rfl dX8_isWord_30 ?_
            refine lv_aload_n hx hb dX8_isWord_33 rfl (lv_at hl 2 rfl) ?_
            refine va_get (D := G.1) (ci := 8) (v := .int fs) (C := RX8) (T := TX8) (N := 29) hx hb hts hinX8 hown hKK.1 hP 0 rfl rfl 20 (by decide) kl90 (fun _ h9 => h9) rfl dX8_isWord_34 ?_
            refine lv_iload hx hb dX8_isWord_37 (lv_at hl 0 rfl) ?_
            refine lv_iadd hx hb dX8_isWord_39 ?_
            obtain ⟨hin, hv⟩ := hv
            refine va_iald hx hb hKK.1 hP 10 0 rfl rfl hin dX8_isWord_40 ?_
            refine lv_iload hx hb dX8_isWord_41 (lv_at hl 0 rfl) ?_
            obtain ⟨J95_14, hv, hj_26⟩ := hv
            have K_15 : ∀ (t0_13 : Int32) (H : Heap) (locs : List Loc) (ls : Array Slot), J95_14 t0_13 → va_P G.1 vwCl [(m0, .inr (8, [.ref m1, .ref m2, .ref m3, .ref m4, .ref m5, .ref m6, .ref m7, .ref m8, .ref m9, .int fu, .int fd, .int fi, .int nu, .int nw, .int nf, .int bf, .int bn, .ref m10, .int ts, .int ap, .int fs, .int ln, .int fo, .int fa, .ref m11, .ref m12, .ref m13, .ref m14, .int wr])), aJ G m1 560 mw, aZ G m2 2 ik, aI G m3 20 zs, aI G m4 20 cl, aI G m5 20 hs, aI G m6 20 ks, aI G m7 20 wa, aI G m8 20 ne, aI G m9 4 mn, aI G m10 400 tx, aI G m11 6 th, aI G m12 6 od, aI G m13 30 bk, aI G m14 30 bh] H → va_D A [(m0, .inr (8, [.ref m1, .ref m2, .ref m3, .ref m4, .ref m5, .ref m6, .ref m7, .ref m8, .ref m9, .int fu, .int fd, .int fi, .int nu, .int nw, .int nf, .int bf, .int bn, .ref m10, .int ts, .int ap, .int fs, .int ln, .int fo, .int fa, .ref m11, .ref m12, .ref m13, .ref m14, .int wr])), aJ G m1 560 mw, aZ G m2 2 ik, aI G m3 20 zs, aI G m4 20 cl, aI G m5 20 hs, aI G m6 20 ks, aI G m7 20 wa, aI G m8 20 ne, aI G m9 4 mn, aI G m10 400 tx, aI G m11 6 th, aI G m12 6 od, aI G m13 30 bk, aI G m14 30 bh] → va_S A s.heap H locs → lv_has ls 10 [(9, .int x9_6), (8, .int x8_5), (0, .ref m0), (1, .int x), (2, .int a1), (3, .int a2), (4, .int a3), (5, .int a4), (6, .int a5), (7, .int a6)] → W p l e R s m args below meth c H locs 0 0 Q (F0 m 95 ls [.int t0_13, .int (tx (fs + x9_6).toNatClampNeg)]) := by
              intro t0_13 H locs ls hi hP hD hS hl
              have hv := hj_26 t0_13 hi
              obtain ⟨J103_22, hv, hj_25⟩ := hv
              have K_23 : ∀ (t0_21 : Int32) (H : Heap) (locs : List Loc) (ls : Array Slot), J103_22 t0_21 → va_P G.1 vwCl [(m0, .inr (8, [.ref m1, .ref m2, .ref m3, .ref m4, .ref m5, .ref m6, .ref m7, .ref m8, .ref m9, .int fu, .int fd, .int fi, .int nu, .int nw, .int nf, .int bf, .int bn, .ref m10, .int ts, .int ap, .int fs, .int ln, .int fo, .int fa, .ref m11, .ref m12, .ref m13, .ref m14, .int wr])), aJ G m1 560 mw, aZ G m2 2 ik, aI G m3 20 zs, aI G m4 20 cl, aI G m5 20 hs, aI G m6 20 ks, aI G m7 20 wa, aI G m8 20 ne, aI G m9 4 mn, aI G m10 400 tx, aI G m11 6 th, aI G m12 6 od, aI G m13 30 bk, aI G m14 30 bh] H → va_D A [(m0, .inr (8, [.ref m1, .ref m2, .ref m3, .ref m4, .ref m5, .ref m6, .ref m7, .ref m8, .ref m9, .int fu, .int fd, .int fi, .int nu, .int nw, .int nf, .int bf, .int bn, .ref m10, .int ts, .int ap, .int fs, .int ln, .int fo, .int fa, .ref m11, .ref m12, .ref m13, .ref m14, .int wr])), aJ G m1 560 mw, aZ G m2 2 ik, aI G m3 20 zs, aI G m4 20 cl, aI G m5 20 hs, aI G m6 20 ks, aI G m7 20 wa, aI G m8 20 ne, aI G m9 4 mn, aI G m10 400 tx, aI G m11 6 th, aI G m12 6 od, aI G m13 30 bk, aI G m14 30 bh] → va_S A s.heap H locs → lv_has ls 10 [(9, .int x9_6), (8, .int x8_5), (0, .ref m0), (1, .int x), (2, .int a1), (3, .int a2), (4, .int a3), (5, .int a4), (6, .int a5), (7, .int a6)] → W p l e R s m args below meth c H locs 0 0 Q (F0 m 103 ls [.int t0_21]) := by
                intro t0_21 H locs ls hi hP hD hS hl
                have hv := hj_25 t0_21 hi
                refine lv_istore (lv' := [(8, .int t0_21), (9, .int x9_6), (0, .ref m0), (1, .int x), (2, .int a1), (3, .int a2), (4, .int a3), (5, .int a4), (6, .int a5), (7, .int a6)]) hx hb dX8_isWord_103 hl (by decide) rfl (fun ls hl => ?_)
                refine lv_iinc (v := (x9_6 + 1)) (lv' := [(9, .int (x9_6 + 1)), (8, .int t0_21), (0, .ref m0), (1, .int x), (2, .int a1), (3, .int a2), (4, .int a3), (5, .int a4), (6, .int a5), (7, .int a6)]) hx hb dX8_isWord_105 hl (k := 1) rfl rfl (by decide) rfl (fun ls hl => ?_)
                refine lv_goto (tgt := 18) hx hb dX8_isWord_108 (by decide) ?_
                exact ih_9 _ _ _ _ _ (Nat.lt_of_lt_of_le hv.2 (Nat.le_of_lt_succ hI_10)) hv.1 hP hD hS hl
              refine lv_icmp_ne (tgt := 102) hx hb dX8_isWord_95 (by decide) (fun hc_24 => ?_) (fun hc_24 => ?_)
              · have hv := hv.1 hc_24
                refine lv_iconst (v := 0) hx hb dX8_isWord_102 (by decide) ?_
                exact K_23 _ _ _ _ hv hP hD hS hl
              · have hv := hv.2 hc_24
                refine lv_iconst (v := 1) hx hb dX8_isWord_98 (by decide) ?_
                refine lv_goto (tgt := 103) hx hb dX8_isWord_99 (by decide) ?_
                exact K_23 _ _ _ _ hv hP hD hS hl
            refine lv_if_ne (tgt := 50) hx hb dX8_isWord_43 (by decide) (fun hc_16 => ?_) (fun hc_16 => ?_)
            · have hv := hv.1 hc_16
              refine lv_iload hx hb dX8_isWord_50 (lv_at hl 0 rfl) ?_
              refine lv_iconst (v := 1) hx hb dX8_isWord_52 (by decide) ?_
              refine lv_icmp_ne (tgt := 60) hx hb dX8_isWord_53 (by decide) (fun hc_17 => ?_) (fun hc_17 => ?_)
              · have hv := hv.1 hc_17
                refine lv_iload hx hb dX8_isWord_60 (lv_at hl 0 rfl) ?_
                refine lv_iconst (v := 2) hx hb dX8_isWord_62 (by decide) ?_
                refine lv_icmp_ne (tgt := 71) hx hb dX8_isWord_63 (by decide) (fun hc_18 => ?_) (fun hc_18 => ?_)
                · have hv := hv.1 hc_18
                  refine lv_iload hx hb dX8_isWord_71 (lv_at hl 0 rfl) ?_
                  refine lv_iconst (v := 3) hx hb dX8_isWord_73 (by decide) ?_
                  refine lv_icmp_ne (tgt := 82) hx hb dX8_isWord_74 (by decide) (fun hc_19 => ?_) (fun hc_19 => ?_)
                  · have hv := hv.1 hc_19
                    refine lv_iload hx hb dX8_isWord_82 (lv_at hl 0 rfl) ?_
                    refine lv_iconst (v := 4) hx hb dX8_isWord_84 (by decide) ?_
                    refine lv_icmp_ne (tgt := 93) hx hb dX8_isWord_85 (by decide) (fun hc_20 => ?_) (fun hc_20 => ?_)
                    · have hv := hv.1 hc_20
                      refine lv_iload hx hb dX8_isWord_93 (lv_at hl 9 rfl) ?_
                      exact K_15 _ _ _ _ hv hP hD hS hl
                    · have hv := hv.2 hc_20
                      refine lv_iload hx hb dX8_isWord_88 (lv_at hl 8 rfl) ?_
                      refine lv_goto (tgt := 95) hx hb dX8_isWord_90 (by decide) ?_
                      exact K_15 _ _ _ _ hv hP hD hS hl
                  · have hv := hv.2 hc_19
                    refine lv_iload hx hb dX8_isWord_77 (lv_at hl 7 rfl) ?_
                    refine lv_goto (tgt := 95) hx hb dX8_isWord_79 (by decide) ?_
                    exact K_15 _ _ _ _ hv hP hD hS hl
                · have hv := hv.2 hc_18
                  refine lv_iload hx hb dX8_isWord_66 (lv_at hl 6 rfl) ?_
                  refine lv_goto (tgt := 95) hx hb dX8_isWord_68 (by decide) ?_
                  exact K_15 _ _ _ _ hv hP hD hS hl
              · have hv := hv.2 hc_17
                refine lv_iload_n hx hb dX8_isWord_56 rfl (lv_at hl 5 rfl) ?_
                refine lv_goto (tgt := 95) hx hb dX8_isWord_57 (by decide) ?_
                exact K_15 _ _ _ _ hv hP hD hS hl
            · have hv := hv.2 hc_16
              refine lv_iload_n hx hb dX8_isWord_46 rfl (lv_at hl 4 rfl) ?_
              refine lv_goto (tgt := 95) hx hb dX8_isWord_47 (by decide) ?_
              exact K_15 _ _ _ _ hv hP hD hS hl
    exact Lm_29 _ _ _ _ _ _ (Nat.lt_succ_self _) hi0 hP hD hS hl
  refine lv_icmp_ne (tgt := 12) hx hb dX8_isWord_5 (by decide) (fun hc_4 => ?_) (fun hc_4 => ?_)
  · have hv := hv.1 hc_4
    refine lv_iconst (v := 0) hx hb dX8_isWord_12 (by decide) ?_
    exact K_3 _ _ _ _ hv hP hD hS hl
  · have hv := hv.2 hc_4
    refine lv_iconst (v := 1) hx hb dX8_isWord_8 (by decide) ?_
    refine lv_goto (tgt := 13) hx hb dX8_isWord_9 (by decide) ?_
    exact K_3 _ _ _ _ hv hP hD hS hl
theorem v_X8_isWord (l : Launch) (G : Gt) (m0 m1 m2 m3 m4 m5 m6 m7 m8 m9 m10 m11 m12 m13 m14 : Nat) (sz : Nat) (mw : Nat → Int64) (ik : Nat → Int32) (zs : Nat → Int32) (cl : Nat → Int32) (hs : Nat → Int32) (ks : Nat → Int32) (wa : Nat → Int32) (ne : Nat → Int32) (mn : Nat → Int32) (tx : Nat → Int32) (th : Nat → Int32) (od : Nat → Int32) (bk : Nat → Int32) (bh : Nat → Int32) (fu : Int32) (fd : Int32) (fi : Int32) (nu : Int32) (nw : Int32) (nf : Int32) (bf : Int32) (bn : Int32) (ts : Int32) (ap : Int32) (fs : Int32) (ln : Int32) (fo : Int32) (fa : Int32) (wr : Int32) (x : Int32) (a1 : Int32) (a2 : Int32) (a3 : Int32) (a4 : Int32) (a5 : Int32) (a6 : Int32) (B : Nat → Int) (L : Nat) (wq : Nat) (eq_ : Nat) (i_ : Nat) (hp : MX B L tx ts ∧ fs = nI wq ∧ ln = nI (eq_ - wq) ∧ wq ≤ eq_ ∧ eq_ ≤ L ∧ i_ < 9 ∧ x = nI (stL.getD i_ 0) ∧ (∀ k, k < stL.getD i_ 0 → ltr a1 a2 a3 a4 a5 a6 k = (stB.getD i_ []).getD k 0)) : ∃ (J13_2 : Int32 → Prop), ((¬ ln = x → J13_2 0) ∧ (ln = x → J13_2 1)) ∧ (∀ (t0_1 : Int32), J13_2 t0_1 → ∃ (I18_7 : Int32 → Int32 → Prop) (μ18_8 : Int32 → Int32 → Nat), I18_7 t0_1 0 ∧ (∀ (x8_5 : Int32) (x9_6 : Int32), I18_7 x8_5 x9_6 → (x ≤ x9_6 → (narrow .boolean (.int x8_5) = .int x8_5) ∧ x8_5 = (if wIs B wq eq_ i_ = true then 1 else 0)) ∧ (¬ (x ≤ x9_6) → (x8_5 = 0 → (narrow .boolean (.int x8_5) = .int x8_5) ∧ x8_5 = (if wIs B wq eq_ i_ = true then 1 else 0)) ∧ (¬ (x8_5 = 0) → (vp_in (fs + x9_6) 400) ∧ (∃ (J95_14 : Int32 → Prop), ((¬ x9_6 = 0 → (¬ x9_6 = 1 → (¬ x9_6 = 2 → (¬ x9_6 = 3 → (¬ x9_6 = 4 → J95_14 a6) ∧ (x9_6 = 4 → J95_14 a5)) ∧ (x9_6 = 3 → J95_14 a4)) ∧ (x9_6 = 2 → J95_14 a3)) ∧ (x9_6 = 1 → J95_14 a2)) ∧ (x9_6 = 0 → J95_14 a1)) ∧ (∀ (t0_13 : Int32), J95_14 t0_13 → ∃ (J103_22 : Int32 → Prop), ((¬ (tx (fs + x9_6).toNatClampNeg) = t0_13 → J103_22 0) ∧ ((tx (fs + x9_6).toNatClampNeg) = t0_13 → J103_22 1)) ∧ (∀ (t0_21 : Int32), J103_22 t0_21 → I18_7 t0_21 (x9_6 + 1) ∧ μ18_8 t0_21 (x9_6 + 1) < μ18_8 x8_5 x9_6))))))) := by
  obtain ⟨hX, rfl, rfl, hwe, heL, hi9, rfl, hlt⟩ := hp
  have hL := hX.1
  have hxl := hX.2.1
  have hl := st_l i_ hi9
  have he : nI (eq_ - wq) = nI (stL.getD i_ 0) ↔ eq_ - wq = stL.getD i_ 0 := nI_eqI (by omega) (by omega)
  rw [he]
  refine ⟨fun t => t = (if eq_ - wq = stL.getD i_ 0 then 1 else 0), ⟨fun h => by rw [if_neg h], fun h => by rw [if_pos h]⟩, fun t0 ht0 => ?_⟩
  refine ⟨fun s z => ∃ k, z = nI k ∧ k ≤ stL.getD i_ 0 ∧ s = (if (decide (eq_ - wq = stL.getD i_ 0) && weqF B wq i_ k) = true then 1 else 0), fun _ z => 9 - z.toNatClampNeg, ⟨0, rfl, by omega, ?_⟩, ?_⟩
  · rw [ht0, weqF, Bool.and_true]
    by_cases h : eq_ - wq = stL.getD i_ 0
    · rw [if_pos h, if_pos (decide_eq_true h)]
    · rw [if_neg h, if_neg (by rw [decide_eq_false h]; decide)]
  rintro s z ⟨k, rfl, hk, hs⟩
  have ek : (nI k).toNatClampNeg = k := nI_clamp (by omega)
  have ek1 : nI k + 1 = nI (k + 1) := nI_1 k
  have ek2 : (nI (k + 1)).toNatClampNeg = k + 1 := nI_clamp (by omega)
  have hle : nI (stL.getD i_ 0) ≤ nI k ↔ stL.getD i_ 0 ≤ k := nI_leI (by omega) (by omega)
  simp only [ek, ek1, ek2, hle]
  have nar : narrow .boolean (.int s) = .int s := by
    rw [hs]
    split <;> rfl
  refine ⟨fun q => ⟨nar, ?_⟩, fun q => ⟨fun h0 => ⟨nar, ?_⟩, fun h0 => ?_⟩⟩
  · rw [hs, show k = stL.getD i_ 0 by omega]; rfl
  · have hf : ¬ (decide (eq_ - wq = stL.getD i_ 0) && weqF B wq i_ k) = true := by
      rw [hs] at h0; exact tv_eq.mp h0
    rw [hs, if_neg hf, if_neg]
    intro z
    unfold wIs at z
    rw [Bool.and_eq_true] at z
    refine hf ?_
    rw [Bool.and_eq_true]
    refine ⟨z.1, ?_⟩
    cases u : weqF B wq i_ k with
    | true => rfl
    | false =>
      have key : ∀ n, k ≤ n → weqF B wq i_ n = false := fun n => by
        induction n with
        | zero => intro h; rw [show k = 0 by omega] at u; exact u
        | succ n ih =>
          intro h
          by_cases e : k = n + 1
          · rw [← e]; exact u
          · rw [weqF, ih (by omega)]; rfl
      rw [key _ hk] at z
      exact absurd z.2 (by decide)
  · have ht : (decide (eq_ - wq = stL.getD i_ 0) && weqF B wq i_ k) = true := by
      rw [hs] at h0; exact tv_eqn.mp h0
    rw [Bool.and_eq_true] at ht
    have hel := of_decide_eq_true ht.1
    have ew : nI wq + nI k = nI (wq + k) := nI_add wq k
    have cw : (nI (wq + k)).toNatClampNeg = wq + k := nI_clamp (by omega)
    have k0 : nI k = 0 ↔ k = 0 := nI_eqI (b := 0) (by omega) (by omega)
    have k1 : nI k = 1 ↔ k = 1 := nI_eqI (b := 1) (by omega) (by omega)
    have k2 : nI k = 2 ↔ k = 2 := nI_eqI (b := 2) (by omega) (by omega)
    have k3 : nI k = 3 ↔ k = 3 := nI_eqI (b := 3) (by omega) (by omega)
    have k4 : nI k = 4 ↔ k = 4 := nI_eqI (b := 4) (by omega) (by omega)
    rw [ew, cw, k0, k1, k2, k3, k4]
    have hlk := hlt k (by omega)
    refine ⟨vp_in_nI (by omega) (by omega), fun t => t = ltr a1 a2 a3 a4 a5 a6 k, ⟨fun n0 => ⟨fun n1 => ⟨fun n2 => ⟨fun n3 => ⟨fun n4 => ?_, fun n4 => ?_⟩, fun n3 => ?_⟩, fun n2 => ?_⟩, fun n1 => ?_⟩, fun n0 => ?_⟩, fun t ht' => ?_⟩
    · unfold ltr; rw [if_neg n0, if_neg n1, if_neg n2, if_neg n3, if_neg n4]
    · unfold ltr; rw [if_neg n0, if_neg n1, if_neg n2, if_neg n3, if_pos n4]
    · unfold ltr; rw [if_neg n0, if_neg n1, if_neg n2, if_pos n3]
    · unfold ltr; rw [if_neg n0, if_neg n1, if_pos n2]
    · unfold ltr; rw [if_neg n0, if_pos n1]
    · unfold ltr; rw [if_pos n0]
    · rw [ht', hlk]
      have hb := hX.is (i := wq + k) (by omega) ((stB.getD i_ []).getD k 0)
      rw [hb]
      refine ⟨fun t => t = (if B (wq + k) = ((stB.getD i_ []).getD k 0).toInt then 1 else 0), ⟨fun g => by rw [if_neg g], fun g => by rw [if_pos g]⟩, fun t2 ht2 => ⟨⟨k + 1, rfl, by omega, ?_⟩, by omega⟩⟩
      rw [ht2, weqF, ht.1, ht.2, Bool.true_and, Bool.true_and]
      by_cases g : B (wq + k) = ((stB.getD i_ []).getD k 0).toInt
      · rw [if_pos g, if_pos (decide_eq_true g)]
      · rw [if_neg g, if_neg (by rw [decide_eq_false g]; decide)]
theorem k_X8_isWord (l : Launch) (G : Gt) (m0 m1 m2 m3 m4 m5 m6 m7 m8 m9 m10 m11 m12 m13 m14 : Nat) (sz : Nat) (mw : Nat → Int64) (ik : Nat → Int32) (zs : Nat → Int32) (cl : Nat → Int32) (hs : Nat → Int32) (ks : Nat → Int32) (wa : Nat → Int32) (ne : Nat → Int32) (mn : Nat → Int32) (tx : Nat → Int32) (th : Nat → Int32) (od : Nat → Int32) (bk : Nat → Int32) (bh : Nat → Int32) (fu : Int32) (fd : Int32) (fi : Int32) (nu : Int32) (nw : Int32) (nf : Int32) (bf : Int32) (bn : Int32) (ts : Int32) (ap : Int32) (fs : Int32) (ln : Int32) (fo : Int32) (fa : Int32) (wr : Int32) (x : Int32) (a1 : Int32) (a2 : Int32) (a3 : Int32) (a4 : Int32) (a5 : Int32) (a6 : Int32) (B : Nat → Int) (L : Nat) (wq : Nat) (eq_ : Nat) (i_ : Nat) (hp : MX B L tx ts ∧ fs = nI wq ∧ ln = nI (eq_ - wq) ∧ wq ≤ eq_ ∧ eq_ ≤ L ∧ i_ < 9 ∧ x = nI (stL.getD i_ 0) ∧ (∀ k, k < stL.getD i_ 0 → ltr a1 a2 a3 a4 a5 a6 k = (stB.getD i_ []).getD k 0)) : MetI l yX8_isWord wsX8_isWord 0 0 G [.ref m0, .int x, .int a1, .int a2, .int a3, .int a4, .int a5, .int a6] [(m0, .inr (8, [.ref m1, .ref m2, .ref m3, .ref m4, .ref m5, .ref m6, .ref m7, .ref m8, .ref m9, .int fu, .int fd, .int fi, .int nu, .int nw, .int nf, .int bf, .int bn, .ref m10, .int ts, .int ap, .int fs, .int ln, .int fo, .int fa, .ref m11, .ref m12, .ref m13, .ref m14, .int wr])), aJ G m1 560 mw, aZ G m2 2 ik, aI G m3 20 zs, aI G m4 20 cl, aI G m5 20 hs, aI G m6 20 ks, aI G m7 20 wa, aI G m8 20 ne, aI G m9 4 mn, aI G m10 400 tx, aI G m11 6 th, aI G m12 6 od, aI G m13 30 bk, aI G m14 30 bh] sz (fun (r : Int32) (_ : Unit) => r = (if wIs B wq eq_ i_ = true then 1 else 0)) (fun (_ : Unit) => [(m0, .inr (8, [.ref m1, .ref m2, .ref m3, .ref m4, .ref m5, .ref m6, .ref m7, .ref m8, .ref m9, .int fu, .int fd, .int fi, .int nu, .int nw, .int nf, .int bf, .int bn, .ref m10, .int ts, .int ap, .int fs, .int ln, .int fo, .int fa, .ref m11, .ref m12, .ref m13, .ref m14, .int wr])), aJ G m1 560 mw, aZ G m2 2 ik, aI G m3 20 zs, aI G m4 20 cl, aI G m5 20 hs, aI G m6 20 ks, aI G m7 20 wa, aI G m8 20 ne, aI G m9 4 mn, aI G m10 400 tx, aI G m11 6 th, aI G m12 6 od, aI G m13 30 bk, aI G m14 30 bh]) :=
  c_X8_isWord l G m0 m1 m2 m3 m4 m5 m6 m7 m8 m9 m10 m11 m12 m13 m14 sz mw ik zs cl hs ks wa ne mn tx th od bk bh fu fd fi nu nw nf bf bn ts ap fs ln fo fa wr x a1 a2 a3 a4 a5 a6 B L wq eq_ i_ (v_X8_isWord l G m0 m1 m2 m3 m4 m5 m6 m7 m8 m9 m10 m11 m12 m13 m14 sz mw ik zs cl hs ks wa ne mn tx th od bk bh fu fd fi nu nw nf bf bn ts ap fs ln fo fa wr x a1 a2 a3 a4 a5 a6 B L wq eq_ i_ hp)

set_option maxHeartbeats 4000000 in
set_option maxRecDepth 100000 in
theorem c_X8_takeNumber (l : Launch) (G : Gt) (m0 m1 m2 m3 m4 m5 m6 m7 m8 m9 m10 m11 m12 m13 m14 : Nat) (sz : Nat) (mw : Nat → Int64) (ik : Nat → Int32) (zs : Nat → Int32) (cl : Nat → Int32) (hs : Nat → Int32) (ks : Nat → Int32) (wa : Nat → Int32) (ne : Nat → Int32) (mn : Nat → Int32) (tx : Nat → Int32) (th : Nat → Int32) (od : Nat → Int32) (bk : Nat → Int32) (bh : Nat → Int32) (fu : Int32) (fd : Int32) (fi : Int32) (nu : Int32) (nw : Int32) (nf : Int32) (bf : Int32) (bn : Int32) (ts : Int32) (ap : Int32) (fs : Int32) (ln : Int32) (fo : Int32) (fa : Int32) (wr : Int32) (x : Int32) (y : Int32) (B : Nat → Int) (L : Nat) (st : Flt ⊕ Nat) (hv : (fo ≤ 0 → ∃ (gB_2 : Nat → Int) (gL_3 : Nat) (gaq_4 : Nat), ((MX gB_2 gL_3 tx ts ∧ ap = nI gaq_4 ∧ gaq_4 ≤ gL_3) ∧ (∀ (r_5 : Int32) (ap2_6 : Int32), (ap2_6 = nI (sk gB_2 gL_3 gaq_4) ∧ r_5.toInt = (if sk gB_2 gL_3 gaq_4 < gL_3 then gB_2 (sk gB_2 gL_3 gaq_4) else -1)) → ((¬ (1 : Int32) = 0) ∧ (∀ (r_8 : Int32) (fo2_9 : Int32) (fa2_10 : Int32), (((fo = 0 ∧ ¬ ((if ¬ r_5.toInt64 < 48 ∧ ¬ 57 < r_5.toInt64 then 1 else 0) : Int32) = 0 ∧ r_8 = 1 ∧ fo2_9 = fo ∧ fa2_10 = fa) ∨ (fo = 0 ∧ ((if ¬ r_5.toInt64 < 48 ∧ ¬ 57 < r_5.toInt64 then 1 else 0) : Int32) = 0 ∧ r_8 = 0 ∧ fo2_9 = (1 : Int32) ∧ fa2_10 = ap2_6) ∨ (¬ fo = 0 ∧ r_8 = 0 ∧ fo2_9 = fo ∧ fa2_10 = fa))) → ((¬ r_8 = 0 → ∃ (I50_14 : Int32 → Int32 → Prop) (μ50_15 : Int32 → Int32 → Nat), I50_14 ap2_6 0 ∧ (∀ (gm019_12 : Int32) (x4_13 : Int32), I50_14 gm019_12 x4_13 → (ts ≤ gm019_12 → ∃ (J160_20 : Int32 → Prop), ((5 ≤ (gm019_12 - ap2_6) → J160_20 0) ∧ (¬ (5 ≤ (gm019_12 - ap2_6)) → (¬ (¬ x4_13.toInt64 < x.toInt64 ∧ ¬ y.toInt64 < x4_13.toInt64) → J160_20 0) ∧ (¬ x4_13.toInt64 < x.toInt64 ∧ ¬ y.toInt64 < x4_13.toInt64 → J160_20 1))) ∧ (∀ (t0_19 : Int32), J160_20 t0_19 → (¬ (2 : Int32) = 0) ∧ (∀ (r_25 : Int32) (fo2_26 : Int32) (fa2_27 : Int32), (((fo2_9 = 0 ∧ ¬ t0_19 = 0 ∧ r_25 = 1 ∧ fo2_26 = fo2_9 ∧ fa2_27 = fa2_10) ∨ (fo2_9 = 0 ∧ t0_19 = 0 ∧ r_25 = 0 ∧ fo2_26 = (2 : Int32) ∧ fa2_27 = ap2_6) ∨ (¬ fo2_9 = 0 ∧ r_25 = 0 ∧ fo2_26 = fo2_9 ∧ fa2_27 = fa2_10))) → (CSn L (bnd st (nuR B L x.toInt y.toInt)) x4_13 fo2_26 fa2_27 gm019_12 ap2_6)))) ∧ (¬ (ts ≤ gm019_12) → (vp_in gm019_12 400) ∧ ((¬ (¬ ((tx gm019_12.toNatClampNeg).toInt64) < 48 ∧ ¬ 57 < ((tx gm019_12.toNatClampNeg).toInt64)) → ∃ (J160_32 : Int32 → Prop), ((5 ≤ (gm019_12 - ap2_6) → J160_32 0) ∧ (¬ (5 ≤ (gm019_12 - ap2_6)) → (¬ (¬ x4_13.toInt64 < x.toInt64 ∧ ¬ y.toInt64 < x4_13.toInt64) → J160_32 0) ∧ (¬ x4_13.toInt64 < x.toInt64 ∧ ¬ y.toInt64 < x4_13.toInt64 → J160_32 1))) ∧ (∀ (t0_31 : Int32), J160_32 t0_31 → (¬ (2 : Int32) = 0) ∧ (∀ (r_37 : Int32) (fo2_38 : Int32) (fa2_39 : Int32), (((fo2_9 = 0 ∧ ¬ t0_31 = 0 ∧ r_37 = 1 ∧ fo2_38 = fo2_9 ∧ fa2_39 = fa2_10) ∨ (fo2_9 = 0 ∧ t0_31 = 0 ∧ r_37 = 0 ∧ fo2_38 = (2 : Int32) ∧ fa2_39 = ap2_6) ∨ (¬ fo2_9 = 0 ∧ r_37 = 0 ∧ fo2_38 = fo2_9 ∧ fa2_39 = fa2_10))) → (CSn L (bnd st (nuR B L x.toInt y.toInt)) x4_13 fo2_38 fa2_39 gm019_12 ap2_6)))) ∧ (¬ ((tx gm019_12.toNatClampNeg).toInt64) < 48 ∧ ¬ 57 < ((tx gm019_12.toNatClampNeg).toInt64) → ∃ (J113_42 : Int32 → Prop), ((x4_13 ≤ 999999 → (vp_in gm019_12 400) ∧ (J113_42 (((10 * x4_13) + (tx gm019_12.toNatClampNeg)) - 48))) ∧ (¬ (x4_13 ≤ 999999) → J113_42 x4_13)) ∧ (∀ (t0_41 : Int32), J113_42 t0_41 → I50_14 (gm019_12 + 1) t0_41 ∧ μ50_15 (gm019_12 + 1) t0_41 < μ50_15 gm019_12 x4_13)))))) ∧ (r_8 = 0 → CSn L (bnd st (nuR B L x.toInt y.toInt)) (0 : Int32) fo2_9 fa2_10 ap2_6 ap2_6))))))) ∧ (¬ (fo ≤ 0) → CSn L (bnd st (nuR B L x.toInt y.toInt)) (0 : Int32) fo fa ap fs)) : MetI l yX8_takeNumber wsX8_takeNumber 1 25 G [.ref m0, .int x, .int y] [(m0, .inr (8, [.ref m1, .ref m2, .ref m3, .ref m4, .ref m5, .ref m6, .ref m7, .ref m8, .ref m9, .int fu, .int fd, .int fi, .int nu, .int nw, .int nf, .int bf, .int bn, .ref m10, .int ts, .int ap, .int fs, .int ln, .int fo, .int fa, .ref m11, .ref m12, .ref m13, .ref m14, .int wr])), aJ G m1 560 mw, aZ G m2 2 ik, aI G m3 20 zs, aI G m4 20 cl, aI G m5 20 hs, aI G m6 20 ks, aI G m7 20 wa, aI G m8 20 ne, aI G m9 4 mn, aI G m10 400 tx, aI G m11 6 th, aI G m12 6 od, aI G m13 30 bk, aI G m14 30 bh] sz (fun (r : Int32) (u : (Int32) × (Int32) × (Int32) × (Int32)) => CSn L (bnd st (nuR B L x.toInt y.toInt)) r u.2.2.1 u.2.2.2 u.1 u.2.1) (fun (u : (Int32) × (Int32) × (Int32) × (Int32)) => [(m0, .inr (8, [.ref m1, .ref m2, .ref m3, .ref m4, .ref m5, .ref m6, .ref m7, .ref m8, .ref m9, .int fu, .int fd, .int fi, .int nu, .int nw, .int nf, .int bf, .int bn, .ref m10, .int ts, .int u.1, .int u.2.1, .int ln, .int u.2.2.1, .int u.2.2.2, .ref m11, .ref m12, .ref m13, .ref m14, .int wr])), aJ G m1 560 mw, aZ G m2 2 ik, aI G m3 20 zs, aI G m4 20 cl, aI G m5 20 hs, aI G m6 20 ks, aI G m7 20 wa, aI G m8 20 ne, aI G m9 4 mn, aI G m10 400 tx, aI G m11 6 th, aI G m12 6 od, aI G m13 30 bk, aI G m14 30 bh]) := by
  refine x_startI (cc := cX8_takeNumber) (maxL := 6) (ret := (some .int)) (by decide) rfl (Nat.le_of_ble_eq_true rfl) ?_
  intro p e s m args below meth c A R Q ls hRf hRl hQ C hP hD hS hA hSS hl
  obtain ⟨hx, hb, hr, hml, hown, hts, hlocks, hKK⟩ := C
  have hown : s.vm.findClass RX8 = some m.cls := hown
  have hl : lv_has ls 6 [(0, .ref m0), (1, .int x), (2, .int y)] := hl
  have hinX8 : ∀ w ∈ u_ws RX8 TX8 29, w ∈ wsX8_takeNumber := by decide +kernel
  have kl100 := hts (.constantLong RX8 100 (48)) (by decide +kernel)
  have kl102 := hts (.constantLong RX8 102 (57)) (by decide +kernel)
  have kl108 := hts (.constant RX8 108 (999999)) (by decide +kernel)
  have kl46 := hts (.fieldLink RX8 46 "WarmStonesModel" "text" "[I") (by decide +kernel)
  have kl74 := hts (.fieldLink RX8 74 "WarmStonesModel" "textSize" "I") (by decide +kernel)
  have kl80 := hts (.fieldLink RX8 80 "WarmStonesModel" "at" "I") (by decide +kernel)
  have kl83 := hts (.fieldLink RX8 83 "WarmStonesModel" "faultOf" "I") (by decide +kernel)
  have kl90 := hts (.fieldLink RX8 90 "WarmStonesModel" "first" "I") (by decide +kernel)
  refine lv_aload_n hx hb dX8_takeNumber_0 rfl (lv_at hl 0 rfl) ?_
  refine va_get (D := G.1) (ci := 8) (v := .int fo) (C := RX8) (T := TX8) (N := 29) hx hb hts hinX8 hown hKK.1 hP 0 rfl rfl 22 (by decide) kl83 (fun _ h9 => h9) rfl dX8_takeNumber_1 ?_
  refine lv_if_le (tgt := 9) hx hb dX8_takeNumber_4 (by decide) (fun hc_1 => ?_) (fun hc_1 => ?_)
  · have hv := hv.1 hc_1
    refine lv_aload_n hx hb dX8_takeNumber_9 rfl (lv_at hl 0 rfl) ?_
    obtain ⟨gB_2, gL_3, gaq_4, hv⟩ := hv
    obtain ⟨hp, hv⟩ := hv
    refine x_calli (wr := []) (w' := fun (u : (Int32)) => [(m0, .inr (8, [.ref m1, .ref m2, .ref m3, .ref m4, .ref m5, .ref m6, .ref m7, .ref m8, .ref m9, .int fu, .int fd, .int fi, .int nu, .int nw, .int nf, .int bf, .int bn, .ref m10, .int ts, .int u, .int fs, .int ln, .int fo, .int fa, .ref m11, .ref m12, .ref m13, .ref m14, .int wr])), aJ G m1 560 mw, aZ G m2 2 ik, aI G m3 20 zs, aI G m4 20 cl, aI G m5 20 hs, aI G m6 20 ks, aI G m7 20 wa, aI G m8 20 ne, aI G m9 4 mn, aI G m10 400 tx, aI G m11 6 th, aI G m12 6 od, aI G m13 30 bk, aI G m14 30 bh]) (x_runV (As := []) (rest := []) (n := 0) (C := RX8) (ci := 8) ⟨hx, hb, hml, hown, hts⟩ (k_X8_here l G m0 m1 m2 m3 m4 m5 m6 m7 m8 m9 m10 m11 m12 m13 m14 _ mw ik zs cl hs ks wa ne mn tx th od bk bh fu fd fi nu nw nf bf bn ts ap fs ln fo fa wr gB_2 gL_3 gaq_4 hp) gX8_takeNumber_X8_here rfl (by decide +kernel) ⟨Nat.le_trans (Nat.le_of_ble_eq_true rfl) hRf, Nat.le_trans (Nat.le_of_ble_eq_true rfl) hRl⟩ hKK hSS hS hA hP hD [0, 1, 2, 3, 4, 5, 6, 7, 8, 9, 10, 11, 12, 13, 14] (by decide) rfl rfl rfl 0 rfl rfl hl.1 rfl (Nat.le_of_ble_eq_true rfl) dX8_takeNumber_10) hP hD hS hA [0, 1, 2, 3, 4, 5, 6, 7, 8, 9, 10, 11, 12, 13, 14] [] [0, 1, 2, 3, 4, 5, 6, 7, 8, 9, 10, 11, 12, 13, 14] rfl rfl (by decide) (by decide) (by decide) (fun _ => rfl) (fun r_5 u H locs hw hP hD hS => ?_)
    obtain ⟨ap2_6, rfl⟩ : ∃ z9_, z9_ = u := ⟨_, rfl⟩
    have hP : va_P G.1 vwCl [(m0, .inr (8, [.ref m1, .ref m2, .ref m3, .ref m4, .ref m5, .ref m6, .ref m7, .ref m8, .ref m9, .int fu, .int fd, .int fi, .int nu, .int nw, .int nf, .int bf, .int bn, .ref m10, .int ts, .int ap2_6, .int fs, .int ln, .int fo, .int fa, .ref m11, .ref m12, .ref m13, .ref m14, .int wr])), aJ G m1 560 mw, aZ G m2 2 ik, aI G m3 20 zs, aI G m4 20 cl, aI G m5 20 hs, aI G m6 20 ks, aI G m7 20 wa, aI G m8 20 ne, aI G m9 4 mn, aI G m10 400 tx, aI G m11 6 th, aI G m12 6 od, aI G m13 30 bk, aI G m14 30 bh] H := hP
    have hD : va_D A [(m0, .inr (8, [.ref m1, .ref m2, .ref m3, .ref m4, .ref m5, .ref m6, .ref m7, .ref m8, .ref m9, .int fu, .int fd, .int fi, .int nu, .int nw, .int nf, .int bf, .int bn, .ref m10, .int ts, .int ap2_6, .int fs, .int ln, .int fo, .int fa, .ref m11, .ref m12, .ref m13, .ref m14, .int wr])), aJ G m1 560 mw, aZ G m2 2 ik, aI G m3 20 zs, aI G m4 20 cl, aI G m5 20 hs, aI G m6 20 ks, aI G m7 20 wa, aI G m8 20 ne, aI G m9 4 mn, aI G m10 400 tx, aI G m11 6 th, aI G m12 6 od, aI G m13 30 bk, aI G m14 30 bh] := hD
    have hv := hv r_5 ap2_6 hw
    refine lv_istore_n (lv' := [(3, .int r_5), (0, .ref m0), (1, .int x), (2, .int y)]) hx hb dX8_takeNumber_13 rfl hl (by decide) rfl (fun ls hl => ?_)
    refine lv_aload_n hx hb dX8_takeNumber_14 rfl (lv_at hl 1 rfl) ?_
    refine lv_aload_n hx hb dX8_takeNumber_15 rfl (lv_at hl 1 rfl) ?_
    refine va_get (D := G.1) (ci := 8) (v := .int ap2_6) (C := RX8) (T := TX8) (N := 29) hx hb hts hinX8 hown hKK.1 hP 0 rfl rfl 19 (by decide) kl80 (fun _ h9 => h9) rfl dX8_takeNumber_16 ?_
    refine va_put (D := G.1) (ci := 8) (v := .int ap2_6) (ty := .int) (C := RX8) (T := TX8) (N := 29) hx hb hts hinX8 tyX8 tyX8_ok nmX8 hown hKK.1 hP hD hS 0 rfl rfl 20 (by decide) kl90 (fun _ h9 => h9) rfl (by decide +kernel) rfl rfl (Nat.le_of_ble_eq_true rfl) dX8_takeNumber_19 (fun H locs hP hD hS => ?_)
    have hP : va_P G.1 vwCl [(m0, .inr (8, [.ref m1, .ref m2, .ref m3, .ref m4, .ref m5, .ref m6, .ref m7, .ref m8, .ref m9, .int fu, .int fd, .int fi, .int nu, .int nw, .int nf, .int bf, .int bn, .ref m10, .int ts, .int ap2_6, .int ap2_6, .int ln, .int fo, .int fa, .ref m11, .ref m12, .ref m13, .ref m14, .int wr])), aJ G m1 560 mw, aZ G m2 2 ik, aI G m3 20 zs, aI G m4 20 cl, aI G m5 20 hs, aI G m6 20 ks, aI G m7 20 wa, aI G m8 20 ne, aI G m9 4 mn, aI G m10 400 tx, aI G m11 6 th, aI G m12 6 od, aI G m13 30 bk, aI G m14 30 bh] H := hP
    have hD : va_D A [(m0, .inr (8, [.ref m1, .ref m2, .ref m3, .ref m4, .ref m5, .ref m6, .ref m7, .ref m8, .ref m9, .int fu, .int fd, .int fi, .int nu, .int nw, .int nf, .int bf, .int bn, .ref m10, .int ts, .int ap2_6, .int ap2_6, .int ln, .int fo, .int fa, .ref m11, .ref m12, .ref m13, .ref m14, .int wr])), aJ G m1 560 mw, aZ G m2 2 ik, aI G m3 20 zs, aI G m4 20 cl, aI G m5 20 hs, aI G m6 20 ks, aI G m7 20 wa, aI G m8 20 ne, aI G m9 4 mn, aI G m10 400 tx, aI G m11 6 th, aI G m12 6 od, aI G m13 30 bk, aI G m14 30 bh] := hD
    refine lv_aload_n hx hb dX8_takeNumber_22 rfl (lv_at hl 1 rfl) ?_
    refine lv_iload_n hx hb dX8_takeNumber_23 rfl (lv_at hl 0 rfl) ?_
    refine lv_i2l hx hb dX8_takeNumber_24 rfl ?_
    refine lv_ldc2 (v := 48) hx hb hown kl100 dX8_takeNumber_25 ?_
    refine lv_ldc2 (v := 57) hx hb hown kl102 dX8_takeNumber_28 ?_
    refine x_calliR (x_runS (As := [.long r_5.toInt64, .long 48, .long 57]) (rest := [.ref m0]) (n := 3) ⟨hx, hb, hml, hown, hts⟩ (k_X8_in l G  _ r_5.toInt64 48 57) gX8_takeNumber_X8_in rfl (by decide +kernel) ⟨Nat.le_trans (Nat.le_of_ble_eq_true rfl) hRf, Nat.le_trans (Nat.le_of_ble_eq_true rfl) hRl⟩ hKK hSS hS hA hP hD [] (by decide) rfl rfl hl.1 rfl (Nat.le_of_ble_eq_true rfl) dX8_takeNumber_31) hP hD hS hA [] rfl (fun r_7 _ H locs hw hP hS => ?_)
    replace hw := hw.symm; subst hw
    refine lv_iconst (v := 1) hx hb dX8_takeNumber_34 (by decide) ?_
    refine lv_aload_n hx hb dX8_takeNumber_35 rfl (lv_at hl 1 rfl) ?_
    refine va_get (D := G.1) (ci := 8) (v := .int ap2_6) (C := RX8) (T := TX8) (N := 29) hx hb hts hinX8 hown hKK.1 hP 0 rfl rfl 19 (by decide) kl80 (fun _ h9 => h9) rfl dX8_takeNumber_36 ?_
    obtain ⟨hp, hv⟩ := hv
    refine x_calli (wr := []) (w' := fun (u : (Int32) × (Int32)) => [(m0, .inr (8, [.ref m1, .ref m2, .ref m3, .ref m4, .ref m5, .ref m6, .ref m7, .ref m8, .ref m9, .int fu, .int fd, .int fi, .int nu, .int nw, .int nf, .int bf, .int bn, .ref m10, .int ts, .int ap2_6, .int ap2_6, .int ln, .int u.1, .int u.2, .ref m11, .ref m12, .ref m13, .ref m14, .int wr])), aJ G m1 560 mw, aZ G m2 2 ik, aI G m3 20 zs, aI G m4 20 cl, aI G m5 20 hs, aI G m6 20 ks, aI G m7 20 wa, aI G m8 20 ne, aI G m9 4 mn, aI G m10 400 tx, aI G m11 6 th, aI G m12 6 od, aI G m13 30 bk, aI G m14 30 bh]) (x_runV (As := [.int (if ¬ r_5.toInt64 < 48 ∧ ¬ 57 < r_5.toInt64 then 1 else 0), .int 1, .int ap2_6]) (rest := []) (n := 3) (C := RX8) (ci := 8) ⟨hx, hb, hml, hown, hts⟩ (k_X8_want l G m0 m1 m2 m3 m4 m5 m6 m7 m8 m9 m10 m11 m12 m13 m14 _ mw ik zs cl hs ks wa ne mn tx th od bk bh fu fd fi nu nw nf bf bn ts ap2_6 ap2_6 ln fo fa wr (if ¬ r_5.toInt64 < 48 ∧ ¬ 57 < r_5.toInt64 then 1 else 0) 1 ap2_6 hp) gX8_takeNumber_X8_want rfl (by decide +kernel) ⟨Nat.le_trans (Nat.le_of_ble_eq_true rfl) hRf, Nat.le_trans (Nat.le_of_ble_eq_true rfl) hRl⟩ hKK hSS hS hA hP hD [0, 1, 2, 3, 4, 5, 6, 7, 8, 9, 10, 11, 12, 13, 14] (by decide) rfl rfl rfl 0 rfl rfl hl.1 rfl (Nat.le_of_ble_eq_true rfl) dX8_takeNumber_39) hP hD hS hA [0, 1, 2, 3, 4, 5, 6, 7, 8, 9, 10, 11, 12, 13, 14] [] [0, 1, 2, 3, 4, 5, 6, 7, 8, 9, 10, 11, 12, 13, 14] rfl rfl (by decide) (by decide) (by decide) (fun _ => rfl) (fun r_8 u H locs hw hP hD hS => ?_)
    obtain ⟨fo2_9, fa2_10⟩ := u
    have hP : va_P G.1 vwCl [(m0, .inr (8, [.ref m1, .ref m2, .ref m3, .ref m4, .ref m5, .ref m6, .ref m7, .ref m8, .ref m9, .int fu, .int fd, .int fi, .int nu, .int nw, .int nf, .int bf, .int bn, .ref m10, .int ts, .int ap2_6, .int ap2_6, .int ln, .int fo2_9, .int fa2_10, .ref m11, .ref m12, .ref m13, .ref m14, .int wr])), aJ G m1 560 mw, aZ G m2 2 ik, aI G m3 20 zs, aI G m4 20 cl, aI G m5 20 hs, aI G m6 20 ks, aI G m7 20 wa, aI G m8 20 ne, aI G m9 4 mn, aI G m10 400 tx, aI G m11 6 th, aI G m12 6 od, aI G m13 30 bk, aI G m14 30 bh] H := hP
    have hD : va_D A [(m0, .inr (8, [.ref m1, .ref m2, .ref m3, .ref m4, .ref m5, .ref m6, .ref m7, .ref m8, .ref m9, .int fu, .int fd, .int fi, .int nu, .int nw, .int nf, .int bf, .int bn, .ref m10, .int ts, .int ap2_6, .int ap2_6, .int ln, .int fo2_9, .int fa2_10, .ref m11, .ref m12, .ref m13, .ref m14, .int wr])), aJ G m1 560 mw, aZ G m2 2 ik, aI G m3 20 zs, aI G m4 20 cl, aI G m5 20 hs, aI G m6 20 ks, aI G m7 20 wa, aI G m8 20 ne, aI G m9 4 mn, aI G m10 400 tx, aI G m11 6 th, aI G m12 6 od, aI G m13 30 bk, aI G m14 30 bh] := hD
    have hv := hv r_8 fo2_9 fa2_10 hw
    refine lv_if_ne (tgt := 47) hx hb dX8_takeNumber_42 (by decide) (fun hc_11 => ?_) (fun hc_11 => ?_)
    · have hv := hv.1 hc_11
      refine lv_iconst (v := 0) hx hb dX8_takeNumber_47 (by decide) ?_
      refine lv_istore (lv' := [(4, .int 0), (3, .int r_5), (0, .ref m0), (1, .int x), (2, .int y)]) hx hb dX8_takeNumber_48 hl (by decide) rfl (fun ls hl => ?_)
      obtain ⟨I50_14, μ50_15, hi0, hs_46⟩ := hv
      have Lm_48 : ∀ (n_47 : Nat) (gm019_12 : Int32) (x4_13 : Int32) (H : Heap) (locs : List Loc) (ls : Array Slot), μ50_15 gm019_12 x4_13 < n_47 → I50_14 gm019_12 x4_13 → va_P G.1 vwCl [(m0, .inr (8, [.ref m1, .ref m2, .ref m3, .ref m4, .ref m5, .ref m6, .ref m7, .ref m8, .ref m9, .int fu, .int fd, .int fi, .int nu, .int nw, .int nf, .int bf, .int bn, .ref m10, .int ts, .int gm019_12, .int ap2_6, .int ln, .int fo2_9, .int fa2_10, .ref m11, .ref m12, .ref m13, .ref m14, .int wr])), aJ G m1 560 mw, aZ G m2 2 ik, aI G m3 20 zs, aI G m4 20 cl, aI G m5 20 hs, aI G m6 20 ks, aI G m7 20 wa, aI G m8 20 ne, aI G m9 4 mn, aI G m10 400 tx, aI G m11 6 th, aI G m12 6 od, aI G m13 30 bk, aI G m14 30 bh] H → va_D A [(m0, .inr (8, [.ref m1, .ref m2, .ref m3, .ref m4, .ref m5, .ref m6, .ref m7, .ref m8, .ref m9, .int fu, .int fd, .int fi, .int nu, .int nw, .int nf, .int bf, .int bn, .ref m10, .int ts, .int gm019_12, .int ap2_6, .int ln, .int fo2_9, .int fa2_10, .ref m11, .ref m12, .ref m13, .ref m14, .int wr])), aJ G m1 560 mw, aZ G m2 2 ik, aI G m3 20 zs, aI G m4 20 cl, aI G m5 20 hs, aI G m6 20 ks, aI G m7 20 wa, aI G m8 20 ne, aI G m9 4 mn, aI G m10 400 tx, aI G m11 6 th, aI G m12 6 od, aI G m13 30 bk, aI G m14 30 bh] → va_S A s.heap H locs → lv_has ls 6 [(4, .int x4_13), (3, .int r_5), (0, .ref m0), (1, .int x), (2, .int y)] → W p l e R s m args below meth c H locs 0 0 Q (F0 m 50 ls []) := by
        intro n_47
        induction n_47 with
        | zero => intro gm019_12 x4_13 H locs ls hm; exact absurd hm (Nat.not_lt_zero _)
        | succ n_47 ih_16 =>
          intro gm019_12 x4_13 H locs ls hI_17 hi hP hD hS hl
          have hv := hs_46 gm019_12 x4_13 hi
          refine lv_aload_n hx hb dX8_takeNumber_50 rfl (lv_at hl 2 rfl) ?_
          refine va_get (D := G.1) (ci := 8) (v := .int gm019_12) (C := RX8) (T := TX8) (N := 29) hx hb hts hinX8 hown hKK.1 hP 0 rfl rfl 19 (by decide) kl80 (fun _ h9 => h9) rfl dX8_takeNumber_51 ?_
          refine lv_aload_n hx hb dX8_takeNumber_54 rfl (lv_at hl 2 rfl) ?_
          refine va_get (D := G.1) (ci := 8) (v := .int ts) (C := RX8) (T := TX8) (N := 29) hx hb hts hinX8 hown hKK.1 hP 0 rfl rfl 18 (by decide) kl74 (fun _ h9 => h9) rfl dX8_takeNumber_55 ?_
          refine lv_icmp_ge (tgt := 128) hx hb dX8_takeNumber_58 (by decide) (fun hc_18 => ?_) (fun hc_18 => ?_)
          · have hv := hv.1 hc_18
            refine lv_aload_n hx hb dX8_takeNumber_128 rfl (lv_at hl 2 rfl) ?_
            refine lv_aload_n hx hb dX8_takeNumber_129 rfl (lv_at hl 2 rfl) ?_
            refine va_get (D := G.1) (ci := 8) (v := .int gm019_12) (C := RX8) (T := TX8) (N := 29) hx hb hts hinX8 hown hKK.1 hP 0 rfl rfl 19 (by decide) kl80 (fun _ h9 => h9) rfl dX8_takeNumber_130 ?_
            refine lv_aload_n hx hb dX8_takeNumber_133 rfl (lv_at hl 2 rfl) ?_
            refine va_get (D := G.1) (ci := 8) (v := .int ap2_6) (C := RX8) (T := TX8) (N := 29) hx hb hts hinX8 hown hKK.1 hP 0 rfl rfl 20 (by decide) kl90 (fun _ h9 => h9) rfl dX8_takeNumber_134 ?_
            refine lv_isub hx hb dX8_takeNumber_137 ?_
            refine lv_iconst (v := 5) hx hb dX8_takeNumber_138 (by decide) ?_
            obtain ⟨J160_20, hv, hj_28⟩ := hv
            have K_21 : ∀ (t0_19 : Int32) (H : Heap) (locs : List Loc) (ls : Array Slot), J160_20 t0_19 → va_P G.1 vwCl [(m0, .inr (8, [.ref m1, .ref m2, .ref m3, .ref m4, .ref m5, .ref m6, .ref m7, .ref m8, .ref m9, .int fu, .int fd, .int fi, .int nu, .int nw, .int nf, .int bf, .int bn, .ref m10, .int ts, .int gm019_12, .int ap2_6, .int ln, .int fo2_9, .int fa2_10, .ref m11, .ref m12, .ref m13, .ref m14, .int wr])), aJ G m1 560 mw, aZ G m2 2 ik, aI G m3 20 zs, aI G m4 20 cl, aI G m5 20 hs, aI G m6 20 ks, aI G m7 20 wa, aI G m8 20 ne, aI G m9 4 mn, aI G m10 400 tx, aI G m11 6 th, aI G m12 6 od, aI G m13 30 bk, aI G m14 30 bh] H → va_D A [(m0, .inr (8, [.ref m1, .ref m2, .ref m3, .ref m4, .ref m5, .ref m6, .ref m7, .ref m8, .ref m9, .int fu, .int fd, .int fi, .int nu, .int nw, .int nf, .int bf, .int bn, .ref m10, .int ts, .int gm019_12, .int ap2_6, .int ln, .int fo2_9, .int fa2_10, .ref m11, .ref m12, .ref m13, .ref m14, .int wr])), aJ G m1 560 mw, aZ G m2 2 ik, aI G m3 20 zs, aI G m4 20 cl, aI G m5 20 hs, aI G m6 20 ks, aI G m7 20 wa, aI G m8 20 ne, aI G m9 4 mn, aI G m10 400 tx, aI G m11 6 th, aI G m12 6 od, aI G m13 30 bk, aI G m14 30 bh] → va_S A s.heap H locs → lv_has ls 6 [(4, .int x4_13), (3, .int r_5), (0, .ref m0), (1, .int x), (2, .int y)] → W p l e R s m args below meth c H locs 0 0 Q (F0 m 160 ls [.int t0_19, .ref m0]) := by
              intro t0_19 H locs ls hi hP hD hS hl
              have hv := hj_28 t0_19 hi
              refine lv_iconst (v := 2) hx hb dX8_takeNumber_160 (by decide) ?_
              refine lv_aload_n hx hb dX8_takeNumber_161 rfl (lv_at hl 2 rfl) ?_
              refine va_get (D := G.1) (ci := 8) (v := .int ap2_6) (C := RX8) (T := TX8) (N := 29) hx hb hts hinX8 hown hKK.1 hP 0 rfl rfl 20 (by decide) kl90 (fun _ h9 => h9) rfl dX8_takeNumber_162 ?_
              obtain ⟨hp, hv⟩ := hv
              refine x_calli (wr := []) (w' := fun (u : (Int32) × (Int32)) => [(m0, .inr (8, [.ref m1, .ref m2, .ref m3, .ref m4, .ref m5, .ref m6, .ref m7, .ref m8, .ref m9, .int fu, .int fd, .int fi, .int nu, .int nw, .int nf, .int bf, .int bn, .ref m10, .int ts, .int gm019_12, .int ap2_6, .int ln, .int u.1, .int u.2, .ref m11, .ref m12, .ref m13, .ref m14, .int wr])), aJ G m1 560 mw, aZ G m2 2 ik, aI G m3 20 zs, aI G m4 20 cl, aI G m5 20 hs, aI G m6 20 ks, aI G m7 20 wa, aI G m8 20 ne, aI G m9 4 mn, aI G m10 400 tx, aI G m11 6 th, aI G m12 6 od, aI G m13 30 bk, aI G m14 30 bh]) (x_runV (As := [.int t0_19, .int 2, .int ap2_6]) (rest := []) (n := 3) (C := RX8) (ci := 8) ⟨hx, hb, hml, hown, hts⟩ (k_X8_want l G m0 m1 m2 m3 m4 m5 m6 m7 m8 m9 m10 m11 m12 m13 m14 _ mw ik zs cl hs ks wa ne mn tx th od bk bh fu fd fi nu nw nf bf bn ts gm019_12 ap2_6 ln fo2_9 fa2_10 wr t0_19 2 ap2_6 hp) gX8_takeNumber_X8_want rfl (by decide +kernel) ⟨Nat.le_trans (Nat.le_of_ble_eq_true rfl) hRf, Nat.le_trans (Nat.le_of_ble_eq_true rfl) hRl⟩ hKK hSS hS hA hP hD [0, 1, 2, 3, 4, 5, 6, 7, 8, 9, 10, 11, 12, 13, 14] (by decide) rfl rfl rfl 0 rfl rfl hl.1 rfl (Nat.le_of_ble_eq_true rfl) dX8_takeNumber_165) hP hD hS hA [0, 1, 2, 3, 4, 5, 6, 7, 8, 9, 10, 11, 12, 13, 14] [] [0, 1, 2, 3, 4, 5, 6, 7, 8, 9, 10, 11, 12, 13, 14] rfl rfl (by decide) (by decide) (by decide) (fun _ => rfl) (fun r_25 u H locs hw hP hD hS => ?_)
              obtain ⟨fo2_26, fa2_27⟩ := u
              have hP : va_P G.1 vwCl [(m0, .inr (8, [.ref m1, .ref m2, .ref m3, .ref m4, .ref m5, .ref m6, .ref m7, .ref m8, .ref m9, .int fu, .int fd, .int fi, .int nu, .int nw, .int nf, .int bf, .int bn, .ref m10, .int ts, .int gm019_12, .int ap2_6, .int ln, .int fo2_26, .int fa2_27, .ref m11, .ref m12, .ref m13, .ref m14, .int wr])), aJ G m1 560 mw, aZ G m2 2 ik, aI G m3 20 zs, aI G m4 20 cl, aI G m5 20 hs, aI G m6 20 ks, aI G m7 20 wa, aI G m8 20 ne, aI G m9 4 mn, aI G m10 400 tx, aI G m11 6 th, aI G m12 6 od, aI G m13 30 bk, aI G m14 30 bh] H := hP
              have hD : va_D A [(m0, .inr (8, [.ref m1, .ref m2, .ref m3, .ref m4, .ref m5, .ref m6, .ref m7, .ref m8, .ref m9, .int fu, .int fd, .int fi, .int nu, .int nw, .int nf, .int bf, .int bn, .ref m10, .int ts, .int gm019_12, .int ap2_6, .int ln, .int fo2_26, .int fa2_27, .ref m11, .ref m12, .ref m13, .ref m14, .int wr])), aJ G m1 560 mw, aZ G m2 2 ik, aI G m3 20 zs, aI G m4 20 cl, aI G m5 20 hs, aI G m6 20 ks, aI G m7 20 wa, aI G m8 20 ne, aI G m9 4 mn, aI G m10 400 tx, aI G m11 6 th, aI G m12 6 od, aI G m13 30 bk, aI G m14 30 bh] := hD
              have hv := hv r_25 fo2_26 fa2_27 hw
              refine lv_istore (lv' := [(5, .int r_25), (4, .int x4_13), (3, .int r_5), (0, .ref m0), (1, .int x), (2, .int y)]) hx hb dX8_takeNumber_168 hl (by decide) rfl (fun ls hl => ?_)
              refine lv_iload hx hb dX8_takeNumber_170 (lv_at hl 1 rfl) ?_
              exact x_iret (v := x4_13) (gm019_12, ap2_6, fo2_26, fa2_27) hQ hx hb hr hlocks hS dX8_takeNumber_172 hv hP hD
            refine lv_icmp_ge (tgt := 159) hx hb dX8_takeNumber_139 (by decide) (fun hc_22 => ?_) (fun hc_22 => ?_)
            · have hv := hv.1 hc_22
              refine lv_iconst (v := 0) hx hb dX8_takeNumber_159 (by decide) ?_
              exact K_21 _ _ _ _ hv hP hD hS hl
            · have hv := hv.2 hc_22
              refine lv_iload hx hb dX8_takeNumber_142 (lv_at hl 0 rfl) ?_
              refine lv_i2l hx hb dX8_takeNumber_144 rfl ?_
              refine lv_iload_n hx hb dX8_takeNumber_145 rfl (lv_at hl 3 rfl) ?_
              refine lv_i2l hx hb dX8_takeNumber_146 rfl ?_
              refine lv_iload_n hx hb dX8_takeNumber_147 rfl (lv_at hl 4 rfl) ?_
              refine lv_i2l hx hb dX8_takeNumber_148 rfl ?_
              refine x_calliR (x_runS (As := [.long x4_13.toInt64, .long x.toInt64, .long y.toInt64]) (rest := [.ref m0]) (n := 3) ⟨hx, hb, hml, hown, hts⟩ (k_X8_in l G  _ x4_13.toInt64 x.toInt64 y.toInt64) gX8_takeNumber_X8_in rfl (by decide +kernel) ⟨Nat.le_trans (Nat.le_of_ble_eq_true rfl) hRf, Nat.le_trans (Nat.le_of_ble_eq_true rfl) hRl⟩ hKK hSS hS hA hP hD [] (by decide) rfl rfl hl.1 rfl (Nat.le_of_ble_eq_true rfl) dX8_takeNumber_149) hP hD hS hA [] rfl (fun r_23 _ H locs hw hP hS => ?_)
              replace hw := hw.symm; subst hw
              refine lv_if_eq (tgt := 159) hx hb dX8_takeNumber_152 (by decide) (fun hc_24 => ?_) (fun hc_24 => ?_)
              · have hv := hv.1 (tv_eq.mp hc_24)
                refine lv_iconst (v := 0) hx hb dX8_takeNumber_159 (by decide) ?_
                exact K_21 _ _ _ _ hv hP hD hS hl
              · have hv := hv.2 (tv_eqn.mp hc_24)
                refine lv_iconst (v := 1) hx hb dX8_takeNumber_155 (by decide) ?_
                refine lv_goto (tgt := 160) hx hb dX8_takeNumber_156 (by decide) ?_
                exact K_21 _ _ _ _ hv hP hD hS hl
          · have hv := hv.2 hc_18
            refine lv_aload_n hx hb dX8_takeNumber_61 rfl (lv_at hl 2 rfl) ?_
            refine va_get (D := G.1) (ci := 8) (v := .ref m10) (C := RX8) (T := TX8) (N := 29) hx hb hts hinX8 hown hKK.1 hP 0 rfl rfl 17 (by decide) kl46 (fun _ h9 => h9) rfl dX8_takeNumber_62 ?_
            refine lv_aload_n hx hb dX8_takeNumber_65 rfl (lv_at hl 2 rfl) ?_
            refine va_get (D := G.1) (ci := 8) (v := .int gm019_12) (C := RX8) (T := TX8) (N := 29) hx hb hts hinX8 hown hKK.1 hP 0 rfl rfl 19 (by decide) kl80 (fun _ h9 => h9) rfl dX8_takeNumber_66 ?_
            obtain ⟨hin, hv⟩ := hv
            refine va_iald hx hb hKK.1 hP 10 0 rfl rfl hin dX8_takeNumber_69 ?_
            refine lv_i2l hx hb dX8_takeNumber_70 rfl ?_
            refine lv_ldc2 (v := 48) hx hb hown kl100 dX8_takeNumber_71 ?_
            refine lv_ldc2 (v := 57) hx hb hown kl102 dX8_takeNumber_74 ?_
            refine x_calliR (x_runS (As := [.long ((tx gm019_12.toNatClampNeg).toInt64), .long 48, .long 57]) (rest := []) (n := 3) ⟨hx, hb, hml, hown, hts⟩ (k_X8_in l G  _ ((tx gm019_12.toNatClampNeg).toInt64) 48 57) gX8_takeNumber_X8_in rfl (by decide +kernel) ⟨Nat.le_trans (Nat.le_of_ble_eq_true rfl) hRf, Nat.le_trans (Nat.le_of_ble_eq_true rfl) hRl⟩ hKK hSS hS hA hP hD [] (by decide) rfl rfl hl.1 rfl (Nat.le_of_ble_eq_true rfl) dX8_takeNumber_77) hP hD hS hA [] rfl (fun r_29 _ H locs hw hP hS => ?_)
            replace hw := hw.symm; subst hw
            refine lv_if_eq (tgt := 128) hx hb dX8_takeNumber_80 (by decide) (fun hc_30 => ?_) (fun hc_30 => ?_)
            · have hv := hv.1 (tv_eq.mp hc_30)
              refine lv_aload_n hx hb dX8_takeNumber_128 rfl (lv_at hl 2 rfl) ?_
              refine lv_aload_n hx hb dX8_takeNumber_129 rfl (lv_at hl 2 rfl) ?_
              refine va_get (D := G.1) (ci := 8) (v := .int gm019_12) (C := RX8) (T := TX8) (N := 29) hx hb hts hinX8 hown hKK.1 hP 0 rfl rfl 19 (by decide) kl80 (fun _ h9 => h9) rfl dX8_takeNumber_130 ?_
              refine lv_aload_n hx hb dX8_takeNumber_133 rfl (lv_at hl 2 rfl) ?_
              refine va_get (D := G.1) (ci := 8) (v := .int ap2_6) (C := RX8) (T := TX8) (N := 29) hx hb hts hinX8 hown hKK.1 hP 0 rfl rfl 20 (by decide) kl90 (fun _ h9 => h9) rfl dX8_takeNumber_134 ?_
              refine lv_isub hx hb dX8_takeNumber_137 ?_
              refine lv_iconst (v := 5) hx hb dX8_takeNumber_138 (by decide) ?_
              obtain ⟨J160_32, hv, hj_40⟩ := hv
              have K_33 : ∀ (t0_31 : Int32) (H : Heap) (locs : List Loc) (ls : Array Slot), J160_32 t0_31 → va_P G.1 vwCl [(m0, .inr (8, [.ref m1, .ref m2, .ref m3, .ref m4, .ref m5, .ref m6, .ref m7, .ref m8, .ref m9, .int fu, .int fd, .int fi, .int nu, .int nw, .int nf, .int bf, .int bn, .ref m10, .int ts, .int gm019_12, .int ap2_6, .int ln, .int fo2_9, .int fa2_10, .ref m11, .ref m12, .ref m13, .ref m14, .int wr])), aJ G m1 560 mw, aZ G m2 2 ik, aI G m3 20 zs, aI G m4 20 cl, aI G m5 20 hs, aI G m6 20 ks, aI G m7 20 wa, aI G m8 20 ne, aI G m9 4 mn, aI G m10 400 tx, aI G m11 6 th, aI G m12 6 od, aI G m13 30 bk, aI G m14 30 bh] H → va_D A [(m0, .inr (8, [.ref m1, .ref m2, .ref m3, .ref m4, .ref m5, .ref m6, .ref m7, .ref m8, .ref m9, .int fu, .int fd, .int fi, .int nu, .int nw, .int nf, .int bf, .int bn, .ref m10, .int ts, .int gm019_12, .int ap2_6, .int ln, .int fo2_9, .int fa2_10, .ref m11, .ref m12, .ref m13, .ref m14, .int wr])), aJ G m1 560 mw, aZ G m2 2 ik, aI G m3 20 zs, aI G m4 20 cl, aI G m5 20 hs, aI G m6 20 ks, aI G m7 20 wa, aI G m8 20 ne, aI G m9 4 mn, aI G m10 400 tx, aI G m11 6 th, aI G m12 6 od, aI G m13 30 bk, aI G m14 30 bh] → va_S A s.heap H locs → lv_has ls 6 [(4, .int x4_13), (3, .int r_5), (0, .ref m0), (1, .int x), (2, .int y)] → W p l e R s m args below meth c H locs 0 0 Q (F0 m 160 ls [.int t0_31, .ref m0]) := by
                intro t0_31 H locs ls hi hP hD hS hl
                have hv := hj_40 t0_31 hi
                refine lv_iconst (v := 2) hx hb dX8_takeNumber_160 (by decide) ?_
                refine lv_aload_n hx hb dX8_takeNumber_161 rfl (lv_at hl 2 rfl) ?_
                refine va_get (D := G.1) (ci := 8) (v := .int ap2_6) (C := RX8) (T := TX8) (N := 29) hx hb hts hinX8 hown hKK.1 hP 0 rfl rfl 20 (by decide) kl90 (fun _ h9 => h9) rfl dX8_takeNumber_162 ?_
                obtain ⟨hp, hv⟩ := hv
                refine x_calli (wr := []) (w' := fun (u : (Int32) × (Int32)) => [(m0, .inr (8, [.ref m1, .ref m2, .ref m3, .ref m4, .ref m5, .ref m6, .ref m7, .ref m8, .ref m9, .int fu, .int fd, .int fi, .int nu, .int nw, .int nf, .int bf, .int bn, .ref m10, .int ts, .int gm019_12, .int ap2_6, .int ln, .int u.1, .int u.2, .ref m11, .ref m12, .ref m13, .ref m14, .int wr])), aJ G m1 560 mw, aZ G m2 2 ik, aI G m3 20 zs, aI G m4 20 cl, aI G m5 20 hs, aI G m6 20 ks, aI G m7 20 wa, aI G m8 20 ne, aI G m9 4 mn, aI G m10 400 tx, aI G m11 6 th, aI G m12 6 od, aI G m13 30 bk, aI G m14 30 bh]) (x_runV (As := [.int t0_31, .int 2, .int ap2_6]) (rest := []) (n := 3) (C := RX8) (ci := 8) ⟨hx, hb, hml, hown, hts⟩ (k_X8_want l G m0 m1 m2 m3 m4 m5 m6 m7 m8 m9 m10 m11 m12 m13 m14 _ mw ik zs cl hs ks wa ne mn tx th od bk bh fu fd fi nu nw nf bf bn ts gm019_12 ap2_6 ln fo2_9 fa2_10 wr t0_31 2 ap2_6 hp) gX8_takeNumber_X8_want rfl (by decide +kernel) ⟨Nat.le_trans (Nat.le_of_ble_eq_true rfl) hRf, Nat.le_trans (Nat.le_of_ble_eq_true rfl) hRl⟩ hKK hSS hS hA hP hD [0, 1, 2, 3, 4, 5, 6, 7, 8, 9, 10, 11, 12, 13, 14] (by decide) rfl rfl rfl 0 rfl rfl hl.1 rfl (Nat.le_of_ble_eq_true rfl) dX8_takeNumber_165) hP hD hS hA [0, 1, 2, 3, 4, 5, 6, 7, 8, 9, 10, 11, 12, 13, 14] [] [0, 1, 2, 3, 4, 5, 6, 7, 8, 9, 10, 11, 12, 13, 14] rfl rfl (by decide) (by decide) (by decide) (fun _ => rfl) (fun r_37 u H locs hw hP hD hS => ?_)
                obtain ⟨fo2_38, fa2_39⟩ := u
                have hP : va_P G.1 vwCl [(m0, .inr (8, [.ref m1, .ref m2, .ref m3, .ref m4, .ref m5, .ref m6, .ref m7, .ref m8, .ref m9, .int fu, .int fd, .int fi, .int nu, .int nw, .int nf, .int bf, .int bn, .ref m10, .int ts, .int gm019_12, .int ap2_6, .int ln, .int fo2_38, .int fa2_39, .ref m11, .ref m12, .ref m13, .ref m14, .int wr])), aJ G m1 560 mw, aZ G m2 2 ik, aI G m3 20 zs, aI G m4 20 cl, aI G m5 20 hs, aI G m6 20 ks, aI G m7 20 wa, aI G m8 20 ne, aI G m9 4 mn, aI G m10 400 tx, aI G m11 6 th, aI G m12 6 od, aI G m13 30 bk, aI G m14 30 bh] H := hP
                have hD : va_D A [(m0, .inr (8, [.ref m1, .ref m2, .ref m3, .ref m4, .ref m5, .ref m6, .ref m7, .ref m8, .ref m9, .int fu, .int fd, .int fi, .int nu, .int nw, .int nf, .int bf, .int bn, .ref m10, .int ts, .int gm019_12, .int ap2_6, .int ln, .int fo2_38, .int fa2_39, .ref m11, .ref m12, .ref m13, .ref m14, .int wr])), aJ G m1 560 mw, aZ G m2 2 ik, aI G m3 20 zs, aI G m4 20 cl, aI G m5 20 hs, aI G m6 20 ks, aI G m7 20 wa, aI G m8 20 ne, aI G m9 4 mn, aI G m10 400 tx, aI G m11 6 th, aI G m12 6 od, aI G m13 30 bk, aI G m14 30 bh] := hD
                have hv := hv r_37 fo2_38 fa2_39 hw
                refine lv_istore (lv' := [(5, .int r_37), (4, .int x4_13), (3, .int r_5), (0, .ref m0), (1, .int x), (2, .int y)]) hx hb dX8_takeNumber_168 hl (by decide) rfl (fun ls hl => ?_)
                refine lv_iload hx hb dX8_takeNumber_170 (lv_at hl 1 rfl) ?_
                exact x_iret (v := x4_13) (gm019_12, ap2_6, fo2_38, fa2_39) hQ hx hb hr hlocks hS dX8_takeNumber_172 hv hP hD
              refine lv_icmp_ge (tgt := 159) hx hb dX8_takeNumber_139 (by decide) (fun hc_34 => ?_) (fun hc_34 => ?_)
              · have hv := hv.1 hc_34
                refine lv_iconst (v := 0) hx hb dX8_takeNumber_159 (by decide) ?_
                exact K_33 _ _ _ _ hv hP hD hS hl
              · have hv := hv.2 hc_34
                refine lv_iload hx hb dX8_takeNumber_142 (lv_at hl 0 rfl) ?_
                refine lv_i2l hx hb dX8_takeNumber_144 rfl ?_
                refine lv_iload_n hx hb dX8_takeNumber_145 rfl (lv_at hl 3 rfl) ?_
                refine lv_i2l hx hb dX8_takeNumber_146 rfl ?_
                refine lv_iload_n hx hb dX8_takeNumber_147 rfl (lv_at hl 4 rfl) ?_
                refine lv_i2l hx hb dX8_takeNumber_148 rfl ?_
                refine x_calliR (x_runS (As := [.long x4_13.toInt64, .long x.toInt64, .long y.toInt64]) (rest := [.ref m0]) (n := 3) ⟨hx, hb, hml, hown, hts⟩ (k_X8_in l G  _ x4_13.toInt64 x.toInt64 y.toInt64) gX8_takeNumber_X8_in rfl (by decide +kernel) ⟨Nat.le_trans (Nat.le_of_ble_eq_true rfl) hRf, Nat.le_trans (Nat.le_of_ble_eq_true rfl) hRl⟩ hKK hSS hS hA hP hD [] (by decide) rfl rfl hl.1 rfl (Nat.le_of_ble_eq_true rfl) dX8_takeNumber_149) hP hD hS hA [] rfl (fun r_35 _ H locs hw hP hS => ?_)
                replace hw := hw.symm; subst hw
                refine lv_if_eq (tgt := 159) hx hb dX8_takeNumber_152 (by decide) (fun hc_36 => ?_) (fun hc_36 => ?_)
                · have hv := hv.1 (tv_eq.mp hc_36)
                  refine lv_iconst (v := 0) hx hb dX8_takeNumber_159 (by decide) ?_
                  exact K_33 _ _ _ _ hv hP hD hS hl
                · have hv := hv.2 (tv_eqn.mp hc_36)
                  refine lv_iconst (v := 1) hx hb dX8_takeNumber_155 (by decide) ?_
                  refine lv_goto (tgt := 160) hx hb dX8_takeNumber_156 (by decide) ?_
                  exact K_33 _ _ _ _ hv hP hD hS hl
            · have hv := hv.2 (tv_eqn.mp hc_30)
              refine lv_iload hx hb dX8_takeNumber_83 (lv_at hl 0 rfl) ?_
              refine lv_ldc (v := 999999) hx hb hown kl108 dX8_takeNumber_85 ?_
              obtain ⟨J113_42, hv, hj_45⟩ := hv
              have K_43 : ∀ (t0_41 : Int32) (H : Heap) (locs : List Loc) (ls : Array Slot), J113_42 t0_41 → va_P G.1 vwCl [(m0, .inr (8, [.ref m1, .ref m2, .ref m3, .ref m4, .ref m5, .ref m6, .ref m7, .ref m8, .ref m9, .int fu, .int fd, .int fi, .int nu, .int nw, .int nf, .int bf, .int bn, .ref m10, .int ts, .int gm019_12, .int ap2_6, .int ln, .int fo2_9, .int fa2_10, .ref m11, .ref m12, .ref m13, .ref m14, .int wr])), aJ G m1 560 mw, aZ G m2 2 ik, aI G m3 20 zs, aI G m4 20 cl, aI G m5 20 hs, aI G m6 20 ks, aI G m7 20 wa, aI G m8 20 ne, aI G m9 4 mn, aI G m10 400 tx, aI G m11 6 th, aI G m12 6 od, aI G m13 30 bk, aI G m14 30 bh] H → va_D A [(m0, .inr (8, [.ref m1, .ref m2, .ref m3, .ref m4, .ref m5, .ref m6, .ref m7, .ref m8, .ref m9, .int fu, .int fd, .int fi, .int nu, .int nw, .int nf, .int bf, .int bn, .ref m10, .int ts, .int gm019_12, .int ap2_6, .int ln, .int fo2_9, .int fa2_10, .ref m11, .ref m12, .ref m13, .ref m14, .int wr])), aJ G m1 560 mw, aZ G m2 2 ik, aI G m3 20 zs, aI G m4 20 cl, aI G m5 20 hs, aI G m6 20 ks, aI G m7 20 wa, aI G m8 20 ne, aI G m9 4 mn, aI G m10 400 tx, aI G m11 6 th, aI G m12 6 od, aI G m13 30 bk, aI G m14 30 bh] → va_S A s.heap H locs → lv_has ls 6 [(4, .int x4_13), (3, .int r_5), (0, .ref m0), (1, .int x), (2, .int y)] → W p l e R s m args below meth c H locs 0 0 Q (F0 m 113 ls [.int t0_41]) := by
                intro t0_41 H locs ls hi hP hD hS hl
                have hv := hj_45 t0_41 hi
                refine lv_istore (lv' := [(4, .int t0_41), (3, .int r_5), (0, .ref m0), (1, .int x), (2, .int y)]) hx hb dX8_takeNumber_113 hl (by decide) rfl (fun ls hl => ?_)
                refine lv_aload_n hx hb dX8_takeNumber_115 rfl (lv_at hl 2 rfl) ?_
                refine lv_dup hx hb dX8_takeNumber_116 rfl ?_
                refine va_get (D := G.1) (ci := 8) (v := .int gm019_12) (C := RX8) (T := TX8) (N := 29) hx hb hts hinX8 hown hKK.1 hP 0 rfl rfl 19 (by decide) kl80 (fun _ h9 => h9) rfl dX8_takeNumber_117 ?_
                refine lv_iconst (v := 1) hx hb dX8_takeNumber_120 (by decide) ?_
                refine lv_iadd hx hb dX8_takeNumber_121 ?_
                refine va_put (D := G.1) (ci := 8) (v := .int (gm019_12 + 1)) (ty := .int) (C := RX8) (T := TX8) (N := 29) hx hb hts hinX8 tyX8 tyX8_ok nmX8 hown hKK.1 hP hD hS 0 rfl rfl 19 (by decide) kl80 (fun _ h9 => h9) rfl (by decide +kernel) rfl rfl (Nat.le_of_ble_eq_true rfl) dX8_takeNumber_122 (fun H locs hP hD hS => ?_)
                have hP : va_P G.1 vwCl [(m0, .inr (8, [.ref m1, .ref m2, .ref m3, .ref m4, .ref m5, .ref m6, .ref m7, .ref m8, .ref m9, .int fu, .int fd, .int fi, .int nu, .int nw, .int nf, .int bf, .int bn, .ref m10, .int ts, .int (gm019_12 + 1), .int ap2_6, .int ln, .int fo2_9, .int fa2_10, .ref m11, .ref m12, .ref m13, .ref m14, .int wr])), aJ G m1 560 mw, aZ G m2 2 ik, aI G m3 20 zs, aI G m4 20 cl, aI G m5 20 hs, aI G m6 20 ks, aI G m7 20 wa, aI G m8 20 ne, aI G m9 4 mn, aI G m10 400 tx, aI G m11 6 th, aI G m12 6 od, aI G m13 30 bk, aI G m14 30 bh] H := hP
                have hD : va_D A [(m0, .inr (8, [.ref m1, .ref m2, .ref m3, .ref m4, .ref m5, .ref m6, .ref m7, .ref m8, .ref m9, .int fu, .int fd, .int fi, .int nu, .int nw, .int nf, .int bf, .int bn, .ref m10, .int ts, .int (gm019_12 + 1), .int ap2_6, .int ln, .int fo2_9, .int fa2_10, .ref m11, .ref m12, .ref m13, .ref m14, .int wr])), aJ G m1 560 mw, aZ G m2 2 ik, aI G m3 20 zs, aI G m4 20 cl, aI G m5 20 hs, aI G m6 20 ks, aI G m7 20 wa, aI G m8 20 ne, aI G m9 4 mn, aI G m10 400 tx, aI G m11 6 th, aI G m12 6 od, aI G m13 30 bk, aI G m14 30 bh] := hD
                refine lv_goto (tgt := 50) hx hb dX8_takeNumber_125 (by decide) ?_
                exact ih_16 _ _ _ _ _ (Nat.lt_of_lt_of_le hv.2 (Nat.le_of_lt_succ hI_17)) hv.1 hP hD hS hl
              refine lv_icmp_le (tgt := 95) hx hb dX8_takeNumber_87 (by decide) (fun hc_44 => ?_) (fun hc_44 => ?_)
              · have hv := hv.1 hc_44
                refine lv_bipush (v := 10) hx hb dX8_takeNumber_95 (by decide) ?_
                refine lv_iload hx hb dX8_takeNumber_97 (lv_at hl 0 rfl) ?_
                refine lv_imul hx hb dX8_takeNumber_99 ?_
                refine lv_aload_n hx hb dX8_takeNumber_100 rfl (lv_at hl 2 rfl) ?_
                refine va_get (D := G.1) (ci := 8) (v := .ref m10) (C := RX8) (T := TX8) (N := 29) hx hb hts hinX8 hown hKK.1 hP 0 rfl rfl 17 (by decide) kl46 (fun _ h9 => h9) rfl dX8_takeNumber_101 ?_
                refine lv_aload_n hx hb dX8_takeNumber_104 rfl (lv_at hl 2 rfl) ?_
                refine va_get (D := G.1) (ci := 8) (v := .int gm019_12) (C := RX8) (T := TX8) (N := 29) hx hb hts hinX8 hown hKK.1 hP 0 rfl rfl 19 (by decide) kl80 (fun _ h9 => h9) rfl dX8_takeNumber_105 ?_
                obtain ⟨hin, hv⟩ := hv
                refine va_iald hx hb hKK.1 hP 10 0 rfl rfl hin dX8_takeNumber_108 ?_
                refine lv_iadd hx hb dX8_takeNumber_109 ?_
                refine lv_bipush (v := 48) hx hb dX8_takeNumber_110 (by decide) ?_
                refine lv_isub hx hb dX8_takeNumber_112 ?_
                exact K_43 _ _ _ _ hv hP hD hS hl
              · have hv := hv.2 hc_44
                refine lv_iload hx hb dX8_takeNumber_90 (lv_at hl 0 rfl) ?_
                refine lv_goto (tgt := 113) hx hb dX8_takeNumber_92 (by decide) ?_
                exact K_43 _ _ _ _ hv hP hD hS hl
      exact Lm_48 _ _ _ _ _ _ (Nat.lt_succ_self _) hi0 hP hD hS hl
    · have hv := hv.2 hc_11
      refine lv_iconst (v := 0) hx hb dX8_takeNumber_45 (by decide) ?_
      exact x_iret (v := 0) (ap2_6, ap2_6, fo2_9, fa2_10) hQ hx hb hr hlocks hS dX8_takeNumber_46 hv hP hD
  · have hv := hv.2 hc_1
    refine lv_iconst (v := 0) hx hb dX8_takeNumber_7 (by decide) ?_
    exact x_iret (v := 0) (ap, fs, fo, fa) hQ hx hb hr hlocks hS dX8_takeNumber_8 hv hP hD
theorem v_X8_takeNumber (l : Launch) (G : Gt) (m0 m1 m2 m3 m4 m5 m6 m7 m8 m9 m10 m11 m12 m13 m14 : Nat) (sz : Nat) (mw : Nat → Int64) (ik : Nat → Int32) (zs : Nat → Int32) (cl : Nat → Int32) (hs : Nat → Int32) (ks : Nat → Int32) (wa : Nat → Int32) (ne : Nat → Int32) (mn : Nat → Int32) (tx : Nat → Int32) (th : Nat → Int32) (od : Nat → Int32) (bk : Nat → Int32) (bh : Nat → Int32) (fu : Int32) (fd : Int32) (fi : Int32) (nu : Int32) (nw : Int32) (nf : Int32) (bf : Int32) (bn : Int32) (ts : Int32) (ap : Int32) (fs : Int32) (ln : Int32) (fo : Int32) (fa : Int32) (wr : Int32) (x : Int32) (y : Int32) (B : Nat → Int) (L : Nat) (st : Flt ⊕ Nat) (hp : MX B L tx ts ∧ CSs L st fo fa ap) : (fo ≤ 0 → ∃ (gB_2 : Nat → Int) (gL_3 : Nat) (gaq_4 : Nat), ((MX gB_2 gL_3 tx ts ∧ ap = nI gaq_4 ∧ gaq_4 ≤ gL_3) ∧ (∀ (r_5 : Int32) (ap2_6 : Int32), (ap2_6 = nI (sk gB_2 gL_3 gaq_4) ∧ r_5.toInt = (if sk gB_2 gL_3 gaq_4 < gL_3 then gB_2 (sk gB_2 gL_3 gaq_4) else -1)) → ((¬ (1 : Int32) = 0) ∧ (∀ (r_8 : Int32) (fo2_9 : Int32) (fa2_10 : Int32), (((fo = 0 ∧ ¬ ((if ¬ r_5.toInt64 < 48 ∧ ¬ 57 < r_5.toInt64 then 1 else 0) : Int32) = 0 ∧ r_8 = 1 ∧ fo2_9 = fo ∧ fa2_10 = fa) ∨ (fo = 0 ∧ ((if ¬ r_5.toInt64 < 48 ∧ ¬ 57 < r_5.toInt64 then 1 else 0) : Int32) = 0 ∧ r_8 = 0 ∧ fo2_9 = (1 : Int32) ∧ fa2_10 = ap2_6) ∨ (¬ fo = 0 ∧ r_8 = 0 ∧ fo2_9 = fo ∧ fa2_10 = fa))) → ((¬ r_8 = 0 → ∃ (I50_14 : Int32 → Int32 → Prop) (μ50_15 : Int32 → Int32 → Nat), I50_14 ap2_6 0 ∧ (∀ (gm019_12 : Int32) (x4_13 : Int32), I50_14 gm019_12 x4_13 → (ts ≤ gm019_12 → ∃ (J160_20 : Int32 → Prop), ((5 ≤ (gm019_12 - ap2_6) → J160_20 0) ∧ (¬ (5 ≤ (gm019_12 - ap2_6)) → (¬ (¬ x4_13.toInt64 < x.toInt64 ∧ ¬ y.toInt64 < x4_13.toInt64) → J160_20 0) ∧ (¬ x4_13.toInt64 < x.toInt64 ∧ ¬ y.toInt64 < x4_13.toInt64 → J160_20 1))) ∧ (∀ (t0_19 : Int32), J160_20 t0_19 → (¬ (2 : Int32) = 0) ∧ (∀ (r_25 : Int32) (fo2_26 : Int32) (fa2_27 : Int32), (((fo2_9 = 0 ∧ ¬ t0_19 = 0 ∧ r_25 = 1 ∧ fo2_26 = fo2_9 ∧ fa2_27 = fa2_10) ∨ (fo2_9 = 0 ∧ t0_19 = 0 ∧ r_25 = 0 ∧ fo2_26 = (2 : Int32) ∧ fa2_27 = ap2_6) ∨ (¬ fo2_9 = 0 ∧ r_25 = 0 ∧ fo2_26 = fo2_9 ∧ fa2_27 = fa2_10))) → (CSn L (bnd st (nuR B L x.toInt y.toInt)) x4_13 fo2_26 fa2_27 gm019_12 ap2_6)))) ∧ (¬ (ts ≤ gm019_12) → (vp_in gm019_12 400) ∧ ((¬ (¬ ((tx gm019_12.toNatClampNeg).toInt64) < 48 ∧ ¬ 57 < ((tx gm019_12.toNatClampNeg).toInt64)) → ∃ (J160_32 : Int32 → Prop), ((5 ≤ (gm019_12 - ap2_6) → J160_32 0) ∧ (¬ (5 ≤ (gm019_12 - ap2_6)) → (¬ (¬ x4_13.toInt64 < x.toInt64 ∧ ¬ y.toInt64 < x4_13.toInt64) → J160_32 0) ∧ (¬ x4_13.toInt64 < x.toInt64 ∧ ¬ y.toInt64 < x4_13.toInt64 → J160_32 1))) ∧ (∀ (t0_31 : Int32), J160_32 t0_31 → (¬ (2 : Int32) = 0) ∧ (∀ (r_37 : Int32) (fo2_38 : Int32) (fa2_39 : Int32), (((fo2_9 = 0 ∧ ¬ t0_31 = 0 ∧ r_37 = 1 ∧ fo2_38 = fo2_9 ∧ fa2_39 = fa2_10) ∨ (fo2_9 = 0 ∧ t0_31 = 0 ∧ r_37 = 0 ∧ fo2_38 = (2 : Int32) ∧ fa2_39 = ap2_6) ∨ (¬ fo2_9 = 0 ∧ r_37 = 0 ∧ fo2_38 = fo2_9 ∧ fa2_39 = fa2_10))) → (CSn L (bnd st (nuR B L x.toInt y.toInt)) x4_13 fo2_38 fa2_39 gm019_12 ap2_6)))) ∧ (¬ ((tx gm019_12.toNatClampNeg).toInt64) < 48 ∧ ¬ 57 < ((tx gm019_12.toNatClampNeg).toInt64) → ∃ (J113_42 : Int32 → Prop), ((x4_13 ≤ 999999 → (vp_in gm019_12 400) ∧ (J113_42 (((10 * x4_13) + (tx gm019_12.toNatClampNeg)) - 48))) ∧ (¬ (x4_13 ≤ 999999) → J113_42 x4_13)) ∧ (∀ (t0_41 : Int32), J113_42 t0_41 → I50_14 (gm019_12 + 1) t0_41 ∧ μ50_15 (gm019_12 + 1) t0_41 < μ50_15 gm019_12 x4_13)))))) ∧ (r_8 = 0 → CSn L (bnd st (nuR B L x.toInt y.toInt)) (0 : Int32) fo2_9 fa2_10 ap2_6 ap2_6))))))) ∧ (¬ (fo ≤ 0) → CSn L (bnd st (nuR B L x.toInt y.toInt)) (0 : Int32) fo fa ap fs) := by
  obtain ⟨hX, hS⟩ := hp
  have hL := hX.1
  have hxl := hX.2.1
  cases st with
  | inl f =>
    have h : CSf L f fo fa ap := hS
    exact ⟨fun q => absurd q (CSf.pos h), fun _ => h⟩
  | inr aq =>
    obtain ⟨ha, rfl, rfl, rfl⟩ := hS
    have hs := sk_L (B := B) ha
    refine ⟨fun _ => ⟨B, L, aq, ⟨hX, rfl, ha⟩, fun r z hz => ?_⟩, fun q => absurd (by decide) q⟩
    obtain ⟨rfl, hr⟩ := hz
    refine ⟨by decide, fun r1 fo1 fa1 hw1 => ?_⟩
    have hdi : (¬ r.toInt64 < 48 ∧ ¬ 57 < r.toInt64) ↔ (sk B L aq < L ∧ isDi B (sk B L aq) = true) := by
      rw [l_lt (i_l hr) (show (48 : Int64).toInt = 48 from rfl), l_lt (show (57 : Int64).toInt = 57 from rfl) (i_l hr)]
      by_cases g : sk B L aq < L
      · rw [if_pos g]
        unfold isDi
        rw [decide_eq_true_iff]
        omega
      · rw [if_neg g]
        exact ⟨fun z => absurd (z.1 (by decide)) (fun h => h), fun z => absurd z.1 g⟩
    by_cases g0 : sk B L aq < L ∧ isDi B (sk B L aq) = true
    · obtain ⟨hr1, hfo1, hfa1⟩ := want_ok hw1 rfl (tv_eqn.mpr (hdi.mpr g0))
      refine ⟨fun _ => ?_, fun z => absurd (hr1.symm.trans z) (by decide)⟩
      have hgo : dE B L (sk B L aq + 1) = dE B L (sk B L aq) := run_go g0.1 g0.2
      have hne0 : sk B L aq + 1 ≤ dE B L (sk B L aq) := by rw [← hgo]; exact dE_le
      have hne : ¬ dE B L (sk B L aq) = sk B L aq := by omega
      refine ⟨fun z v => ∃ e, z = nI e ∧ e ≤ L ∧ sk B L aq ≤ e ∧ dE B L e = dE B L (sk B L aq) ∧ (e - sk B L aq ≤ 4 → v.toInt = vaZ B (sk B L aq) (e - sk B L aq)) ∧ ∀ i, sk B L aq ≤ i → i < e → isDi B i = true, fun z _ => 401 - z.toNatClampNeg, ⟨sk B L aq, rfl, hs, Nat.le_refl _, rfl, fun _ => by rw [Nat.sub_self]; rfl, fun i h1 h2 => absurd h2 (by omega)⟩, ?_⟩
      rintro z v ⟨e, rfl, heL, hte, hd, hv, hall⟩
      have ea : (nI e).toNatClampNeg = e := nI_clamp (by omega)
      have ea1 : nI e + 1 = nI (e + 1) := nI_1 e
      have ea2 : (nI (e + 1)).toNatClampNeg = e + 1 := nI_clamp (by omega)
      have hle : nI L ≤ nI e ↔ L ≤ e := nI_leI (by omega) (by omega)
      simp only [ea, ea1, ea2, hxl, hle]
      refine ⟨fun q => ?_, fun q => ⟨vp_in_nI (by omega) (by omega), fun h1 => ?_, fun h1 => ?_⟩⟩
      · have hst : ¬ (e < L ∧ isDi B e = true) := fun z => absurd z.1 (by omega)
        have hne : ¬ e = sk B L aq := fun z => hst (by rw [z]; exact g0)
        have hE : dE B L (sk B L aq) = e := by rw [← hd]; unfold dE; rw [run_end hst]
        have e2 : (5 : Int32) ≤ nI e - nI (sk B L aq) ↔ 4 < e - sk B L aq := by rw [nI_sub hte (by omega), show (5 : Int32) = nI 5 from rfl, nI_leI (by omega) (by omega)]; omega
        rw [e2]
        refine ⟨fun t => t = (if 4 < e - sk B L aq ∨ ¬ (x.toInt ≤ vaZ B (sk B L aq) (e - sk B L aq) ∧ vaZ B (sk B L aq) (e - sk B L aq) ≤ y.toInt) then 0 else 1), ⟨fun n2 => by rw [if_pos (Or.inl n2)], fun n2 => ?_⟩, fun t ht => ⟨by decide, fun r2 fo2 fa2 hw2 => ?_⟩⟩
        · have ev := hv (by omega)
          have hw_ : (¬ v.toInt64 < x.toInt64 ∧ ¬ y.toInt64 < v.toInt64) ↔ (x.toInt ≤ vaZ B (sk B L aq) (e - sk B L aq) ∧ vaZ B (sk B L aq) (e - sk B L aq) ≤ y.toInt) := by
            rw [l_lt (i_l ev) (i_l rfl), l_lt (i_l rfl) (i_l ev)]; omega
          rw [hw_]
          exact ⟨fun n3 => by rw [if_pos (Or.inr n3)], fun n3 => by rw [if_neg (fun z => z.elim n2 (fun z => z n3))]⟩
        · show CSn L (nuR B L x.toInt y.toInt aq) _ _ _ _ _
          rw [nuR, hE, if_neg hne]
          by_cases g : 4 < e - sk B L aq ∨ ¬ (x.toInt ≤ vaZ B (sk B L aq) (e - sk B L aq) ∧ vaZ B (sk B L aq) (e - sk B L aq) ≤ y.toInt)
          · rw [if_pos g] at ht ⊢
            obtain ⟨w1, rfl, rfl⟩ := want_no hw2 hfo1 ht
            exact CSf.mk (f := 2) (by decide) (by decide) heL
          · rw [if_neg g] at ht ⊢
            obtain ⟨w1, w2, w3⟩ := want_ok hw2 hfo1 (by rw [ht]; decide)
            exact ⟨⟨heL, w2.trans hfo1, w3.trans hfa1, rfl⟩, rfl, hv (by omega)⟩
      · have hb := hX.rg (i := e) (by omega) 48 57
        have hst : ¬ (e < L ∧ isDi B e = true) := fun z => h1 (hb.mpr (of_decide_eq_true z.2))
        have hne : ¬ e = sk B L aq := fun z => hst (by rw [z]; exact g0)
        have hE : dE B L (sk B L aq) = e := by rw [← hd]; unfold dE; rw [run_end hst]
        have e2 : (5 : Int32) ≤ nI e - nI (sk B L aq) ↔ 4 < e - sk B L aq := by rw [nI_sub hte (by omega), show (5 : Int32) = nI 5 from rfl, nI_leI (by omega) (by omega)]; omega
        rw [e2]
        refine ⟨fun t => t = (if 4 < e - sk B L aq ∨ ¬ (x.toInt ≤ vaZ B (sk B L aq) (e - sk B L aq) ∧ vaZ B (sk B L aq) (e - sk B L aq) ≤ y.toInt) then 0 else 1), ⟨fun n2 => by rw [if_pos (Or.inl n2)], fun n2 => ?_⟩, fun t ht => ⟨by decide, fun r2 fo2 fa2 hw2 => ?_⟩⟩
        · have ev := hv (by omega)
          have hw_ : (¬ v.toInt64 < x.toInt64 ∧ ¬ y.toInt64 < v.toInt64) ↔ (x.toInt ≤ vaZ B (sk B L aq) (e - sk B L aq) ∧ vaZ B (sk B L aq) (e - sk B L aq) ≤ y.toInt) := by
            rw [l_lt (i_l ev) (i_l rfl), l_lt (i_l rfl) (i_l ev)]; omega
          rw [hw_]
          exact ⟨fun n3 => by rw [if_pos (Or.inr n3)], fun n3 => by rw [if_neg (fun z => z.elim n2 (fun z => z n3))]⟩
        · show CSn L (nuR B L x.toInt y.toInt aq) _ _ _ _ _
          rw [nuR, hE, if_neg hne]
          by_cases g : 4 < e - sk B L aq ∨ ¬ (x.toInt ≤ vaZ B (sk B L aq) (e - sk B L aq) ∧ vaZ B (sk B L aq) (e - sk B L aq) ≤ y.toInt)
          · rw [if_pos g] at ht ⊢
            obtain ⟨w1, rfl, rfl⟩ := want_no hw2 hfo1 ht
            exact CSf.mk (f := 2) (by decide) (by decide) heL
          · rw [if_neg g] at ht ⊢
            obtain ⟨w1, w2, w3⟩ := want_ok hw2 hfo1 (by rw [ht]; decide)
            exact ⟨⟨heL, w2.trans hfo1, w3.trans hfa1, rfl⟩, rfl, hv (by omega)⟩
      · have hb := (hX.rg (i := e) (by omega) 48 57).mp h1
        have hdi2 : isDi B e = true := decide_eq_true hb
        have hall2 : ∀ i, sk B L aq ≤ i → i < e + 1 → isDi B i = true := fun i g1 g2 => by
          by_cases u : i = e
          · rw [u]; exact hdi2
          · exact hall i g1 (by omega)
        have bx := hX.2.2 e (by omega)
        have hb1 : (48 : Int64).toInt ≤ B e := hb.1
        have hb2 : B e ≤ (57 : Int64).toInt := hb.2
        have c48 : (48 : Int64).toInt = 48 := rfl
        have c57 : (57 : Int64).toInt = 57 := rfl
        have c9 : (999999 : Int32).toInt = 999999 := rfl
        refine ⟨fun t => e + 1 - sk B L aq ≤ 4 → t.toInt = vaZ B (sk B L aq) (e + 1 - sk B L aq), ⟨fun g => ⟨vp_in_nI (by omega) (by omega), fun h4 => ?_⟩, fun g => fun h4 => ?_⟩, fun t ht => ⟨⟨e + 1, rfl, by omega, by omega, by rw [← hd]; exact run_go (by omega) hdi2, ht, hall2⟩, by omega⟩⟩
        · have ev := hv (by omega)
          have bv := vaZ_4 (B := B) (t := sk B L aq) (k := e - sk B L aq) (by omega) (fun i hi => hall _ (by omega) (by omega))
          rw [show e + 1 - sk B L aq = e - sk B L aq + 1 by omega, vaZ, show sk B L aq + (e - sk B L aq) = e by omega]
          rw [i_sub (i_add (i_mul (show (10 : Int32).toInt = 10 from rfl) ev (by omega) (by omega)) bx.2.2 (by omega) (by omega)) (show (48 : Int32).toInt = 48 from rfl) (by omega) (by omega)]
          omega
        · have ev := hv (by omega)
          have bv := vaZ_4 (B := B) (t := sk B L aq) (k := e - sk B L aq) (by omega) (fun i hi => hall _ (by omega) (by omega))
          exact absurd ((i_le ev c9).mpr (by omega)) g
    · obtain ⟨rfl, rfl, rfl⟩ := want_no hw1 rfl (tv_eq.mpr (fun z => g0 (hdi.mp z)))
      refine ⟨fun z => absurd rfl z, fun _ => ?_⟩
      show CSn L (nuR B L x.toInt y.toInt aq) _ _ _ _ _
      rw [nuR, if_pos (show dE B L (sk B L aq) = sk B L aq from run_end g0)]
      exact CSf.mk (f := 1) (by decide) (by decide) hs
theorem k_X8_takeNumber (l : Launch) (G : Gt) (m0 m1 m2 m3 m4 m5 m6 m7 m8 m9 m10 m11 m12 m13 m14 : Nat) (sz : Nat) (mw : Nat → Int64) (ik : Nat → Int32) (zs : Nat → Int32) (cl : Nat → Int32) (hs : Nat → Int32) (ks : Nat → Int32) (wa : Nat → Int32) (ne : Nat → Int32) (mn : Nat → Int32) (tx : Nat → Int32) (th : Nat → Int32) (od : Nat → Int32) (bk : Nat → Int32) (bh : Nat → Int32) (fu : Int32) (fd : Int32) (fi : Int32) (nu : Int32) (nw : Int32) (nf : Int32) (bf : Int32) (bn : Int32) (ts : Int32) (ap : Int32) (fs : Int32) (ln : Int32) (fo : Int32) (fa : Int32) (wr : Int32) (x : Int32) (y : Int32) (B : Nat → Int) (L : Nat) (st : Flt ⊕ Nat) (hp : MX B L tx ts ∧ CSs L st fo fa ap) : MetI l yX8_takeNumber wsX8_takeNumber 1 25 G [.ref m0, .int x, .int y] [(m0, .inr (8, [.ref m1, .ref m2, .ref m3, .ref m4, .ref m5, .ref m6, .ref m7, .ref m8, .ref m9, .int fu, .int fd, .int fi, .int nu, .int nw, .int nf, .int bf, .int bn, .ref m10, .int ts, .int ap, .int fs, .int ln, .int fo, .int fa, .ref m11, .ref m12, .ref m13, .ref m14, .int wr])), aJ G m1 560 mw, aZ G m2 2 ik, aI G m3 20 zs, aI G m4 20 cl, aI G m5 20 hs, aI G m6 20 ks, aI G m7 20 wa, aI G m8 20 ne, aI G m9 4 mn, aI G m10 400 tx, aI G m11 6 th, aI G m12 6 od, aI G m13 30 bk, aI G m14 30 bh] sz (fun (r : Int32) (u : (Int32) × (Int32) × (Int32) × (Int32)) => CSn L (bnd st (nuR B L x.toInt y.toInt)) r u.2.2.1 u.2.2.2 u.1 u.2.1) (fun (u : (Int32) × (Int32) × (Int32) × (Int32)) => [(m0, .inr (8, [.ref m1, .ref m2, .ref m3, .ref m4, .ref m5, .ref m6, .ref m7, .ref m8, .ref m9, .int fu, .int fd, .int fi, .int nu, .int nw, .int nf, .int bf, .int bn, .ref m10, .int ts, .int u.1, .int u.2.1, .int ln, .int u.2.2.1, .int u.2.2.2, .ref m11, .ref m12, .ref m13, .ref m14, .int wr])), aJ G m1 560 mw, aZ G m2 2 ik, aI G m3 20 zs, aI G m4 20 cl, aI G m5 20 hs, aI G m6 20 ks, aI G m7 20 wa, aI G m8 20 ne, aI G m9 4 mn, aI G m10 400 tx, aI G m11 6 th, aI G m12 6 od, aI G m13 30 bk, aI G m14 30 bh]) :=
  c_X8_takeNumber l G m0 m1 m2 m3 m4 m5 m6 m7 m8 m9 m10 m11 m12 m13 m14 sz mw ik zs cl hs ks wa ne mn tx th od bk bh fu fd fi nu nw nf bf bn ts ap fs ln fo fa wr x y B L st (v_X8_takeNumber l G m0 m1 m2 m3 m4 m5 m6 m7 m8 m9 m10 m11 m12 m13 m14 sz mw ik zs cl hs ks wa ne mn tx th od bk bh fu fd fi nu nw nf bf bn ts ap fs ln fo fa wr x y B L st hp)

set_option maxHeartbeats 4000000 in
set_option maxRecDepth 100000 in
theorem c_X8_takeStone (l : Launch) (G : Gt) (m0 m1 m2 m3 m4 m5 m6 m7 m8 m9 m10 m11 m12 m13 m14 : Nat) (sz : Nat) (mw : Nat → Int64) (ik : Nat → Int32) (zs : Nat → Int32) (cl : Nat → Int32) (hs : Nat → Int32) (ks : Nat → Int32) (wa : Nat → Int32) (ne : Nat → Int32) (mn : Nat → Int32) (tx : Nat → Int32) (th : Nat → Int32) (od : Nat → Int32) (bk : Nat → Int32) (bh : Nat → Int32) (fu : Int32) (fd : Int32) (fi : Int32) (nu : Int32) (nw : Int32) (nf : Int32) (bf : Int32) (bn : Int32) (ts : Int32) (ap : Int32) (fs : Int32) (ln : Int32) (fo : Int32) (fa : Int32) (wr : Int32) (x : Int32) (B : Nat → Int) (L : Nat) (aq : Nat) (wq : Nat) (tq : PTn) (hv : ∃ (J17_2 : Int32 → Prop), ((9 ≤ (mn 2) → J17_2 0) ∧ (¬ (9 ≤ (mn 2)) → J17_2 1)) ∧ (∀ (t0_1 : Int32), J17_2 t0_1 → (¬ (3 : Int32) = 0) ∧ (∀ (r_5 : Int32) (fo2_6 : Int32) (fa2_7 : Int32), (((fo = 0 ∧ ¬ t0_1 = 0 ∧ r_5 = 1 ∧ fo2_6 = fo ∧ fa2_7 = fa) ∨ (fo = 0 ∧ t0_1 = 0 ∧ r_5 = 0 ∧ fo2_6 = (3 : Int32) ∧ fa2_7 = x) ∨ (¬ fo = 0 ∧ r_5 = 0 ∧ fo2_6 = fo ∧ fa2_7 = fa))) → ((r_5 = 0 → MP L (stC B L wq aq tq) fo2_6 fa2_7 ap zs cl hs ks wa ne mn nu nw nf bf bn ∧ fr10 zs zs ∧ fr10 cl cl ∧ fr10 hs hs ∧ fr2 mn mn) ∧ (¬ (r_5 = 0) → ∀ (y_9 : Int32), (y_9 = (10 + (mn 2))) → (∃ (gB_10 : Nat → Int) (gL_11 : Nat) (gst_12 : Flt ⊕ Nat), ((MX gB_10 gL_11 tx ts ∧ CSs gL_11 gst_12 fo2_6 fa2_7 ap) ∧ (∀ (r_13 : Int32) (ap2_14 : Int32) (fs2_15 : Int32) (fo2_16 : Int32) (fa2_17 : Int32), (CSn gL_11 (bnd gst_12 (nuR gB_10 gL_11 (1 : Int32).toInt (9999 : Int32).toInt)) r_13 fo2_16 fa2_17 ap2_14 fs2_15) → ((vp_in y_9 20) ∧ (∀ (fm3_18 : (Nat → Int32)), (fm3_18 = (upd zs y_9.toNatClampNeg r_13)) → (∃ (gB_19 : Nat → Int) (gL_20 : Nat) (gst_21 : Flt ⊕ Nat), ((MX gB_19 gL_20 tx ts ∧ CSs gL_20 gst_21 fo2_16 fa2_17 ap2_14) ∧ (∀ (r_22 : Int32) (ap2_23 : Int32) (fs2_24 : Int32) (fo2_25 : Int32) (fa2_26 : Int32), (CSn gL_20 (bnd gst_21 (nuR gB_19 gL_20 (2 : Int32).toInt (999 : Int32).toInt)) r_22 fo2_25 fa2_26 ap2_23 fs2_24) → ((vp_in y_9 20) ∧ (∀ (fm4_27 : (Nat → Int32)), (fm4_27 = (upd cl y_9.toNatClampNeg r_22)) → (∃ (gB_28 : Nat → Int) (gL_29 : Nat) (gst_30 : Flt ⊕ Nat), ((MX gB_28 gL_29 tx ts ∧ CSs gL_29 gst_30 fo2_25 fa2_26 ap2_23) ∧ (∀ (r_31 : Int32) (ap2_32 : Int32) (fs2_33 : Int32) (fo2_34 : Int32) (fa2_35 : Int32), (CSn gL_29 (bnd gst_30 (nuR gB_28 gL_29 (0 : Int32).toInt (9999 : Int32).toInt)) r_31 fo2_34 fa2_35 ap2_32 fs2_33) → ((vp_in y_9 20) ∧ (∀ (fm5_36 : (Nat → Int32)), (fm5_36 = (upd hs y_9.toNatClampNeg r_31)) → ((vp_in y_9 20) ∧ ((vp_in y_9 20) ∧ (∃ (J98_38 : Int32 → Prop), (((fm3_18 y_9.toNatClampNeg) < (fm5_36 y_9.toNatClampNeg) → J98_38 0) ∧ (¬ ((fm3_18 y_9.toNatClampNeg) < (fm5_36 y_9.toNatClampNeg)) → J98_38 1)) ∧ (∀ (t0_37 : Int32), J98_38 t0_37 → (¬ (4 : Int32) = 0) ∧ (∀ (r_41 : Int32) (fo2_42 : Int32) (fa2_43 : Int32), (((fo2_34 = 0 ∧ ¬ t0_37 = 0 ∧ r_41 = 1 ∧ fo2_42 = fo2_34 ∧ fa2_43 = fa2_35) ∨ (fo2_34 = 0 ∧ t0_37 = 0 ∧ r_41 = 0 ∧ fo2_42 = (4 : Int32) ∧ fa2_43 = fs2_33) ∨ (¬ fo2_34 = 0 ∧ r_41 = 0 ∧ fo2_42 = fo2_34 ∧ fa2_43 = fa2_35))) → (∀ (fm9_44 : (Nat → Int32)), (fm9_44 = (upd mn 2 ((mn 2) + 1))) → (MP L (stC B L wq aq tq) fo2_42 fa2_43 ap2_32 fm3_18 fm4_27 fm5_36 ks wa ne fm9_44 nu nw nf bf bn ∧ fr10 zs fm3_18 ∧ fr10 cl fm4_27 ∧ fr10 hs fm5_36 ∧ fr2 mn fm9_44))))))))))))))))))))))))))) : MetV l yX8_takeStone wsX8_takeStone 2 50 G [.ref m0, .int x] [(m0, .inr (8, [.ref m1, .ref m2, .ref m3, .ref m4, .ref m5, .ref m6, .ref m7, .ref m8, .ref m9, .int fu, .int fd, .int fi, .int nu, .int nw, .int nf, .int bf, .int bn, .ref m10, .int ts, .int ap, .int fs, .int ln, .int fo, .int fa, .ref m11, .ref m12, .ref m13, .ref m14, .int wr])), aJ G m1 560 mw, aZ G m2 2 ik, aI G m3 20 zs, aI G m4 20 cl, aI G m5 20 hs, aI G m6 20 ks, aI G m7 20 wa, aI G m8 20 ne, aI G m9 4 mn, aI G m10 400 tx, aI G m11 6 th, aI G m12 6 od, aI G m13 30 bk, aI G m14 30 bh] sz (fun (u : (Nat → Int32) × (Nat → Int32) × (Nat → Int32) × (Nat → Int32) × (Int32) × (Int32) × (Int32) × (Int32)) => MP L (stC B L wq aq tq) u.2.2.2.2.2.2.1 u.2.2.2.2.2.2.2 u.2.2.2.2.1 u.1 u.2.1 u.2.2.1 ks wa ne u.2.2.2.1 nu nw nf bf bn ∧ fr10 zs u.1 ∧ fr10 cl u.2.1 ∧ fr10 hs u.2.2.1 ∧ fr2 mn u.2.2.2.1) (fun (u : (Nat → Int32) × (Nat → Int32) × (Nat → Int32) × (Nat → Int32) × (Int32) × (Int32) × (Int32) × (Int32)) => [(m0, .inr (8, [.ref m1, .ref m2, .ref m3, .ref m4, .ref m5, .ref m6, .ref m7, .ref m8, .ref m9, .int fu, .int fd, .int fi, .int nu, .int nw, .int nf, .int bf, .int bn, .ref m10, .int ts, .int u.2.2.2.2.1, .int u.2.2.2.2.2.1, .int ln, .int u.2.2.2.2.2.2.1, .int u.2.2.2.2.2.2.2, .ref m11, .ref m12, .ref m13, .ref m14, .int wr])), aJ G m1 560 mw, aZ G m2 2 ik, aI G m3 20 u.1, aI G m4 20 u.2.1, aI G m5 20 u.2.2.1, aI G m6 20 ks, aI G m7 20 wa, aI G m8 20 ne, aI G m9 4 u.2.2.2.1, aI G m10 400 tx, aI G m11 6 th, aI G m12 6 od, aI G m13 30 bk, aI G m14 30 bh]) := by
  refine x_startV (cc := cX8_takeStone) (maxL := 4) (ret := none) (by decide) rfl (Nat.le_of_ble_eq_true rfl) ?_
  intro p e s m args below meth c A R Q ls hRf hRl hQ C hP hD hS hA hSS hl
  obtain ⟨hx, hb, hr, hml, hown, hts, hlocks, hKK⟩ := C
  have hown : s.vm.findClass RX8 = some m.cls := hown
  have hl : lv_has ls 4 [(0, .ref m0), (1, .int x)] := hl
  have hinX8 : ∀ w ∈ u_ws RX8 TX8 29, w ∈ wsX8_takeStone := by decide +kernel
  have kl17 := hts (.fieldLink RX8 17 "WarmStonesModel" "sizes" "[I") (by decide +kernel)
  have kl21 := hts (.fieldLink RX8 21 "WarmStonesModel" "coolings" "[I") (by decide +kernel)
  have kl24 := hts (.fieldLink RX8 24 "WarmStonesModel" "heats" "[I") (by decide +kernel)
  have kl36 := hts (.fieldLink RX8 36 "WarmStonesModel" "many" "[I") (by decide +kernel)
  have kl90 := hts (.fieldLink RX8 90 "WarmStonesModel" "first" "I") (by decide +kernel)
  refine lv_aload_n hx hb dX8_takeStone_0 rfl (lv_at hl 0 rfl) ?_
  refine lv_aload_n hx hb dX8_takeStone_1 rfl (lv_at hl 0 rfl) ?_
  refine va_get (D := G.1) (ci := 8) (v := .ref m9) (C := RX8) (T := TX8) (N := 29) hx hb hts hinX8 hown hKK.1 hP 0 rfl rfl 8 (by decide) kl36 (fun _ h9 => h9) rfl dX8_takeStone_2 ?_
  refine lv_iconst (v := 2) hx hb dX8_takeStone_5 (by decide) ?_
  refine va_iald hx hb hKK.1 hP 9 0 rfl rfl (by unfold vp_in; decide) dX8_takeStone_6 ?_
  refine lv_bipush (v := 9) hx hb dX8_takeStone_7 (by decide) ?_
  obtain ⟨J17_2, hv, hj_46⟩ := hv
  have K_3 : ∀ (t0_1 : Int32) (H : Heap) (locs : List Loc) (ls : Array Slot), J17_2 t0_1 → va_P G.1 vwCl [(m0, .inr (8, [.ref m1, .ref m2, .ref m3, .ref m4, .ref m5, .ref m6, .ref m7, .ref m8, .ref m9, .int fu, .int fd, .int fi, .int nu, .int nw, .int nf, .int bf, .int bn, .ref m10, .int ts, .int ap, .int fs, .int ln, .int fo, .int fa, .ref m11, .ref m12, .ref m13, .ref m14, .int wr])), aJ G m1 560 mw, aZ G m2 2 ik, aI G m3 20 zs, aI G m4 20 cl, aI G m5 20 hs, aI G m6 20 ks, aI G m7 20 wa, aI G m8 20 ne, aI G m9 4 mn, aI G m10 400 tx, aI G m11 6 th, aI G m12 6 od, aI G m13 30 bk, aI G m14 30 bh] H → va_D A [(m0, .inr (8, [.ref m1, .ref m2, .ref m3, .ref m4, .ref m5, .ref m6, .ref m7, .ref m8, .ref m9, .int fu, .int fd, .int fi, .int nu, .int nw, .int nf, .int bf, .int bn, .ref m10, .int ts, .int ap, .int fs, .int ln, .int fo, .int fa, .ref m11, .ref m12, .ref m13, .ref m14, .int wr])), aJ G m1 560 mw, aZ G m2 2 ik, aI G m3 20 zs, aI G m4 20 cl, aI G m5 20 hs, aI G m6 20 ks, aI G m7 20 wa, aI G m8 20 ne, aI G m9 4 mn, aI G m10 400 tx, aI G m11 6 th, aI G m12 6 od, aI G m13 30 bk, aI G m14 30 bh] → va_S A s.heap H locs → lv_has ls 4 [(0, .ref m0), (1, .int x)] → W p l e R s m args below meth c H locs 0 0 Q (F0 m 17 ls [.int t0_1, .ref m0]) := by
    intro t0_1 H locs ls hi hP hD hS hl
    have hv := hj_46 t0_1 hi
    refine lv_iconst (v := 3) hx hb dX8_takeStone_17 (by decide) ?_
    refine lv_iload_n hx hb dX8_takeStone_18 rfl (lv_at hl 1 rfl) ?_
    obtain ⟨hp, hv⟩ := hv
    refine x_calli (wr := []) (w' := fun (u : (Int32) × (Int32)) => [(m0, .inr (8, [.ref m1, .ref m2, .ref m3, .ref m4, .ref m5, .ref m6, .ref m7, .ref m8, .ref m9, .int fu, .int fd, .int fi, .int nu, .int nw, .int nf, .int bf, .int bn, .ref m10, .int ts, .int ap, .int fs, .int ln, .int u.1, .int u.2, .ref m11, .ref m12, .ref m13, .ref m14, .int wr])), aJ G m1 560 mw, aZ G m2 2 ik, aI G m3 20 zs, aI G m4 20 cl, aI G m5 20 hs, aI G m6 20 ks, aI G m7 20 wa, aI G m8 20 ne, aI G m9 4 mn, aI G m10 400 tx, aI G m11 6 th, aI G m12 6 od, aI G m13 30 bk, aI G m14 30 bh]) (x_runV (As := [.int t0_1, .int 3, .int x]) (rest := []) (n := 3) (C := RX8) (ci := 8) ⟨hx, hb, hml, hown, hts⟩ (k_X8_want l G m0 m1 m2 m3 m4 m5 m6 m7 m8 m9 m10 m11 m12 m13 m14 _ mw ik zs cl hs ks wa ne mn tx th od bk bh fu fd fi nu nw nf bf bn ts ap fs ln fo fa wr t0_1 3 x hp) gX8_takeStone_X8_want rfl (by decide +kernel) ⟨Nat.le_trans (Nat.le_of_ble_eq_true rfl) hRf, Nat.le_trans (Nat.le_of_ble_eq_true rfl) hRl⟩ hKK hSS hS hA hP hD [0, 1, 2, 3, 4, 5, 6, 7, 8, 9, 10, 11, 12, 13, 14] (by decide) rfl rfl rfl 0 rfl rfl hl.1 rfl (Nat.le_of_ble_eq_true rfl) dX8_takeStone_19) hP hD hS hA [0, 1, 2, 3, 4, 5, 6, 7, 8, 9, 10, 11, 12, 13, 14] [] [0, 1, 2, 3, 4, 5, 6, 7, 8, 9, 10, 11, 12, 13, 14] rfl rfl (by decide) (by decide) (by decide) (fun _ => rfl) (fun r_5 u H locs hw hP hD hS => ?_)
    obtain ⟨fo2_6, fa2_7⟩ := u
    have hP : va_P G.1 vwCl [(m0, .inr (8, [.ref m1, .ref m2, .ref m3, .ref m4, .ref m5, .ref m6, .ref m7, .ref m8, .ref m9, .int fu, .int fd, .int fi, .int nu, .int nw, .int nf, .int bf, .int bn, .ref m10, .int ts, .int ap, .int fs, .int ln, .int fo2_6, .int fa2_7, .ref m11, .ref m12, .ref m13, .ref m14, .int wr])), aJ G m1 560 mw, aZ G m2 2 ik, aI G m3 20 zs, aI G m4 20 cl, aI G m5 20 hs, aI G m6 20 ks, aI G m7 20 wa, aI G m8 20 ne, aI G m9 4 mn, aI G m10 400 tx, aI G m11 6 th, aI G m12 6 od, aI G m13 30 bk, aI G m14 30 bh] H := hP
    have hD : va_D A [(m0, .inr (8, [.ref m1, .ref m2, .ref m3, .ref m4, .ref m5, .ref m6, .ref m7, .ref m8, .ref m9, .int fu, .int fd, .int fi, .int nu, .int nw, .int nf, .int bf, .int bn, .ref m10, .int ts, .int ap, .int fs, .int ln, .int fo2_6, .int fa2_7, .ref m11, .ref m12, .ref m13, .ref m14, .int wr])), aJ G m1 560 mw, aZ G m2 2 ik, aI G m3 20 zs, aI G m4 20 cl, aI G m5 20 hs, aI G m6 20 ks, aI G m7 20 wa, aI G m8 20 ne, aI G m9 4 mn, aI G m10 400 tx, aI G m11 6 th, aI G m12 6 od, aI G m13 30 bk, aI G m14 30 bh] := hD
    have hv := hv r_5 fo2_6 fa2_7 hw
    refine lv_if_eq (tgt := 117) hx hb dX8_takeStone_22 (by decide) (fun hc_8 => ?_) (fun hc_8 => ?_)
    · have hv := hv.1 hc_8
      exact x_vret (zs, cl, hs, mn, ap, fs, fo2_6, fa2_7) hQ hx hb hr hlocks hS dX8_takeStone_117 hv hP hD
    · have hv := hv.2 hc_8
      refine lv_bipush (v := 10) hx hb dX8_takeStone_25 (by decide) ?_
      refine lv_aload_n hx hb dX8_takeStone_27 rfl (lv_at hl 0 rfl) ?_
      refine va_get (D := G.1) (ci := 8) (v := .ref m9) (C := RX8) (T := TX8) (N := 29) hx hb hts hinX8 hown hKK.1 hP 0 rfl rfl 8 (by decide) kl36 (fun _ h9 => h9) rfl dX8_takeStone_28 ?_
      refine lv_iconst (v := 2) hx hb dX8_takeStone_31 (by decide) ?_
      refine va_iald hx hb hKK.1 hP 9 0 rfl rfl (by unfold vp_in; decide) dX8_takeStone_32 ?_
      refine lv_iadd hx hb dX8_takeStone_33 ?_
      refine lv_topi (fun y_9 ey => ?_)
      have hv := hv y_9 ey
      refine lv_istore_n (lv' := [(2, .int y_9), (0, .ref m0), (1, .int x)]) hx hb dX8_takeStone_34 rfl hl (by decide) rfl (fun ls hl => ?_)
      refine lv_aload_n hx hb dX8_takeStone_35 rfl (lv_at hl 1 rfl) ?_
      refine va_get (D := G.1) (ci := 8) (v := .ref m3) (C := RX8) (T := TX8) (N := 29) hx hb hts hinX8 hown hKK.1 hP 0 rfl rfl 2 (by decide) kl17 (fun _ h9 => h9) rfl dX8_takeStone_36 ?_
      refine lv_iload_n hx hb dX8_takeStone_39 rfl (lv_at hl 0 rfl) ?_
      refine lv_aload_n hx hb dX8_takeStone_40 rfl (lv_at hl 1 rfl) ?_
      refine lv_iconst (v := 1) hx hb dX8_takeStone_41 (by decide) ?_
      refine lv_sipush (v := 9999) hx hb dX8_takeStone_42 (by decide) ?_
      obtain ⟨gB_10, gL_11, gst_12, hv⟩ := hv
      obtain ⟨hp, hv⟩ := hv
      refine x_calli (wr := []) (w' := fun (u : (Int32) × (Int32) × (Int32) × (Int32)) => [(m0, .inr (8, [.ref m1, .ref m2, .ref m3, .ref m4, .ref m5, .ref m6, .ref m7, .ref m8, .ref m9, .int fu, .int fd, .int fi, .int nu, .int nw, .int nf, .int bf, .int bn, .ref m10, .int ts, .int u.1, .int u.2.1, .int ln, .int u.2.2.1, .int u.2.2.2, .ref m11, .ref m12, .ref m13, .ref m14, .int wr])), aJ G m1 560 mw, aZ G m2 2 ik, aI G m3 20 zs, aI G m4 20 cl, aI G m5 20 hs, aI G m6 20 ks, aI G m7 20 wa, aI G m8 20 ne, aI G m9 4 mn, aI G m10 400 tx, aI G m11 6 th, aI G m12 6 od, aI G m13 30 bk, aI G m14 30 bh]) (x_runV (As := [.int 1, .int 9999]) (rest := [.int y_9, .ref m3]) (n := 2) (C := RX8) (ci := 8) ⟨hx, hb, hml, hown, hts⟩ (k_X8_takeNumber l G m0 m1 m2 m3 m4 m5 m6 m7 m8 m9 m10 m11 m12 m13 m14 _ mw ik zs cl hs ks wa ne mn tx th od bk bh fu fd fi nu nw nf bf bn ts ap fs ln fo2_6 fa2_7 wr 1 9999 gB_10 gL_11 gst_12 hp) gX8_takeStone_X8_takeNumber rfl (by decide +kernel) ⟨Nat.le_trans (Nat.le_of_ble_eq_true rfl) hRf, Nat.le_trans (Nat.le_of_ble_eq_true rfl) hRl⟩ hKK hSS hS hA hP hD [0, 1, 2, 3, 4, 5, 6, 7, 8, 9, 10, 11, 12, 13, 14] (by decide) rfl rfl rfl 0 rfl rfl hl.1 rfl (Nat.le_of_ble_eq_true rfl) dX8_takeStone_45) hP hD hS hA [0, 1, 2, 3, 4, 5, 6, 7, 8, 9, 10, 11, 12, 13, 14] [] [0, 1, 2, 3, 4, 5, 6, 7, 8, 9, 10, 11, 12, 13, 14] rfl rfl (by decide) (by decide) (by decide) (fun _ => rfl) (fun r_13 u H locs hw hP hD hS => ?_)
      obtain ⟨ap2_14, fs2_15, fo2_16, fa2_17⟩ := u
      have hP : va_P G.1 vwCl [(m0, .inr (8, [.ref m1, .ref m2, .ref m3, .ref m4, .ref m5, .ref m6, .ref m7, .ref m8, .ref m9, .int fu, .int fd, .int fi, .int nu, .int nw, .int nf, .int bf, .int bn, .ref m10, .int ts, .int ap2_14, .int fs2_15, .int ln, .int fo2_16, .int fa2_17, .ref m11, .ref m12, .ref m13, .ref m14, .int wr])), aJ G m1 560 mw, aZ G m2 2 ik, aI G m3 20 zs, aI G m4 20 cl, aI G m5 20 hs, aI G m6 20 ks, aI G m7 20 wa, aI G m8 20 ne, aI G m9 4 mn, aI G m10 400 tx, aI G m11 6 th, aI G m12 6 od, aI G m13 30 bk, aI G m14 30 bh] H := hP
      have hD : va_D A [(m0, .inr (8, [.ref m1, .ref m2, .ref m3, .ref m4, .ref m5, .ref m6, .ref m7, .ref m8, .ref m9, .int fu, .int fd, .int fi, .int nu, .int nw, .int nf, .int bf, .int bn, .ref m10, .int ts, .int ap2_14, .int fs2_15, .int ln, .int fo2_16, .int fa2_17, .ref m11, .ref m12, .ref m13, .ref m14, .int wr])), aJ G m1 560 mw, aZ G m2 2 ik, aI G m3 20 zs, aI G m4 20 cl, aI G m5 20 hs, aI G m6 20 ks, aI G m7 20 wa, aI G m8 20 ne, aI G m9 4 mn, aI G m10 400 tx, aI G m11 6 th, aI G m12 6 od, aI G m13 30 bk, aI G m14 30 bh] := hD
      have hv := hv r_13 ap2_14 fs2_15 fo2_16 fa2_17 hw
      obtain ⟨hin, hv⟩ := hv
      refine va_iast hx hb hKK.1 hP hD hS 3 0 rfl rfl hin dX8_takeStone_48 (fun H locs hP hD hS => ?_)
      obtain ⟨fm3_18, ef⟩ : ∃ z9_, z9_ = (upd zs y_9.toNatClampNeg r_13) := ⟨_, rfl⟩
      have hP : va_P G.1 vwCl [(m0, .inr (8, [.ref m1, .ref m2, .ref m3, .ref m4, .ref m5, .ref m6, .ref m7, .ref m8, .ref m9, .int fu, .int fd, .int fi, .int nu, .int nw, .int nf, .int bf, .int bn, .ref m10, .int ts, .int ap2_14, .int fs2_15, .int ln, .int fo2_16, .int fa2_17, .ref m11, .ref m12, .ref m13, .ref m14, .int wr])), aJ G m1 560 mw, aZ G m2 2 ik, aI G m3 20 fm3_18, aI G m4 20 cl, aI G m5 20 hs, aI G m6 20 ks, aI G m7 20 wa, aI G m8 20 ne, aI G m9 4 mn, aI G m10 400 tx, aI G m11 6 th, aI G m12 6 od, aI G m13 30 bk, aI G m14 30 bh] H := by rw [ef]; exact hP
      have hD : va_D A [(m0, .inr (8, [.ref m1, .ref m2, .ref m3, .ref m4, .ref m5, .ref m6, .ref m7, .ref m8, .ref m9, .int fu, .int fd, .int fi, .int nu, .int nw, .int nf, .int bf, .int bn, .ref m10, .int ts, .int ap2_14, .int fs2_15, .int ln, .int fo2_16, .int fa2_17, .ref m11, .ref m12, .ref m13, .ref m14, .int wr])), aJ G m1 560 mw, aZ G m2 2 ik, aI G m3 20 fm3_18, aI G m4 20 cl, aI G m5 20 hs, aI G m6 20 ks, aI G m7 20 wa, aI G m8 20 ne, aI G m9 4 mn, aI G m10 400 tx, aI G m11 6 th, aI G m12 6 od, aI G m13 30 bk, aI G m14 30 bh] := by rw [ef]; exact hD
      have hv := hv fm3_18 ef
      refine lv_aload_n hx hb dX8_takeStone_49 rfl (lv_at hl 1 rfl) ?_
      refine va_get (D := G.1) (ci := 8) (v := .ref m4) (C := RX8) (T := TX8) (N := 29) hx hb hts hinX8 hown hKK.1 hP 0 rfl rfl 3 (by decide) kl21 (fun _ h9 => h9) rfl dX8_takeStone_50 ?_
      refine lv_iload_n hx hb dX8_takeStone_53 rfl (lv_at hl 0 rfl) ?_
      refine lv_aload_n hx hb dX8_takeStone_54 rfl (lv_at hl 1 rfl) ?_
      refine lv_iconst (v := 2) hx hb dX8_takeStone_55 (by decide) ?_
      refine lv_sipush (v := 999) hx hb dX8_takeStone_56 (by decide) ?_
      obtain ⟨gB_19, gL_20, gst_21, hv⟩ := hv
      obtain ⟨hp, hv⟩ := hv
      refine x_calli (wr := []) (w' := fun (u : (Int32) × (Int32) × (Int32) × (Int32)) => [(m0, .inr (8, [.ref m1, .ref m2, .ref m3, .ref m4, .ref m5, .ref m6, .ref m7, .ref m8, .ref m9, .int fu, .int fd, .int fi, .int nu, .int nw, .int nf, .int bf, .int bn, .ref m10, .int ts, .int u.1, .int u.2.1, .int ln, .int u.2.2.1, .int u.2.2.2, .ref m11, .ref m12, .ref m13, .ref m14, .int wr])), aJ G m1 560 mw, aZ G m2 2 ik, aI G m3 20 fm3_18, aI G m4 20 cl, aI G m5 20 hs, aI G m6 20 ks, aI G m7 20 wa, aI G m8 20 ne, aI G m9 4 mn, aI G m10 400 tx, aI G m11 6 th, aI G m12 6 od, aI G m13 30 bk, aI G m14 30 bh]) (x_runV (As := [.int 2, .int 999]) (rest := [.int y_9, .ref m4]) (n := 2) (C := RX8) (ci := 8) ⟨hx, hb, hml, hown, hts⟩ (k_X8_takeNumber l G m0 m1 m2 m3 m4 m5 m6 m7 m8 m9 m10 m11 m12 m13 m14 _ mw ik fm3_18 cl hs ks wa ne mn tx th od bk bh fu fd fi nu nw nf bf bn ts ap2_14 fs2_15 ln fo2_16 fa2_17 wr 2 999 gB_19 gL_20 gst_21 hp) gX8_takeStone_X8_takeNumber rfl (by decide +kernel) ⟨Nat.le_trans (Nat.le_of_ble_eq_true rfl) hRf, Nat.le_trans (Nat.le_of_ble_eq_true rfl) hRl⟩ hKK hSS hS hA hP hD [0, 1, 2, 3, 4, 5, 6, 7, 8, 9, 10, 11, 12, 13, 14] (by decide) rfl rfl rfl 0 rfl rfl hl.1 rfl (Nat.le_of_ble_eq_true rfl) dX8_takeStone_59) hP hD hS hA [0, 1, 2, 3, 4, 5, 6, 7, 8, 9, 10, 11, 12, 13, 14] [] [0, 1, 2, 3, 4, 5, 6, 7, 8, 9, 10, 11, 12, 13, 14] rfl rfl (by decide) (by decide) (by decide) (fun _ => rfl) (fun r_22 u H locs hw hP hD hS => ?_)
      obtain ⟨ap2_23, fs2_24, fo2_25, fa2_26⟩ := u
      have hP : va_P G.1 vwCl [(m0, .inr (8, [.ref m1, .ref m2, .ref m3, .ref m4, .ref m5, .ref m6, .ref m7, .ref m8, .ref m9, .int fu, .int fd, .int fi, .int nu, .int nw, .int nf, .int bf, .int bn, .ref m10, .int ts, .int ap2_23, .int fs2_24, .int ln, .int fo2_25, .int fa2_26, .ref m11, .ref m12, .ref m13, .ref m14, .int wr])), aJ G m1 560 mw, aZ G m2 2 ik, aI G m3 20 fm3_18, aI G m4 20 cl, aI G m5 20 hs, aI G m6 20 ks, aI G m7 20 wa, aI G m8 20 ne, aI G m9 4 mn, aI G m10 400 tx, aI G m11 6 th, aI G m12 6 od, aI G m13 30 bk, aI G m14 30 bh] H := hP
      have hD : va_D A [(m0, .inr (8, [.ref m1, .ref m2, .ref m3, .ref m4, .ref m5, .ref m6, .ref m7, .ref m8, .ref m9, .int fu, .int fd, .int fi, .int nu, .int nw, .int nf, .int bf, .int bn, .ref m10, .int ts, .int ap2_23, .int fs2_24, .int ln, .int fo2_25, .int fa2_26, .ref m11, .ref m12, .ref m13, .ref m14, .int wr])), aJ G m1 560 mw, aZ G m2 2 ik, aI G m3 20 fm3_18, aI G m4 20 cl, aI G m5 20 hs, aI G m6 20 ks, aI G m7 20 wa, aI G m8 20 ne, aI G m9 4 mn, aI G m10 400 tx, aI G m11 6 th, aI G m12 6 od, aI G m13 30 bk, aI G m14 30 bh] := hD
      have hv := hv r_22 ap2_23 fs2_24 fo2_25 fa2_26 hw
      obtain ⟨hin, hv⟩ := hv
      refine va_iast hx hb hKK.1 hP hD hS 4 0 rfl rfl hin dX8_takeStone_62 (fun H locs hP hD hS => ?_)
      obtain ⟨fm4_27, ef⟩ : ∃ z9_, z9_ = (upd cl y_9.toNatClampNeg r_22) := ⟨_, rfl⟩
      have hP : va_P G.1 vwCl [(m0, .inr (8, [.ref m1, .ref m2, .ref m3, .ref m4, .ref m5, .ref m6, .ref m7, .ref m8, .ref m9, .int fu, .int fd, .int fi, .int nu, .int nw, .int nf, .int bf, .int bn, .ref m10, .int ts, .int ap2_23, .int fs2_24, .int ln, .int fo2_25, .int fa2_26, .ref m11, .ref m12, .ref m13, .ref m14, .int wr])), aJ G m1 560 mw, aZ G m2 2 ik, aI G m3 20 fm3_18, aI G m4 20 fm4_27, aI G m5 20 hs, aI G m6 20 ks, aI G m7 20 wa, aI G m8 20 ne, aI G m9 4 mn, aI G m10 400 tx, aI G m11 6 th, aI G m12 6 od, aI G m13 30 bk, aI G m14 30 bh] H := by rw [ef]; exact hP
      have hD : va_D A [(m0, .inr (8, [.ref m1, .ref m2, .ref m3, .ref m4, .ref m5, .ref m6, .ref m7, .ref m8, .ref m9, .int fu, .int fd, .int fi, .int nu, .int nw, .int nf, .int bf, .int bn, .ref m10, .int ts, .int ap2_23, .int fs2_24, .int ln, .int fo2_25, .int fa2_26, .ref m11, .ref m12, .ref m13, .ref m14, .int wr])), aJ G m1 560 mw, aZ G m2 2 ik, aI G m3 20 fm3_18, aI G m4 20 fm4_27, aI G m5 20 hs, aI G m6 20 ks, aI G m7 20 wa, aI G m8 20 ne, aI G m9 4 mn, aI G m10 400 tx, aI G m11 6 th, aI G m12 6 od, aI G m13 30 bk, aI G m14 30 bh] := by rw [ef]; exact hD
      have hv := hv fm4_27 ef
      refine lv_aload_n hx hb dX8_takeStone_63 rfl (lv_at hl 1 rfl) ?_
      refine va_get (D := G.1) (ci := 8) (v := .ref m5) (C := RX8) (T := TX8) (N := 29) hx hb hts hinX8 hown hKK.1 hP 0 rfl rfl 4 (by decide) kl24 (fun _ h9 => h9) rfl dX8_takeStone_64 ?_
      refine lv_iload_n hx hb dX8_takeStone_67 rfl (lv_at hl 0 rfl) ?_
      refine lv_aload_n hx hb dX8_takeStone_68 rfl (lv_at hl 1 rfl) ?_
      refine lv_iconst (v := 0) hx hb dX8_takeStone_69 (by decide) ?_
      refine lv_sipush (v := 9999) hx hb dX8_takeStone_70 (by decide) ?_
      obtain ⟨gB_28, gL_29, gst_30, hv⟩ := hv
      obtain ⟨hp, hv⟩ := hv
      refine x_calli (wr := []) (w' := fun (u : (Int32) × (Int32) × (Int32) × (Int32)) => [(m0, .inr (8, [.ref m1, .ref m2, .ref m3, .ref m4, .ref m5, .ref m6, .ref m7, .ref m8, .ref m9, .int fu, .int fd, .int fi, .int nu, .int nw, .int nf, .int bf, .int bn, .ref m10, .int ts, .int u.1, .int u.2.1, .int ln, .int u.2.2.1, .int u.2.2.2, .ref m11, .ref m12, .ref m13, .ref m14, .int wr])), aJ G m1 560 mw, aZ G m2 2 ik, aI G m3 20 fm3_18, aI G m4 20 fm4_27, aI G m5 20 hs, aI G m6 20 ks, aI G m7 20 wa, aI G m8 20 ne, aI G m9 4 mn, aI G m10 400 tx, aI G m11 6 th, aI G m12 6 od, aI G m13 30 bk, aI G m14 30 bh]) (x_runV (As := [.int 0, .int 9999]) (rest := [.int y_9, .ref m5]) (n := 2) (C := RX8) (ci := 8) ⟨hx, hb, hml, hown, hts⟩ (k_X8_takeNumber l G m0 m1 m2 m3 m4 m5 m6 m7 m8 m9 m10 m11 m12 m13 m14 _ mw ik fm3_18 fm4_27 hs ks wa ne mn tx th od bk bh fu fd fi nu nw nf bf bn ts ap2_23 fs2_24 ln fo2_25 fa2_26 wr 0 9999 gB_28 gL_29 gst_30 hp) gX8_takeStone_X8_takeNumber rfl (by decide +kernel) ⟨Nat.le_trans (Nat.le_of_ble_eq_true rfl) hRf, Nat.le_trans (Nat.le_of_ble_eq_true rfl) hRl⟩ hKK hSS hS hA hP hD [0, 1, 2, 3, 4, 5, 6, 7, 8, 9, 10, 11, 12, 13, 14] (by decide) rfl rfl rfl 0 rfl rfl hl.1 rfl (Nat.le_of_ble_eq_true rfl) dX8_takeStone_73) hP hD hS hA [0, 1, 2, 3, 4, 5, 6, 7, 8, 9, 10, 11, 12, 13, 14] [] [0, 1, 2, 3, 4, 5, 6, 7, 8, 9, 10, 11, 12, 13, 14] rfl rfl (by decide) (by decide) (by decide) (fun _ => rfl) (fun r_31 u H locs hw hP hD hS => ?_)
      obtain ⟨ap2_32, fs2_33, fo2_34, fa2_35⟩ := u
      have hP : va_P G.1 vwCl [(m0, .inr (8, [.ref m1, .ref m2, .ref m3, .ref m4, .ref m5, .ref m6, .ref m7, .ref m8, .ref m9, .int fu, .int fd, .int fi, .int nu, .int nw, .int nf, .int bf, .int bn, .ref m10, .int ts, .int ap2_32, .int fs2_33, .int ln, .int fo2_34, .int fa2_35, .ref m11, .ref m12, .ref m13, .ref m14, .int wr])), aJ G m1 560 mw, aZ G m2 2 ik, aI G m3 20 fm3_18, aI G m4 20 fm4_27, aI G m5 20 hs, aI G m6 20 ks, aI G m7 20 wa, aI G m8 20 ne, aI G m9 4 mn, aI G m10 400 tx, aI G m11 6 th, aI G m12 6 od, aI G m13 30 bk, aI G m14 30 bh] H := hP
      have hD : va_D A [(m0, .inr (8, [.ref m1, .ref m2, .ref m3, .ref m4, .ref m5, .ref m6, .ref m7, .ref m8, .ref m9, .int fu, .int fd, .int fi, .int nu, .int nw, .int nf, .int bf, .int bn, .ref m10, .int ts, .int ap2_32, .int fs2_33, .int ln, .int fo2_34, .int fa2_35, .ref m11, .ref m12, .ref m13, .ref m14, .int wr])), aJ G m1 560 mw, aZ G m2 2 ik, aI G m3 20 fm3_18, aI G m4 20 fm4_27, aI G m5 20 hs, aI G m6 20 ks, aI G m7 20 wa, aI G m8 20 ne, aI G m9 4 mn, aI G m10 400 tx, aI G m11 6 th, aI G m12 6 od, aI G m13 30 bk, aI G m14 30 bh] := hD
      have hv := hv r_31 ap2_32 fs2_33 fo2_34 fa2_35 hw
      obtain ⟨hin, hv⟩ := hv
      refine va_iast hx hb hKK.1 hP hD hS 5 0 rfl rfl hin dX8_takeStone_76 (fun H locs hP hD hS => ?_)
      obtain ⟨fm5_36, ef⟩ : ∃ z9_, z9_ = (upd hs y_9.toNatClampNeg r_31) := ⟨_, rfl⟩
      have hP : va_P G.1 vwCl [(m0, .inr (8, [.ref m1, .ref m2, .ref m3, .ref m4, .ref m5, .ref m6, .ref m7, .ref m8, .ref m9, .int fu, .int fd, .int fi, .int nu, .int nw, .int nf, .int bf, .int bn, .ref m10, .int ts, .int ap2_32, .int fs2_33, .int ln, .int fo2_34, .int fa2_35, .ref m11, .ref m12, .ref m13, .ref m14, .int wr])), aJ G m1 560 mw, aZ G m2 2 ik, aI G m3 20 fm3_18, aI G m4 20 fm4_27, aI G m5 20 fm5_36, aI G m6 20 ks, aI G m7 20 wa, aI G m8 20 ne, aI G m9 4 mn, aI G m10 400 tx, aI G m11 6 th, aI G m12 6 od, aI G m13 30 bk, aI G m14 30 bh] H := by rw [ef]; exact hP
      have hD : va_D A [(m0, .inr (8, [.ref m1, .ref m2, .ref m3, .ref m4, .ref m5, .ref m6, .ref m7, .ref m8, .ref m9, .int fu, .int fd, .int fi, .int nu, .int nw, .int nf, .int bf, .int bn, .ref m10, .int ts, .int ap2_32, .int fs2_33, .int ln, .int fo2_34, .int fa2_35, .ref m11, .ref m12, .ref m13, .ref m14, .int wr])), aJ G m1 560 mw, aZ G m2 2 ik, aI G m3 20 fm3_18, aI G m4 20 fm4_27, aI G m5 20 fm5_36, aI G m6 20 ks, aI G m7 20 wa, aI G m8 20 ne, aI G m9 4 mn, aI G m10 400 tx, aI G m11 6 th, aI G m12 6 od, aI G m13 30 bk, aI G m14 30 bh] := by rw [ef]; exact hD
      have hv := hv fm5_36 ef
      refine lv_aload_n hx hb dX8_takeStone_77 rfl (lv_at hl 1 rfl) ?_
      refine lv_aload_n hx hb dX8_takeStone_78 rfl (lv_at hl 1 rfl) ?_
      refine va_get (D := G.1) (ci := 8) (v := .ref m5) (C := RX8) (T := TX8) (N := 29) hx hb hts hinX8 hown hKK.1 hP 0 rfl rfl 4 (by decide) kl24 (fun _ h9 => h9) rfl dX8_takeStone_79 ?_
      refine lv_iload_n hx hb dX8_takeStone_82 rfl (lv_at hl 0 rfl) ?_
      obtain ⟨hin, hv⟩ := hv
      refine va_iald hx hb hKK.1 hP 5 0 rfl rfl hin dX8_takeStone_83 ?_
      refine lv_aload_n hx hb dX8_takeStone_84 rfl (lv_at hl 1 rfl) ?_
      refine va_get (D := G.1) (ci := 8) (v := .ref m3) (C := RX8) (T := TX8) (N := 29) hx hb hts hinX8 hown hKK.1 hP 0 rfl rfl 2 (by decide) kl17 (fun _ h9 => h9) rfl dX8_takeStone_85 ?_
      refine lv_iload_n hx hb dX8_takeStone_88 rfl (lv_at hl 0 rfl) ?_
      obtain ⟨hin, hv⟩ := hv
      refine va_iald hx hb hKK.1 hP 3 0 rfl rfl hin dX8_takeStone_89 ?_
      obtain ⟨J98_38, hv, hj_45⟩ := hv
      have K_39 : ∀ (t0_37 : Int32) (H : Heap) (locs : List Loc) (ls : Array Slot), J98_38 t0_37 → va_P G.1 vwCl [(m0, .inr (8, [.ref m1, .ref m2, .ref m3, .ref m4, .ref m5, .ref m6, .ref m7, .ref m8, .ref m9, .int fu, .int fd, .int fi, .int nu, .int nw, .int nf, .int bf, .int bn, .ref m10, .int ts, .int ap2_32, .int fs2_33, .int ln, .int fo2_34, .int fa2_35, .ref m11, .ref m12, .ref m13, .ref m14, .int wr])), aJ G m1 560 mw, aZ G m2 2 ik, aI G m3 20 fm3_18, aI G m4 20 fm4_27, aI G m5 20 fm5_36, aI G m6 20 ks, aI G m7 20 wa, aI G m8 20 ne, aI G m9 4 mn, aI G m10 400 tx, aI G m11 6 th, aI G m12 6 od, aI G m13 30 bk, aI G m14 30 bh] H → va_D A [(m0, .inr (8, [.ref m1, .ref m2, .ref m3, .ref m4, .ref m5, .ref m6, .ref m7, .ref m8, .ref m9, .int fu, .int fd, .int fi, .int nu, .int nw, .int nf, .int bf, .int bn, .ref m10, .int ts, .int ap2_32, .int fs2_33, .int ln, .int fo2_34, .int fa2_35, .ref m11, .ref m12, .ref m13, .ref m14, .int wr])), aJ G m1 560 mw, aZ G m2 2 ik, aI G m3 20 fm3_18, aI G m4 20 fm4_27, aI G m5 20 fm5_36, aI G m6 20 ks, aI G m7 20 wa, aI G m8 20 ne, aI G m9 4 mn, aI G m10 400 tx, aI G m11 6 th, aI G m12 6 od, aI G m13 30 bk, aI G m14 30 bh] → va_S A s.heap H locs → lv_has ls 4 [(2, .int y_9), (0, .ref m0), (1, .int x)] → W p l e R s m args below meth c H locs 0 0 Q (F0 m 98 ls [.int t0_37, .ref m0]) := by
        intro t0_37 H locs ls hi hP hD hS hl
        have hv := hj_45 t0_37 hi
        refine lv_iconst (v := 4) hx hb dX8_takeStone_98 (by decide) ?_
        refine lv_aload_n hx hb dX8_takeStone_99 rfl (lv_at hl 1 rfl) ?_
        refine va_get (D := G.1) (ci := 8) (v := .int fs2_33) (C := RX8) (T := TX8) (N := 29) hx hb hts hinX8 hown hKK.1 hP 0 rfl rfl 20 (by decide) kl90 (fun _ h9 => h9) rfl dX8_takeStone_100 ?_
        obtain ⟨hp, hv⟩ := hv
        refine x_calli (wr := []) (w' := fun (u : (Int32) × (Int32)) => [(m0, .inr (8, [.ref m1, .ref m2, .ref m3, .ref m4, .ref m5, .ref m6, .ref m7, .ref m8, .ref m9, .int fu, .int fd, .int fi, .int nu, .int nw, .int nf, .int bf, .int bn, .ref m10, .int ts, .int ap2_32, .int fs2_33, .int ln, .int u.1, .int u.2, .ref m11, .ref m12, .ref m13, .ref m14, .int wr])), aJ G m1 560 mw, aZ G m2 2 ik, aI G m3 20 fm3_18, aI G m4 20 fm4_27, aI G m5 20 fm5_36, aI G m6 20 ks, aI G m7 20 wa, aI G m8 20 ne, aI G m9 4 mn, aI G m10 400 tx, aI G m11 6 th, aI G m12 6 od, aI G m13 30 bk, aI G m14 30 bh]) (x_runV (As := [.int t0_37, .int 4, .int fs2_33]) (rest := []) (n := 3) (C := RX8) (ci := 8) ⟨hx, hb, hml, hown, hts⟩ (k_X8_want l G m0 m1 m2 m3 m4 m5 m6 m7 m8 m9 m10 m11 m12 m13 m14 _ mw ik fm3_18 fm4_27 fm5_36 ks wa ne mn tx th od bk bh fu fd fi nu nw nf bf bn ts ap2_32 fs2_33 ln fo2_34 fa2_35 wr t0_37 4 fs2_33 hp) gX8_takeStone_X8_want rfl (by decide +kernel) ⟨Nat.le_trans (Nat.le_of_ble_eq_true rfl) hRf, Nat.le_trans (Nat.le_of_ble_eq_true rfl) hRl⟩ hKK hSS hS hA hP hD [0, 1, 2, 3, 4, 5, 6, 7, 8, 9, 10, 11, 12, 13, 14] (by decide) rfl rfl rfl 0 rfl rfl hl.1 rfl (Nat.le_of_ble_eq_true rfl) dX8_takeStone_103) hP hD hS hA [0, 1, 2, 3, 4, 5, 6, 7, 8, 9, 10, 11, 12, 13, 14] [] [0, 1, 2, 3, 4, 5, 6, 7, 8, 9, 10, 11, 12, 13, 14] rfl rfl (by decide) (by decide) (by decide) (fun _ => rfl) (fun r_41 u H locs hw hP hD hS => ?_)
        obtain ⟨fo2_42, fa2_43⟩ := u
        have hP : va_P G.1 vwCl [(m0, .inr (8, [.ref m1, .ref m2, .ref m3, .ref m4, .ref m5, .ref m6, .ref m7, .ref m8, .ref m9, .int fu, .int fd, .int fi, .int nu, .int nw, .int nf, .int bf, .int bn, .ref m10, .int ts, .int ap2_32, .int fs2_33, .int ln, .int fo2_42, .int fa2_43, .ref m11, .ref m12, .ref m13, .ref m14, .int wr])), aJ G m1 560 mw, aZ G m2 2 ik, aI G m3 20 fm3_18, aI G m4 20 fm4_27, aI G m5 20 fm5_36, aI G m6 20 ks, aI G m7 20 wa, aI G m8 20 ne, aI G m9 4 mn, aI G m10 400 tx, aI G m11 6 th, aI G m12 6 od, aI G m13 30 bk, aI G m14 30 bh] H := hP
        have hD : va_D A [(m0, .inr (8, [.ref m1, .ref m2, .ref m3, .ref m4, .ref m5, .ref m6, .ref m7, .ref m8, .ref m9, .int fu, .int fd, .int fi, .int nu, .int nw, .int nf, .int bf, .int bn, .ref m10, .int ts, .int ap2_32, .int fs2_33, .int ln, .int fo2_42, .int fa2_43, .ref m11, .ref m12, .ref m13, .ref m14, .int wr])), aJ G m1 560 mw, aZ G m2 2 ik, aI G m3 20 fm3_18, aI G m4 20 fm4_27, aI G m5 20 fm5_36, aI G m6 20 ks, aI G m7 20 wa, aI G m8 20 ne, aI G m9 4 mn, aI G m10 400 tx, aI G m11 6 th, aI G m12 6 od, aI G m13 30 bk, aI G m14 30 bh] := hD
        have hv := hv r_41 fo2_42 fa2_43 hw
        refine lv_istore_n (lv' := [(3, .int r_41), (2, .int y_9), (0, .ref m0), (1, .int x)]) hx hb dX8_takeStone_106 rfl hl (by decide) rfl (fun ls hl => ?_)
        refine lv_aload_n hx hb dX8_takeStone_107 rfl (lv_at hl 2 rfl) ?_
        refine va_get (D := G.1) (ci := 8) (v := .ref m9) (C := RX8) (T := TX8) (N := 29) hx hb hts hinX8 hown hKK.1 hP 0 rfl rfl 8 (by decide) kl36 (fun _ h9 => h9) rfl dX8_takeStone_108 ?_
        refine lv_iconst (v := 2) hx hb dX8_takeStone_111 (by decide) ?_
        refine lv_dup2_11 hx hb dX8_takeStone_112 rfl rfl ?_
        refine va_iald hx hb hKK.1 hP 9 0 rfl rfl (by unfold vp_in; decide) dX8_takeStone_113 ?_
        refine lv_iconst (v := 1) hx hb dX8_takeStone_114 (by decide) ?_
        refine lv_iadd hx hb dX8_takeStone_115 ?_
        refine va_iast hx hb hKK.1 hP hD hS 9 0 rfl rfl (by unfold vp_in; decide) dX8_takeStone_116 (fun H locs hP hD hS => ?_)
        obtain ⟨fm9_44, ef⟩ : ∃ z9_, z9_ = (upd mn 2 ((mn 2) + 1)) := ⟨_, rfl⟩
        have hP : va_P G.1 vwCl [(m0, .inr (8, [.ref m1, .ref m2, .ref m3, .ref m4, .ref m5, .ref m6, .ref m7, .ref m8, .ref m9, .int fu, .int fd, .int fi, .int nu, .int nw, .int nf, .int bf, .int bn, .ref m10, .int ts, .int ap2_32, .int fs2_33, .int ln, .int fo2_42, .int fa2_43, .ref m11, .ref m12, .ref m13, .ref m14, .int wr])), aJ G m1 560 mw, aZ G m2 2 ik, aI G m3 20 fm3_18, aI G m4 20 fm4_27, aI G m5 20 fm5_36, aI G m6 20 ks, aI G m7 20 wa, aI G m8 20 ne, aI G m9 4 fm9_44, aI G m10 400 tx, aI G m11 6 th, aI G m12 6 od, aI G m13 30 bk, aI G m14 30 bh] H := by rw [ef]; exact hP
        have hD : va_D A [(m0, .inr (8, [.ref m1, .ref m2, .ref m3, .ref m4, .ref m5, .ref m6, .ref m7, .ref m8, .ref m9, .int fu, .int fd, .int fi, .int nu, .int nw, .int nf, .int bf, .int bn, .ref m10, .int ts, .int ap2_32, .int fs2_33, .int ln, .int fo2_42, .int fa2_43, .ref m11, .ref m12, .ref m13, .ref m14, .int wr])), aJ G m1 560 mw, aZ G m2 2 ik, aI G m3 20 fm3_18, aI G m4 20 fm4_27, aI G m5 20 fm5_36, aI G m6 20 ks, aI G m7 20 wa, aI G m8 20 ne, aI G m9 4 fm9_44, aI G m10 400 tx, aI G m11 6 th, aI G m12 6 od, aI G m13 30 bk, aI G m14 30 bh] := by rw [ef]; exact hD
        have hv := hv fm9_44 ef
        exact x_vret (fm3_18, fm4_27, fm5_36, fm9_44, ap2_32, fs2_33, fo2_42, fa2_43) hQ hx hb hr hlocks hS dX8_takeStone_117 hv hP hD
      refine lv_icmp_gt (tgt := 97) hx hb dX8_takeStone_90 (by decide) (fun hc_40 => ?_) (fun hc_40 => ?_)
      · have hv := hv.1 hc_40
        refine lv_iconst (v := 0) hx hb dX8_takeStone_97 (by decide) ?_
        exact K_39 _ _ _ _ hv hP hD hS hl
      · have hv := hv.2 hc_40
        refine lv_iconst (v := 1) hx hb dX8_takeStone_93 (by decide) ?_
        refine lv_goto (tgt := 98) hx hb dX8_takeStone_94 (by decide) ?_
        exact K_39 _ _ _ _ hv hP hD hS hl
  refine lv_icmp_ge (tgt := 16) hx hb dX8_takeStone_9 (by decide) (fun hc_4 => ?_) (fun hc_4 => ?_)
  · have hv := hv.1 hc_4
    refine lv_iconst (v := 0) hx hb dX8_takeStone_16 (by decide) ?_
    exact K_3 _ _ _ _ hv hP hD hS hl
  · have hv := hv.2 hc_4
    refine lv_iconst (v := 1) hx hb dX8_takeStone_12 (by decide) ?_
    refine lv_goto (tgt := 17) hx hb dX8_takeStone_13 (by decide) ?_
    exact K_3 _ _ _ _ hv hP hD hS hl
theorem v_X8_takeStone (l : Launch) (G : Gt) (m0 m1 m2 m3 m4 m5 m6 m7 m8 m9 m10 m11 m12 m13 m14 : Nat) (sz : Nat) (mw : Nat → Int64) (ik : Nat → Int32) (zs : Nat → Int32) (cl : Nat → Int32) (hs : Nat → Int32) (ks : Nat → Int32) (wa : Nat → Int32) (ne : Nat → Int32) (mn : Nat → Int32) (tx : Nat → Int32) (th : Nat → Int32) (od : Nat → Int32) (bk : Nat → Int32) (bh : Nat → Int32) (fu : Int32) (fd : Int32) (fi : Int32) (nu : Int32) (nw : Int32) (nf : Int32) (bf : Int32) (bn : Int32) (ts : Int32) (ap : Int32) (fs : Int32) (ln : Int32) (fo : Int32) (fa : Int32) (wr : Int32) (x : Int32) (B : Nat → Int) (L : Nat) (aq : Nat) (wq : Nat) (tq : PTn) (hp : MX B L tx ts ∧ CSo L aq fo fa ap ∧ x = nI wq ∧ MW tq zs cl hs ks wa ne mn nu nw nf bf bn ∧ tq.1 ≤ 9 ∧ tq.2.1 ≤ 8) : ∃ (J17_2 : Int32 → Prop), ((9 ≤ (mn 2) → J17_2 0) ∧ (¬ (9 ≤ (mn 2)) → J17_2 1)) ∧ (∀ (t0_1 : Int32), J17_2 t0_1 → (¬ (3 : Int32) = 0) ∧ (∀ (r_5 : Int32) (fo2_6 : Int32) (fa2_7 : Int32), (((fo = 0 ∧ ¬ t0_1 = 0 ∧ r_5 = 1 ∧ fo2_6 = fo ∧ fa2_7 = fa) ∨ (fo = 0 ∧ t0_1 = 0 ∧ r_5 = 0 ∧ fo2_6 = (3 : Int32) ∧ fa2_7 = x) ∨ (¬ fo = 0 ∧ r_5 = 0 ∧ fo2_6 = fo ∧ fa2_7 = fa))) → ((r_5 = 0 → MP L (stC B L wq aq tq) fo2_6 fa2_7 ap zs cl hs ks wa ne mn nu nw nf bf bn ∧ fr10 zs zs ∧ fr10 cl cl ∧ fr10 hs hs ∧ fr2 mn mn) ∧ (¬ (r_5 = 0) → ∀ (y_9 : Int32), (y_9 = (10 + (mn 2))) → (∃ (gB_10 : Nat → Int) (gL_11 : Nat) (gst_12 : Flt ⊕ Nat), ((MX gB_10 gL_11 tx ts ∧ CSs gL_11 gst_12 fo2_6 fa2_7 ap) ∧ (∀ (r_13 : Int32) (ap2_14 : Int32) (fs2_15 : Int32) (fo2_16 : Int32) (fa2_17 : Int32), (CSn gL_11 (bnd gst_12 (nuR gB_10 gL_11 (1 : Int32).toInt (9999 : Int32).toInt)) r_13 fo2_16 fa2_17 ap2_14 fs2_15) → ((vp_in y_9 20) ∧ (∀ (fm3_18 : (Nat → Int32)), (fm3_18 = (upd zs y_9.toNatClampNeg r_13)) → (∃ (gB_19 : Nat → Int) (gL_20 : Nat) (gst_21 : Flt ⊕ Nat), ((MX gB_19 gL_20 tx ts ∧ CSs gL_20 gst_21 fo2_16 fa2_17 ap2_14) ∧ (∀ (r_22 : Int32) (ap2_23 : Int32) (fs2_24 : Int32) (fo2_25 : Int32) (fa2_26 : Int32), (CSn gL_20 (bnd gst_21 (nuR gB_19 gL_20 (2 : Int32).toInt (999 : Int32).toInt)) r_22 fo2_25 fa2_26 ap2_23 fs2_24) → ((vp_in y_9 20) ∧ (∀ (fm4_27 : (Nat → Int32)), (fm4_27 = (upd cl y_9.toNatClampNeg r_22)) → (∃ (gB_28 : Nat → Int) (gL_29 : Nat) (gst_30 : Flt ⊕ Nat), ((MX gB_28 gL_29 tx ts ∧ CSs gL_29 gst_30 fo2_25 fa2_26 ap2_23) ∧ (∀ (r_31 : Int32) (ap2_32 : Int32) (fs2_33 : Int32) (fo2_34 : Int32) (fa2_35 : Int32), (CSn gL_29 (bnd gst_30 (nuR gB_28 gL_29 (0 : Int32).toInt (9999 : Int32).toInt)) r_31 fo2_34 fa2_35 ap2_32 fs2_33) → ((vp_in y_9 20) ∧ (∀ (fm5_36 : (Nat → Int32)), (fm5_36 = (upd hs y_9.toNatClampNeg r_31)) → ((vp_in y_9 20) ∧ ((vp_in y_9 20) ∧ (∃ (J98_38 : Int32 → Prop), (((fm3_18 y_9.toNatClampNeg) < (fm5_36 y_9.toNatClampNeg) → J98_38 0) ∧ (¬ ((fm3_18 y_9.toNatClampNeg) < (fm5_36 y_9.toNatClampNeg)) → J98_38 1)) ∧ (∀ (t0_37 : Int32), J98_38 t0_37 → (¬ (4 : Int32) = 0) ∧ (∀ (r_41 : Int32) (fo2_42 : Int32) (fa2_43 : Int32), (((fo2_34 = 0 ∧ ¬ t0_37 = 0 ∧ r_41 = 1 ∧ fo2_42 = fo2_34 ∧ fa2_43 = fa2_35) ∨ (fo2_34 = 0 ∧ t0_37 = 0 ∧ r_41 = 0 ∧ fo2_42 = (4 : Int32) ∧ fa2_43 = fs2_33) ∨ (¬ fo2_34 = 0 ∧ r_41 = 0 ∧ fo2_42 = fo2_34 ∧ fa2_43 = fa2_35))) → (∀ (fm9_44 : (Nat → Int32)), (fm9_44 = (upd mn 2 ((mn 2) + 1))) → (MP L (stC B L wq aq tq) fo2_42 fa2_43 ap2_32 fm3_18 fm4_27 fm5_36 ks wa ne fm9_44 nu nw nf bf bn ∧ fr10 zs fm3_18 ∧ fr10 cl fm4_27 ∧ fr10 hs fm5_36 ∧ fr2 mn fm9_44)))))))))))))))))))))))))) := by
  obtain ⟨hX, ⟨ha, rfl, rfl, rfl⟩, rfl, hW, h9, h8⟩ := hp
  obtain ⟨n0, p0, T, ff, fn⟩ := tq
  have hL := hX.1
  dsimp only at h9 h8
  have hns : mn 2 = nI n0 := hW.1
  have hnp : mn 3 = nI p0 := hW.2.1
  have h99 : 9 ≤ mn 2 ↔ 9 ≤ n0 := by rw [hns]; exact nI_leI (a := 9) (by omega) (by omega)
  rw [h99]
  refine ⟨fun t => t = (if 9 ≤ n0 then 0 else 1), ⟨fun h => by rw [if_pos h], fun h => by rw [if_neg h]⟩, fun t ht => ⟨by decide, fun r fo2 fa2 hw => ?_⟩⟩
  by_cases q9 : 9 ≤ n0
  · rw [if_pos q9] at ht
    obtain ⟨rfl, rfl, rfl⟩ := want_no hw rfl ht
    have e : stC B L wq aq (n0, p0, T, ff, fn) = .inl (3, wq) := by unfold stC; rw [stN_9 (show 9 ≤ n0 from q9)]; rfl
    rw [e]
    exact ⟨fun _ => ⟨CSf.mk (f := 3) (by decide) (by decide) ha, fr10.rf _, fr10.rf _, fr10.rf _, rfl, rfl⟩, fun z => absurd rfl z⟩
  rw [if_neg q9] at ht
  have hlt : n0 < 9 := by omega
  obtain ⟨hr, hfo, hfa⟩ := want_ok hw rfl (by rw [ht]; decide)
  refine ⟨fun z => absurd (hr.symm.trans z) (by decide), fun _ y0 ey0 => ?_⟩
  have ey : y0 = nI (10 + n0) := by rw [ey0, hns]; exact ix1 10 n0
  subst ey
  have vy : vp_in (nI (10 + n0)) 20 := vp_in_nI (by omega) (by omega)
  have cy : (nI (10 + n0)).toNatClampNeg = 10 + n0 := nI_clamp (by omega)
  rw [cy]
  refine ⟨B, L, .inr aq, ⟨hX, ha, hfo, hfa, rfl⟩, fun r1 a1 t1 g1 f1 h1 => ⟨vy, fun zs2 ezs => ?_⟩⟩
  have h1 : CSn L (nuR B L 1 9999 aq) r1 g1 f1 a1 t1 := h1
  cases q1 : nuR B L 1 9999 aq with
  | inl x =>
    rw [q1] at h1
    have e : stC B L wq aq (n0, p0, T, ff, fn) = .inl x := by unfold stC; rw [stN_1 hlt q1]; rfl
    refine ⟨B, L, .inl x, ⟨hX, h1⟩, fun r2 a2 t2 g2 f2 h2 => ⟨vy, fun cl2 ecl => ⟨B, L, .inl x, ⟨hX, h2⟩, fun r3 a3 t3 g3 f3 h3 => ?_⟩⟩⟩
    refine ⟨vy, fun hs2 ehs2 => ⟨vy, vy, fun _ => True, ⟨fun _ => trivial, fun _ => trivial⟩, fun t _ => ⟨by decide, fun r4 fo4 fa4 hw4 mn2 emn2 => ?_⟩⟩⟩
    obtain ⟨-, rfl, rfl⟩ := want_ft hw4 (CSf.ne h3)
    rw [e]
    refine ⟨h3, ?_, ?_, ?_, ?_⟩
    · rw [ezs]; exact (fr10.rf zs).up (by omega)
    · rw [ecl]; exact (fr10.rf cl).up (by omega)
    · rw [ehs2]; exact (fr10.rf hs).up (by omega)
    · rw [emn2]; exact ⟨upd_ne (by omega), upd_ne (by omega)⟩
  | inr o1 =>
    obtain ⟨b1, u1, v1⟩ := o1
    rw [q1] at h1
    obtain ⟨k1, rfl, w1⟩ := h1
    refine ⟨B, L, .inr b1, ⟨hX, k1⟩, fun r2 a2 t2 g2 f2 h2 => ⟨vy, fun cl2 ecl => ?_⟩⟩
    have h2 : CSn L (nuR B L 2 999 b1) r2 g2 f2 a2 t2 := h2
    cases q2 : nuR B L 2 999 b1 with
    | inl x =>
      rw [q2] at h2
      have e : stC B L wq aq (n0, p0, T, ff, fn) = .inl x := by unfold stC; rw [stN_2 hlt q1 q2]; rfl
      refine ⟨B, L, .inl x, ⟨hX, h2⟩, fun r3 a3 t3 g3 f3 h3 => ?_⟩
      refine ⟨vy, fun hs2 ehs2 => ⟨vy, vy, fun _ => True, ⟨fun _ => trivial, fun _ => trivial⟩, fun t _ => ⟨by decide, fun r4 fo4 fa4 hw4 mn2 emn2 => ?_⟩⟩⟩
      obtain ⟨-, rfl, rfl⟩ := want_ft hw4 (CSf.ne h3)
      rw [e]
      refine ⟨h3, ?_, ?_, ?_, ?_⟩
      · rw [ezs]; exact (fr10.rf zs).up (by omega)
      · rw [ecl]; exact (fr10.rf cl).up (by omega)
      · rw [ehs2]; exact (fr10.rf hs).up (by omega)
      · rw [emn2]; exact ⟨upd_ne (by omega), upd_ne (by omega)⟩
    | inr o2 =>
      obtain ⟨b2, u2, v2⟩ := o2
      rw [q2] at h2
      obtain ⟨k2, rfl, w2⟩ := h2
      refine ⟨B, L, .inr b2, ⟨hX, k2⟩, fun r3 a3 t3 g3 f3 h3 => ?_⟩
      have h3 : CSn L (nuR B L 0 9999 b2) r3 g3 f3 a3 t3 := h3
      cases q3 : nuR B L 0 9999 b2 with
      | inl x =>
        rw [q3] at h3
        have e : stC B L wq aq (n0, p0, T, ff, fn) = .inl x := by unfold stC; rw [stN_3 hlt q1 q2 q3]; rfl
        refine ⟨vy, fun hs2 ehs2 => ⟨vy, vy, fun _ => True, ⟨fun _ => trivial, fun _ => trivial⟩, fun t _ => ⟨by decide, fun r4 fo4 fa4 hw4 mn2 emn2 => ?_⟩⟩⟩
        obtain ⟨-, rfl, rfl⟩ := want_ft hw4 (CSf.ne h3)
        rw [e]
        refine ⟨h3, ?_, ?_, ?_, ?_⟩
        · rw [ezs]; exact (fr10.rf zs).up (by omega)
        · rw [ecl]; exact (fr10.rf cl).up (by omega)
        · rw [ehs2]; exact (fr10.rf hs).up (by omega)
        · rw [emn2]; exact ⟨upd_ne (by omega), upd_ne (by omega)⟩
      | inr o3 =>
        obtain ⟨b3, u3, v3⟩ := o3
        rw [q3] at h3
        obtain ⟨⟨k3, hg3, hf3, rfl⟩, rfl, w3⟩ := h3
        refine ⟨vy, fun hs2 ehs2 => ⟨vy, vy, ?_⟩⟩
        have hcmp : zs2 (10 + n0) < hs2 (10 + n0) ↔ v1 < v3 := by rw [ezs, ehs2, upd_at, upd_at]; exact i_lt w1 w3
        rw [hcmp]
        refine ⟨fun t => t = (if v1 < v3 then 0 else 1), ⟨fun h => by rw [if_pos h], fun h => by rw [if_neg h]⟩, fun t ht2 => ⟨by decide, fun r4 fo4 fa4 hw4 mn2 emn2 => ?_⟩⟩
        have frs : fr10 zs zs2 ∧ fr10 cl cl2 ∧ fr10 hs hs2 ∧ fr2 mn mn2 := by
          refine ⟨?_, ?_, ?_, ?_⟩
          · rw [ezs]; exact (fr10.rf zs).up (by omega)
          · rw [ecl]; exact (fr10.rf cl).up (by omega)
          · rw [ehs2]; exact (fr10.rf hs).up (by omega)
          · rw [emn2]; exact ⟨upd_ne (by omega), upd_ne (by omega)⟩
        refine ⟨?_, frs⟩
        by_cases hle : v1 < v3
        · rw [if_pos hle] at ht2
          obtain ⟨-, rfl, rfl⟩ := want_no hw4 hg3 ht2
          have e : stC B L wq aq (n0, p0, T, ff, fn) = .inl (4, u3) := by unfold stC; rw [stN_4 hlt q1 q2 q3 hle]; rfl
          rw [e]
          exact CSf.mk (f := 4) (by decide) (by decide) k3
        · rw [if_neg hle] at ht2
          obtain ⟨-, w5, w6⟩ := want_ok hw4 hg3 (by rw [ht2]; decide)
          have e : stC B L wq aq (n0, p0, T, ff, fn) = .inr (b3, n0 + 1, p0, uT (uT (uT T 0 n0 v1) 1 n0 v2) 5 n0 v3, ff, fn) := by unfold stC; rw [stN_5 hlt q1 q2 q3 hle]; rfl
          rw [e, ezs, ecl, ehs2, emn2]
          exact ⟨⟨k3, w5.trans hg3, w6.trans hf3, rfl⟩, MW_stone hW w1 w2 w3⟩
theorem k_X8_takeStone (l : Launch) (G : Gt) (m0 m1 m2 m3 m4 m5 m6 m7 m8 m9 m10 m11 m12 m13 m14 : Nat) (sz : Nat) (mw : Nat → Int64) (ik : Nat → Int32) (zs : Nat → Int32) (cl : Nat → Int32) (hs : Nat → Int32) (ks : Nat → Int32) (wa : Nat → Int32) (ne : Nat → Int32) (mn : Nat → Int32) (tx : Nat → Int32) (th : Nat → Int32) (od : Nat → Int32) (bk : Nat → Int32) (bh : Nat → Int32) (fu : Int32) (fd : Int32) (fi : Int32) (nu : Int32) (nw : Int32) (nf : Int32) (bf : Int32) (bn : Int32) (ts : Int32) (ap : Int32) (fs : Int32) (ln : Int32) (fo : Int32) (fa : Int32) (wr : Int32) (x : Int32) (B : Nat → Int) (L : Nat) (aq : Nat) (wq : Nat) (tq : PTn) (hp : MX B L tx ts ∧ CSo L aq fo fa ap ∧ x = nI wq ∧ MW tq zs cl hs ks wa ne mn nu nw nf bf bn ∧ tq.1 ≤ 9 ∧ tq.2.1 ≤ 8) : MetV l yX8_takeStone wsX8_takeStone 2 50 G [.ref m0, .int x] [(m0, .inr (8, [.ref m1, .ref m2, .ref m3, .ref m4, .ref m5, .ref m6, .ref m7, .ref m8, .ref m9, .int fu, .int fd, .int fi, .int nu, .int nw, .int nf, .int bf, .int bn, .ref m10, .int ts, .int ap, .int fs, .int ln, .int fo, .int fa, .ref m11, .ref m12, .ref m13, .ref m14, .int wr])), aJ G m1 560 mw, aZ G m2 2 ik, aI G m3 20 zs, aI G m4 20 cl, aI G m5 20 hs, aI G m6 20 ks, aI G m7 20 wa, aI G m8 20 ne, aI G m9 4 mn, aI G m10 400 tx, aI G m11 6 th, aI G m12 6 od, aI G m13 30 bk, aI G m14 30 bh] sz (fun (u : (Nat → Int32) × (Nat → Int32) × (Nat → Int32) × (Nat → Int32) × (Int32) × (Int32) × (Int32) × (Int32)) => MP L (stC B L wq aq tq) u.2.2.2.2.2.2.1 u.2.2.2.2.2.2.2 u.2.2.2.2.1 u.1 u.2.1 u.2.2.1 ks wa ne u.2.2.2.1 nu nw nf bf bn ∧ fr10 zs u.1 ∧ fr10 cl u.2.1 ∧ fr10 hs u.2.2.1 ∧ fr2 mn u.2.2.2.1) (fun (u : (Nat → Int32) × (Nat → Int32) × (Nat → Int32) × (Nat → Int32) × (Int32) × (Int32) × (Int32) × (Int32)) => [(m0, .inr (8, [.ref m1, .ref m2, .ref m3, .ref m4, .ref m5, .ref m6, .ref m7, .ref m8, .ref m9, .int fu, .int fd, .int fi, .int nu, .int nw, .int nf, .int bf, .int bn, .ref m10, .int ts, .int u.2.2.2.2.1, .int u.2.2.2.2.2.1, .int ln, .int u.2.2.2.2.2.2.1, .int u.2.2.2.2.2.2.2, .ref m11, .ref m12, .ref m13, .ref m14, .int wr])), aJ G m1 560 mw, aZ G m2 2 ik, aI G m3 20 u.1, aI G m4 20 u.2.1, aI G m5 20 u.2.2.1, aI G m6 20 ks, aI G m7 20 wa, aI G m8 20 ne, aI G m9 4 u.2.2.2.1, aI G m10 400 tx, aI G m11 6 th, aI G m12 6 od, aI G m13 30 bk, aI G m14 30 bh]) :=
  c_X8_takeStone l G m0 m1 m2 m3 m4 m5 m6 m7 m8 m9 m10 m11 m12 m13 m14 sz mw ik zs cl hs ks wa ne mn tx th od bk bh fu fd fi nu nw nf bf bn ts ap fs ln fo fa wr x B L aq wq tq (v_X8_takeStone l G m0 m1 m2 m3 m4 m5 m6 m7 m8 m9 m10 m11 m12 m13 m14 sz mw ik zs cl hs ks wa ne mn tx th od bk bh fu fd fi nu nw nf bf bn ts ap fs ln fo fa wr x B L aq wq tq hp)

set_option maxHeartbeats 4000000 in
set_option maxRecDepth 100000 in
theorem c_X8_takePerson (l : Launch) (G : Gt) (m0 m1 m2 m3 m4 m5 m6 m7 m8 m9 m10 m11 m12 m13 m14 : Nat) (sz : Nat) (mw : Nat → Int64) (ik : Nat → Int32) (zs : Nat → Int32) (cl : Nat → Int32) (hs : Nat → Int32) (ks : Nat → Int32) (wa : Nat → Int32) (ne : Nat → Int32) (mn : Nat → Int32) (tx : Nat → Int32) (th : Nat → Int32) (od : Nat → Int32) (bk : Nat → Int32) (bh : Nat → Int32) (fu : Int32) (fd : Int32) (fi : Int32) (nu : Int32) (nw : Int32) (nf : Int32) (bf : Int32) (bn : Int32) (ts : Int32) (ap : Int32) (fs : Int32) (ln : Int32) (fo : Int32) (fa : Int32) (wr : Int32) (x : Int32) (B : Nat → Int) (L : Nat) (aq : Nat) (wq : Nat) (tq : PTn) (hv : ∃ (J17_2 : Int32 → Prop), ((8 ≤ (mn 3) → J17_2 0) ∧ (¬ (8 ≤ (mn 3)) → J17_2 1)) ∧ (∀ (t0_1 : Int32), J17_2 t0_1 → (¬ (3 : Int32) = 0) ∧ (∀ (r_5 : Int32) (fo2_6 : Int32) (fa2_7 : Int32), (((fo = 0 ∧ ¬ t0_1 = 0 ∧ r_5 = 1 ∧ fo2_6 = fo ∧ fa2_7 = fa) ∨ (fo = 0 ∧ t0_1 = 0 ∧ r_5 = 0 ∧ fo2_6 = (3 : Int32) ∧ fa2_7 = x) ∨ (¬ fo = 0 ∧ r_5 = 0 ∧ fo2_6 = fo ∧ fa2_7 = fa))) → ((r_5 = 0 → MP L (peC B L wq aq tq) fo2_6 fa2_7 ap zs cl hs ks wa ne mn nu nw nf bf bn ∧ fr10 ks ks ∧ fr10 wa wa ∧ fr10 ne ne ∧ fr2 mn mn) ∧ (¬ (r_5 = 0) → ∀ (y_9 : Int32), (y_9 = (10 + (mn 3))) → (∃ (gB_10 : Nat → Int) (gL_11 : Nat) (gaq_12 : Nat), ((MX gB_10 gL_11 tx ts ∧ ap = nI gaq_12 ∧ gaq_12 ≤ gL_11) ∧ (∀ (ap2_14 : Int32) (fs2_15 : Int32) (ln2_16 : Int32), (fs2_15 = nI (sk gB_10 gL_11 gaq_12) ∧ ap2_14 = nI (wE gB_10 gL_11 (sk gB_10 gL_11 gaq_12)) ∧ ln2_16 = nI (wE gB_10 gL_11 (sk gB_10 gL_11 gaq_12) - sk gB_10 gL_11 gaq_12)) → (∃ (J160_18 : Int32 → Prop), (∃ (gB_20 : Nat → Int) (gL_21 : Nat) (gwq_22 : Nat) (geq__23 : Nat) (gi__24 : Nat), ((MX gB_20 gL_21 tx ts ∧ fs2_15 = nI gwq_22 ∧ ln2_16 = nI (geq__23 - gwq_22) ∧ gwq_22 ≤ geq__23 ∧ geq__23 ≤ gL_21 ∧ gi__24 < 9 ∧ (5 : Int32) = nI (stL.getD gi__24 0) ∧ (∀ k, k < stL.getD gi__24 0 → ltr (112 : Int32) (108 : Int32) (97 : Int32) (105 : Int32) (110 : Int32) (0 : Int32) k = (stB.getD gi__24 []).getD k 0)) ∧ (∀ (r_25 : Int32), (r_25 = (if wIs gB_20 gwq_22 geq__23 gi__24 = true then 1 else 0)) → ((r_25 = 0 → ∃ (gB_27 : Nat → Int) (gL_28 : Nat) (gwq_29 : Nat) (geq__30 : Nat) (gi__31 : Nat), ((MX gB_27 gL_28 tx ts ∧ fs2_15 = nI gwq_29 ∧ ln2_16 = nI (geq__30 - gwq_29) ∧ gwq_29 ≤ geq__30 ∧ geq__30 ≤ gL_28 ∧ gi__31 < 9 ∧ (3 : Int32) = nI (stL.getD gi__31 0) ∧ (∀ k, k < stL.getD gi__31 0 → ltr (102 : Int32) (97 : Int32) (116 : Int32) (0 : Int32) (0 : Int32) (0 : Int32) k = (stB.getD gi__31 []).getD k 0)) ∧ (∀ (r_32 : Int32), (r_32 = (if wIs gB_27 gwq_29 geq__30 gi__31 = true then 1 else 0)) → ((r_32 = 0 → ∃ (gB_34 : Nat → Int) (gL_35 : Nat) (gwq_36 : Nat) (geq__37 : Nat) (gi__38 : Nat), ((MX gB_34 gL_35 tx ts ∧ fs2_15 = nI gwq_36 ∧ ln2_16 = nI (geq__37 - gwq_36) ∧ gwq_36 ≤ geq__37 ∧ geq__37 ≤ gL_35 ∧ gi__38 < 9 ∧ (5 : Int32) = nI (stL.getD gi__38 0) ∧ (∀ k, k < stL.getD gi__38 0 → ltr (109 : Int32) (105 : Int32) (115 : Int32) (101 : Int32) (114 : Int32) (0 : Int32) k = (stB.getD gi__38 []).getD k 0)) ∧ (∀ (r_39 : Int32), (r_39 = (if wIs gB_34 gwq_36 geq__37 gi__38 = true then 1 else 0)) → ((r_39 = 0 → ∃ (gB_41 : Nat → Int) (gL_42 : Nat) (gwq_43 : Nat) (geq__44 : Nat) (gi__45 : Nat), ((MX gB_41 gL_42 tx ts ∧ fs2_15 = nI gwq_43 ∧ ln2_16 = nI (geq__44 - gwq_43) ∧ gwq_43 ≤ geq__44 ∧ geq__44 ≤ gL_42 ∧ gi__45 < 9 ∧ (5 : Int32) = nI (stL.getD gi__45 0) ∧ (∀ k, k < stL.getD gi__45 0 → ltr (100 : Int32) (114 : Int32) (97 : Int32) (105 : Int32) (110 : Int32) (0 : Int32) k = (stB.getD gi__45 []).getD k 0)) ∧ (∀ (r_46 : Int32), (r_46 = (if wIs gB_41 gwq_43 geq__44 gi__45 = true then 1 else 0)) → ((r_46 = 0 → ∃ (gB_48 : Nat → Int) (gL_49 : Nat) (gwq_50 : Nat) (geq__51 : Nat) (gi__52 : Nat), ((MX gB_48 gL_49 tx ts ∧ fs2_15 = nI gwq_50 ∧ ln2_16 = nI (geq__51 - gwq_50) ∧ gwq_50 ≤ geq__51 ∧ geq__51 ≤ gL_49 ∧ gi__52 < 9 ∧ (6 : Int32) = nI (stL.getD gi__52 0) ∧ (∀ k, k < stL.getD gi__52 0 → ltr (98 : Int32) (101 : Int32) (103 : Int32) (103 : Int32) (97 : Int32) (114 : Int32) k = (stB.getD gi__52 []).getD k 0)) ∧ (∀ (r_53 : Int32), (r_53 = (if wIs gB_48 gwq_50 geq__51 gi__52 = true then 1 else 0)) → ((r_53 = 0 → J160_18 (-1)) ∧ (¬ (r_53 = 0) → J160_18 4))))) ∧ (¬ (r_46 = 0) → J160_18 3))))) ∧ (¬ (r_39 = 0) → J160_18 2))))) ∧ (¬ (r_32 = 0) → J160_18 1))))) ∧ (¬ (r_25 = 0) → J160_18 0))))) ∧ (∀ (t0_17 : Int32), J160_18 t0_17 → (vp_in y_9 20) ∧ (∀ (fm6_55 : (Nat → Int32)), (fm6_55 = (upd ks y_9.toNatClampNeg t0_17)) → ((vp_in y_9 20) ∧ (∃ (J176_57 : Int32 → Prop), (((fm6_55 y_9.toNatClampNeg) < 0 → J176_57 0) ∧ (¬ ((fm6_55 y_9.toNatClampNeg) < 0) → J176_57 1)) ∧ (∀ (t0_56 : Int32), J176_57 t0_56 → (¬ (1 : Int32) = 0) ∧ (∀ (r_60 : Int32) (fo2_61 : Int32) (fa2_62 : Int32), (((fo2_6 = 0 ∧ ¬ t0_56 = 0 ∧ r_60 = 1 ∧ fo2_61 = fo2_6 ∧ fa2_62 = fa2_7) ∨ (fo2_6 = 0 ∧ t0_56 = 0 ∧ r_60 = 0 ∧ fo2_61 = (1 : Int32) ∧ fa2_62 = fs2_15) ∨ (¬ fo2_6 = 0 ∧ r_60 = 0 ∧ fo2_61 = fo2_6 ∧ fa2_62 = fa2_7))) → ((r_60 = 0 → MP L (peC B L wq aq tq) fo2_61 fa2_62 ap2_14 zs cl hs fm6_55 wa ne mn nu nw nf bf bn ∧ fr10 ks fm6_55 ∧ fr10 wa wa ∧ fr10 ne ne ∧ fr2 mn mn) ∧ (¬ (r_60 = 0) → ∃ (gB_64 : Nat → Int) (gL_65 : Nat) (gst_66 : Flt ⊕ Nat), ((MX gB_64 gL_65 tx ts ∧ CSs gL_65 gst_66 fo2_61 fa2_62 ap2_14) ∧ (∀ (r_67 : Int32) (ap2_68 : Int32) (fs2_69 : Int32) (fo2_70 : Int32) (fa2_71 : Int32), (CSn gL_65 (bnd gst_66 (nuR gB_64 gL_65 (0 : Int32).toInt (9999 : Int32).toInt)) r_67 fo2_70 fa2_71 ap2_68 fs2_69) → ((vp_in y_9 20) ∧ (∀ (fm7_72 : (Nat → Int32)), (fm7_72 = (upd wa y_9.toNatClampNeg r_67)) → (∃ (gB_73 : Nat → Int) (gL_74 : Nat) (gst_75 : Flt ⊕ Nat), ((MX gB_73 gL_74 tx ts ∧ CSs gL_74 gst_75 fo2_70 fa2_71 ap2_68) ∧ (∀ (r_76 : Int32) (ap2_77 : Int32) (fs2_78 : Int32) (fo2_79 : Int32) (fa2_80 : Int32), (CSn gL_74 (bnd gst_75 (nuR gB_73 gL_74 (0 : Int32).toInt (9999 : Int32).toInt)) r_76 fo2_79 fa2_80 ap2_77 fs2_78) → ((vp_in y_9 20) ∧ (∀ (fm8_81 : (Nat → Int32)), (fm8_81 = (upd ne y_9.toNatClampNeg r_76)) → (∀ (fm9_82 : (Nat → Int32)), (fm9_82 = (upd mn 3 ((mn 3) + 1))) → (MP L (peC B L wq aq tq) fo2_79 fa2_80 ap2_77 zs cl hs fm6_55 fm7_72 fm8_81 fm9_82 nu nw nf bf bn ∧ fr10 ks fm6_55 ∧ fr10 wa fm7_72 ∧ fr10 ne fm8_81 ∧ fr2 mn fm9_82)))))))))))))))))))))))))))) : MetV l yX8_takePerson wsX8_takePerson 2 50 G [.ref m0, .int x] [(m0, .inr (8, [.ref m1, .ref m2, .ref m3, .ref m4, .ref m5, .ref m6, .ref m7, .ref m8, .ref m9, .int fu, .int fd, .int fi, .int nu, .int nw, .int nf, .int bf, .int bn, .ref m10, .int ts, .int ap, .int fs, .int ln, .int fo, .int fa, .ref m11, .ref m12, .ref m13, .ref m14, .int wr])), aJ G m1 560 mw, aZ G m2 2 ik, aI G m3 20 zs, aI G m4 20 cl, aI G m5 20 hs, aI G m6 20 ks, aI G m7 20 wa, aI G m8 20 ne, aI G m9 4 mn, aI G m10 400 tx, aI G m11 6 th, aI G m12 6 od, aI G m13 30 bk, aI G m14 30 bh] sz (fun (u : (Nat → Int32) × (Nat → Int32) × (Nat → Int32) × (Nat → Int32) × (Int32) × (Int32) × (Int32) × (Int32) × (Int32)) => MP L (peC B L wq aq tq) u.2.2.2.2.2.2.2.1 u.2.2.2.2.2.2.2.2 u.2.2.2.2.1 zs cl hs u.1 u.2.1 u.2.2.1 u.2.2.2.1 nu nw nf bf bn ∧ fr10 ks u.1 ∧ fr10 wa u.2.1 ∧ fr10 ne u.2.2.1 ∧ fr2 mn u.2.2.2.1) (fun (u : (Nat → Int32) × (Nat → Int32) × (Nat → Int32) × (Nat → Int32) × (Int32) × (Int32) × (Int32) × (Int32) × (Int32)) => [(m0, .inr (8, [.ref m1, .ref m2, .ref m3, .ref m4, .ref m5, .ref m6, .ref m7, .ref m8, .ref m9, .int fu, .int fd, .int fi, .int nu, .int nw, .int nf, .int bf, .int bn, .ref m10, .int ts, .int u.2.2.2.2.1, .int u.2.2.2.2.2.1, .int u.2.2.2.2.2.2.1, .int u.2.2.2.2.2.2.2.1, .int u.2.2.2.2.2.2.2.2, .ref m11, .ref m12, .ref m13, .ref m14, .int wr])), aJ G m1 560 mw, aZ G m2 2 ik, aI G m3 20 zs, aI G m4 20 cl, aI G m5 20 hs, aI G m6 20 u.1, aI G m7 20 u.2.1, aI G m8 20 u.2.2.1, aI G m9 4 u.2.2.2.1, aI G m10 400 tx, aI G m11 6 th, aI G m12 6 od, aI G m13 30 bk, aI G m14 30 bh]) := by
  refine x_startV (cc := cX8_takePerson) (maxL := 3) (ret := none) (by decide) rfl (Nat.le_of_ble_eq_true rfl) ?_
  intro p e s m args below meth c A R Q ls hRf hRl hQ C hP hD hS hA hSS hl
  obtain ⟨hx, hb, hr, hml, hown, hts, hlocks, hKK⟩ := C
  have hown : s.vm.findClass RX8 = some m.cls := hown
  have hl : lv_has ls 3 [(0, .ref m0), (1, .int x)] := hl
  have hinX8 : ∀ w ∈ u_ws RX8 TX8 29, w ∈ wsX8_takePerson := by decide +kernel
  have kl27 := hts (.fieldLink RX8 27 "WarmStonesModel" "kinds" "[I") (by decide +kernel)
  have kl30 := hts (.fieldLink RX8 30 "WarmStonesModel" "warmths" "[I") (by decide +kernel)
  have kl33 := hts (.fieldLink RX8 33 "WarmStonesModel" "needs" "[I") (by decide +kernel)
  have kl36 := hts (.fieldLink RX8 36 "WarmStonesModel" "many" "[I") (by decide +kernel)
  have kl90 := hts (.fieldLink RX8 90 "WarmStonesModel" "first" "I") (by decide +kernel)
  refine lv_aload_n hx hb dX8_takePerson_0 rfl (lv_at hl 0 rfl) ?_
  refine lv_aload_n hx hb dX8_takePerson_1 rfl (lv_at hl 0 rfl) ?_
  refine va_get (D := G.1) (ci := 8) (v := .ref m9) (C := RX8) (T := TX8) (N := 29) hx hb hts hinX8 hown hKK.1 hP 0 rfl rfl 8 (by decide) kl36 (fun _ h9 => h9) rfl dX8_takePerson_2 ?_
  refine lv_iconst (v := 3) hx hb dX8_takePerson_5 (by decide) ?_
  refine va_iald hx hb hKK.1 hP 9 0 rfl rfl (by unfold vp_in; decide) dX8_takePerson_6 ?_
  refine lv_bipush (v := 8) hx hb dX8_takePerson_7 (by decide) ?_
  obtain ⟨J17_2, hv, hj_85⟩ := hv
  have K_3 : ∀ (t0_1 : Int32) (H : Heap) (locs : List Loc) (ls : Array Slot), J17_2 t0_1 → va_P G.1 vwCl [(m0, .inr (8, [.ref m1, .ref m2, .ref m3, .ref m4, .ref m5, .ref m6, .ref m7, .ref m8, .ref m9, .int fu, .int fd, .int fi, .int nu, .int nw, .int nf, .int bf, .int bn, .ref m10, .int ts, .int ap, .int fs, .int ln, .int fo, .int fa, .ref m11, .ref m12, .ref m13, .ref m14, .int wr])), aJ G m1 560 mw, aZ G m2 2 ik, aI G m3 20 zs, aI G m4 20 cl, aI G m5 20 hs, aI G m6 20 ks, aI G m7 20 wa, aI G m8 20 ne, aI G m9 4 mn, aI G m10 400 tx, aI G m11 6 th, aI G m12 6 od, aI G m13 30 bk, aI G m14 30 bh] H → va_D A [(m0, .inr (8, [.ref m1, .ref m2, .ref m3, .ref m4, .ref m5, .ref m6, .ref m7, .ref m8, .ref m9, .int fu, .int fd, .int fi, .int nu, .int nw, .int nf, .int bf, .int bn, .ref m10, .int ts, .int ap, .int fs, .int ln, .int fo, .int fa, .ref m11, .ref m12, .ref m13, .ref m14, .int wr])), aJ G m1 560 mw, aZ G m2 2 ik, aI G m3 20 zs, aI G m4 20 cl, aI G m5 20 hs, aI G m6 20 ks, aI G m7 20 wa, aI G m8 20 ne, aI G m9 4 mn, aI G m10 400 tx, aI G m11 6 th, aI G m12 6 od, aI G m13 30 bk, aI G m14 30 bh] → va_S A s.heap H locs → lv_has ls 3 [(0, .ref m0), (1, .int x)] → W p l e R s m args below meth c H locs 0 0 Q (F0 m 17 ls [.int t0_1, .ref m0]) := by
    intro t0_1 H locs ls hi hP hD hS hl
    have hv := hj_85 t0_1 hi
    refine lv_iconst (v := 3) hx hb dX8_takePerson_17 (by decide) ?_
    refine lv_iload_n hx hb dX8_takePerson_18 rfl (lv_at hl 1 rfl) ?_
    obtain ⟨hp, hv⟩ := hv
    refine x_calli (wr := []) (w' := fun (u : (Int32) × (Int32)) => [(m0, .inr (8, [.ref m1, .ref m2, .ref m3, .ref m4, .ref m5, .ref m6, .ref m7, .ref m8, .ref m9, .int fu, .int fd, .int fi, .int nu, .int nw, .int nf, .int bf, .int bn, .ref m10, .int ts, .int ap, .int fs, .int ln, .int u.1, .int u.2, .ref m11, .ref m12, .ref m13, .ref m14, .int wr])), aJ G m1 560 mw, aZ G m2 2 ik, aI G m3 20 zs, aI G m4 20 cl, aI G m5 20 hs, aI G m6 20 ks, aI G m7 20 wa, aI G m8 20 ne, aI G m9 4 mn, aI G m10 400 tx, aI G m11 6 th, aI G m12 6 od, aI G m13 30 bk, aI G m14 30 bh]) (x_runV (As := [.int t0_1, .int 3, .int x]) (rest := []) (n := 3) (C := RX8) (ci := 8) ⟨hx, hb, hml, hown, hts⟩ (k_X8_want l G m0 m1 m2 m3 m4 m5 m6 m7 m8 m9 m10 m11 m12 m13 m14 _ mw ik zs cl hs ks wa ne mn tx th od bk bh fu fd fi nu nw nf bf bn ts ap fs ln fo fa wr t0_1 3 x hp) gX8_takePerson_X8_want rfl (by decide +kernel) ⟨Nat.le_trans (Nat.le_of_ble_eq_true rfl) hRf, Nat.le_trans (Nat.le_of_ble_eq_true rfl) hRl⟩ hKK hSS hS hA hP hD [0, 1, 2, 3, 4, 5, 6, 7, 8, 9, 10, 11, 12, 13, 14] (by decide) rfl rfl rfl 0 rfl rfl hl.1 rfl (Nat.le_of_ble_eq_true rfl) dX8_takePerson_19) hP hD hS hA [0, 1, 2, 3, 4, 5, 6, 7, 8, 9, 10, 11, 12, 13, 14] [] [0, 1, 2, 3, 4, 5, 6, 7, 8, 9, 10, 11, 12, 13, 14] rfl rfl (by decide) (by decide) (by decide) (fun _ => rfl) (fun r_5 u H locs hw hP hD hS => ?_)
    obtain ⟨fo2_6, fa2_7⟩ := u
    have hP : va_P G.1 vwCl [(m0, .inr (8, [.ref m1, .ref m2, .ref m3, .ref m4, .ref m5, .ref m6, .ref m7, .ref m8, .ref m9, .int fu, .int fd, .int fi, .int nu, .int nw, .int nf, .int bf, .int bn, .ref m10, .int ts, .int ap, .int fs, .int ln, .int fo2_6, .int fa2_7, .ref m11, .ref m12, .ref m13, .ref m14, .int wr])), aJ G m1 560 mw, aZ G m2 2 ik, aI G m3 20 zs, aI G m4 20 cl, aI G m5 20 hs, aI G m6 20 ks, aI G m7 20 wa, aI G m8 20 ne, aI G m9 4 mn, aI G m10 400 tx, aI G m11 6 th, aI G m12 6 od, aI G m13 30 bk, aI G m14 30 bh] H := hP
    have hD : va_D A [(m0, .inr (8, [.ref m1, .ref m2, .ref m3, .ref m4, .ref m5, .ref m6, .ref m7, .ref m8, .ref m9, .int fu, .int fd, .int fi, .int nu, .int nw, .int nf, .int bf, .int bn, .ref m10, .int ts, .int ap, .int fs, .int ln, .int fo2_6, .int fa2_7, .ref m11, .ref m12, .ref m13, .ref m14, .int wr])), aJ G m1 560 mw, aZ G m2 2 ik, aI G m3 20 zs, aI G m4 20 cl, aI G m5 20 hs, aI G m6 20 ks, aI G m7 20 wa, aI G m8 20 ne, aI G m9 4 mn, aI G m10 400 tx, aI G m11 6 th, aI G m12 6 od, aI G m13 30 bk, aI G m14 30 bh] := hD
    have hv := hv r_5 fo2_6 fa2_7 hw
    refine lv_if_eq (tgt := 225) hx hb dX8_takePerson_22 (by decide) (fun hc_8 => ?_) (fun hc_8 => ?_)
    · have hv := hv.1 hc_8
      exact x_vret (ks, wa, ne, mn, ap, fs, ln, fo2_6, fa2_7) hQ hx hb hr hlocks hS dX8_takePerson_225 hv hP hD
    · have hv := hv.2 hc_8
      refine lv_bipush (v := 10) hx hb dX8_takePerson_25 (by decide) ?_
      refine lv_aload_n hx hb dX8_takePerson_27 rfl (lv_at hl 0 rfl) ?_
      refine va_get (D := G.1) (ci := 8) (v := .ref m9) (C := RX8) (T := TX8) (N := 29) hx hb hts hinX8 hown hKK.1 hP 0 rfl rfl 8 (by decide) kl36 (fun _ h9 => h9) rfl dX8_takePerson_28 ?_
      refine lv_iconst (v := 3) hx hb dX8_takePerson_31 (by decide) ?_
      refine va_iald hx hb hKK.1 hP 9 0 rfl rfl (by unfold vp_in; decide) dX8_takePerson_32 ?_
      refine lv_iadd hx hb dX8_takePerson_33 ?_
      refine lv_topi (fun y_9 ey => ?_)
      have hv := hv y_9 ey
      refine lv_istore_n (lv' := [(2, .int y_9), (0, .ref m0), (1, .int x)]) hx hb dX8_takePerson_34 rfl hl (by decide) rfl (fun ls hl => ?_)
      refine lv_aload_n hx hb dX8_takePerson_35 rfl (lv_at hl 1 rfl) ?_
      obtain ⟨gB_10, gL_11, gaq_12, hv⟩ := hv
      obtain ⟨hp, hv⟩ := hv
      refine x_callv (wr := []) (w' := fun (u : (Int32) × (Int32) × (Int32)) => [(m0, .inr (8, [.ref m1, .ref m2, .ref m3, .ref m4, .ref m5, .ref m6, .ref m7, .ref m8, .ref m9, .int fu, .int fd, .int fi, .int nu, .int nw, .int nf, .int bf, .int bn, .ref m10, .int ts, .int u.1, .int u.2.1, .int u.2.2, .int fo2_6, .int fa2_7, .ref m11, .ref m12, .ref m13, .ref m14, .int wr])), aJ G m1 560 mw, aZ G m2 2 ik, aI G m3 20 zs, aI G m4 20 cl, aI G m5 20 hs, aI G m6 20 ks, aI G m7 20 wa, aI G m8 20 ne, aI G m9 4 mn, aI G m10 400 tx, aI G m11 6 th, aI G m12 6 od, aI G m13 30 bk, aI G m14 30 bh]) (x_runV (As := []) (rest := []) (n := 0) (C := RX8) (ci := 8) ⟨hx, hb, hml, hown, hts⟩ (k_X8_takeWord l G m0 m1 m2 m3 m4 m5 m6 m7 m8 m9 m10 m11 m12 m13 m14 _ mw ik zs cl hs ks wa ne mn tx th od bk bh fu fd fi nu nw nf bf bn ts ap fs ln fo2_6 fa2_7 wr gB_10 gL_11 gaq_12 hp) gX8_takePerson_X8_takeWord rfl (by decide +kernel) ⟨Nat.le_trans (Nat.le_of_ble_eq_true rfl) hRf, Nat.le_trans (Nat.le_of_ble_eq_true rfl) hRl⟩ hKK hSS hS hA hP hD [0, 1, 2, 3, 4, 5, 6, 7, 8, 9, 10, 11, 12, 13, 14] (by decide) rfl rfl rfl 0 rfl rfl hl.1 rfl (Nat.le_of_ble_eq_true rfl) dX8_takePerson_36) hP hD hS hA [0, 1, 2, 3, 4, 5, 6, 7, 8, 9, 10, 11, 12, 13, 14] [] [0, 1, 2, 3, 4, 5, 6, 7, 8, 9, 10, 11, 12, 13, 14] rfl rfl (by decide) (by decide) (by decide) (fun _ => rfl) (fun  u H locs hw hP hD hS => ?_)
      obtain ⟨ap2_14, fs2_15, ln2_16⟩ := u
      have hP : va_P G.1 vwCl [(m0, .inr (8, [.ref m1, .ref m2, .ref m3, .ref m4, .ref m5, .ref m6, .ref m7, .ref m8, .ref m9, .int fu, .int fd, .int fi, .int nu, .int nw, .int nf, .int bf, .int bn, .ref m10, .int ts, .int ap2_14, .int fs2_15, .int ln2_16, .int fo2_6, .int fa2_7, .ref m11, .ref m12, .ref m13, .ref m14, .int wr])), aJ G m1 560 mw, aZ G m2 2 ik, aI G m3 20 zs, aI G m4 20 cl, aI G m5 20 hs, aI G m6 20 ks, aI G m7 20 wa, aI G m8 20 ne, aI G m9 4 mn, aI G m10 400 tx, aI G m11 6 th, aI G m12 6 od, aI G m13 30 bk, aI G m14 30 bh] H := hP
      have hD : va_D A [(m0, .inr (8, [.ref m1, .ref m2, .ref m3, .ref m4, .ref m5, .ref m6, .ref m7, .ref m8, .ref m9, .int fu, .int fd, .int fi, .int nu, .int nw, .int nf, .int bf, .int bn, .ref m10, .int ts, .int ap2_14, .int fs2_15, .int ln2_16, .int fo2_6, .int fa2_7, .ref m11, .ref m12, .ref m13, .ref m14, .int wr])), aJ G m1 560 mw, aZ G m2 2 ik, aI G m3 20 zs, aI G m4 20 cl, aI G m5 20 hs, aI G m6 20 ks, aI G m7 20 wa, aI G m8 20 ne, aI G m9 4 mn, aI G m10 400 tx, aI G m11 6 th, aI G m12 6 od, aI G m13 30 bk, aI G m14 30 bh] := hD
      have hv := hv ap2_14 fs2_15 ln2_16 hw
      refine lv_aload_n hx hb dX8_takePerson_39 rfl (lv_at hl 1 rfl) ?_
      refine va_get (D := G.1) (ci := 8) (v := .ref m6) (C := RX8) (T := TX8) (N := 29) hx hb hts hinX8 hown hKK.1 hP 0 rfl rfl 5 (by decide) kl27 (fun _ h9 => h9) rfl dX8_takePerson_40 ?_
      refine lv_iload_n hx hb dX8_takePerson_43 rfl (lv_at hl 0 rfl) ?_
      obtain ⟨J160_18, hv, hj_84⟩ := hv
      have K_19 : ∀ (t0_17 : Int32) (H : Heap) (locs : List Loc) (ls : Array Slot), J160_18 t0_17 → va_P G.1 vwCl [(m0, .inr (8, [.ref m1, .ref m2, .ref m3, .ref m4, .ref m5, .ref m6, .ref m7, .ref m8, .ref m9, .int fu, .int fd, .int fi, .int nu, .int nw, .int nf, .int bf, .int bn, .ref m10, .int ts, .int ap2_14, .int fs2_15, .int ln2_16, .int fo2_6, .int fa2_7, .ref m11, .ref m12, .ref m13, .ref m14, .int wr])), aJ G m1 560 mw, aZ G m2 2 ik, aI G m3 20 zs, aI G m4 20 cl, aI G m5 20 hs, aI G m6 20 ks, aI G m7 20 wa, aI G m8 20 ne, aI G m9 4 mn, aI G m10 400 tx, aI G m11 6 th, aI G m12 6 od, aI G m13 30 bk, aI G m14 30 bh] H → va_D A [(m0, .inr (8, [.ref m1, .ref m2, .ref m3, .ref m4, .ref m5, .ref m6, .ref m7, .ref m8, .ref m9, .int fu, .int fd, .int fi, .int nu, .int nw, .int nf, .int bf, .int bn, .ref m10, .int ts, .int ap2_14, .int fs2_15, .int ln2_16, .int fo2_6, .int fa2_7, .ref m11, .ref m12, .ref m13, .ref m14, .int wr])), aJ G m1 560 mw, aZ G m2 2 ik, aI G m3 20 zs, aI G m4 20 cl, aI G m5 20 hs, aI G m6 20 ks, aI G m7 20 wa, aI G m8 20 ne, aI G m9 4 mn, aI G m10 400 tx, aI G m11 6 th, aI G m12 6 od, aI G m13 30 bk, aI G m14 30 bh] → va_S A s.heap H locs → lv_has ls 3 [(2, .int y_9), (0, .ref m0), (1, .int x)] → W p l e R s m args below meth c H locs 0 0 Q (F0 m 160 ls [.int t0_17, .int y_9, .ref m6]) := by
        intro t0_17 H locs ls hi hP hD hS hl
        have hv := hj_84 t0_17 hi
        obtain ⟨hin, hv⟩ := hv
        refine va_iast hx hb hKK.1 hP hD hS 6 0 rfl rfl hin dX8_takePerson_160 (fun H locs hP hD hS => ?_)
        obtain ⟨fm6_55, ef⟩ : ∃ z9_, z9_ = (upd ks y_9.toNatClampNeg t0_17) := ⟨_, rfl⟩
        have hP : va_P G.1 vwCl [(m0, .inr (8, [.ref m1, .ref m2, .ref m3, .ref m4, .ref m5, .ref m6, .ref m7, .ref m8, .ref m9, .int fu, .int fd, .int fi, .int nu, .int nw, .int nf, .int bf, .int bn, .ref m10, .int ts, .int ap2_14, .int fs2_15, .int ln2_16, .int fo2_6, .int fa2_7, .ref m11, .ref m12, .ref m13, .ref m14, .int wr])), aJ G m1 560 mw, aZ G m2 2 ik, aI G m3 20 zs, aI G m4 20 cl, aI G m5 20 hs, aI G m6 20 fm6_55, aI G m7 20 wa, aI G m8 20 ne, aI G m9 4 mn, aI G m10 400 tx, aI G m11 6 th, aI G m12 6 od, aI G m13 30 bk, aI G m14 30 bh] H := by rw [ef]; exact hP
        have hD : va_D A [(m0, .inr (8, [.ref m1, .ref m2, .ref m3, .ref m4, .ref m5, .ref m6, .ref m7, .ref m8, .ref m9, .int fu, .int fd, .int fi, .int nu, .int nw, .int nf, .int bf, .int bn, .ref m10, .int ts, .int ap2_14, .int fs2_15, .int ln2_16, .int fo2_6, .int fa2_7, .ref m11, .ref m12, .ref m13, .ref m14, .int wr])), aJ G m1 560 mw, aZ G m2 2 ik, aI G m3 20 zs, aI G m4 20 cl, aI G m5 20 hs, aI G m6 20 fm6_55, aI G m7 20 wa, aI G m8 20 ne, aI G m9 4 mn, aI G m10 400 tx, aI G m11 6 th, aI G m12 6 od, aI G m13 30 bk, aI G m14 30 bh] := by rw [ef]; exact hD
        have hv := hv fm6_55 ef
        refine lv_aload_n hx hb dX8_takePerson_161 rfl (lv_at hl 1 rfl) ?_
        refine lv_aload_n hx hb dX8_takePerson_162 rfl (lv_at hl 1 rfl) ?_
        refine va_get (D := G.1) (ci := 8) (v := .ref m6) (C := RX8) (T := TX8) (N := 29) hx hb hts hinX8 hown hKK.1 hP 0 rfl rfl 5 (by decide) kl27 (fun _ h9 => h9) rfl dX8_takePerson_163 ?_
        refine lv_iload_n hx hb dX8_takePerson_166 rfl (lv_at hl 0 rfl) ?_
        obtain ⟨hin, hv⟩ := hv
        refine va_iald hx hb hKK.1 hP 6 0 rfl rfl hin dX8_takePerson_167 ?_
        obtain ⟨J176_57, hv, hj_83⟩ := hv
        have K_58 : ∀ (t0_56 : Int32) (H : Heap) (locs : List Loc) (ls : Array Slot), J176_57 t0_56 → va_P G.1 vwCl [(m0, .inr (8, [.ref m1, .ref m2, .ref m3, .ref m4, .ref m5, .ref m6, .ref m7, .ref m8, .ref m9, .int fu, .int fd, .int fi, .int nu, .int nw, .int nf, .int bf, .int bn, .ref m10, .int ts, .int ap2_14, .int fs2_15, .int ln2_16, .int fo2_6, .int fa2_7, .ref m11, .ref m12, .ref m13, .ref m14, .int wr])), aJ G m1 560 mw, aZ G m2 2 ik, aI G m3 20 zs, aI G m4 20 cl, aI G m5 20 hs, aI G m6 20 fm6_55, aI G m7 20 wa, aI G m8 20 ne, aI G m9 4 mn, aI G m10 400 tx, aI G m11 6 th, aI G m12 6 od, aI G m13 30 bk, aI G m14 30 bh] H → va_D A [(m0, .inr (8, [.ref m1, .ref m2, .ref m3, .ref m4, .ref m5, .ref m6, .ref m7, .ref m8, .ref m9, .int fu, .int fd, .int fi, .int nu, .int nw, .int nf, .int bf, .int bn, .ref m10, .int ts, .int ap2_14, .int fs2_15, .int ln2_16, .int fo2_6, .int fa2_7, .ref m11, .ref m12, .ref m13, .ref m14, .int wr])), aJ G m1 560 mw, aZ G m2 2 ik, aI G m3 20 zs, aI G m4 20 cl, aI G m5 20 hs, aI G m6 20 fm6_55, aI G m7 20 wa, aI G m8 20 ne, aI G m9 4 mn, aI G m10 400 tx, aI G m11 6 th, aI G m12 6 od, aI G m13 30 bk, aI G m14 30 bh] → va_S A s.heap H locs → lv_has ls 3 [(2, .int y_9), (0, .ref m0), (1, .int x)] → W p l e R s m args below meth c H locs 0 0 Q (F0 m 176 ls [.int t0_56, .ref m0]) := by
          intro t0_56 H locs ls hi hP hD hS hl
          have hv := hj_83 t0_56 hi
          refine lv_iconst (v := 1) hx hb dX8_takePerson_176 (by decide) ?_
          refine lv_aload_n hx hb dX8_takePerson_177 rfl (lv_at hl 1 rfl) ?_
          refine va_get (D := G.1) (ci := 8) (v := .int fs2_15) (C := RX8) (T := TX8) (N := 29) hx hb hts hinX8 hown hKK.1 hP 0 rfl rfl 20 (by decide) kl90 (fun _ h9 => h9) rfl dX8_takePerson_178 ?_
          obtain ⟨hp, hv⟩ := hv
          refine x_calli (wr := []) (w' := fun (u : (Int32) × (Int32)) => [(m0, .inr (8, [.ref m1, .ref m2, .ref m3, .ref m4, .ref m5, .ref m6, .ref m7, .ref m8, .ref m9, .int fu, .int fd, .int fi, .int nu, .int nw, .int nf, .int bf, .int bn, .ref m10, .int ts, .int ap2_14, .int fs2_15, .int ln2_16, .int u.1, .int u.2, .ref m11, .ref m12, .ref m13, .ref m14, .int wr])), aJ G m1 560 mw, aZ G m2 2 ik, aI G m3 20 zs, aI G m4 20 cl, aI G m5 20 hs, aI G m6 20 fm6_55, aI G m7 20 wa, aI G m8 20 ne, aI G m9 4 mn, aI G m10 400 tx, aI G m11 6 th, aI G m12 6 od, aI G m13 30 bk, aI G m14 30 bh]) (x_runV (As := [.int t0_56, .int 1, .int fs2_15]) (rest := []) (n := 3) (C := RX8) (ci := 8) ⟨hx, hb, hml, hown, hts⟩ (k_X8_want l G m0 m1 m2 m3 m4 m5 m6 m7 m8 m9 m10 m11 m12 m13 m14 _ mw ik zs cl hs fm6_55 wa ne mn tx th od bk bh fu fd fi nu nw nf bf bn ts ap2_14 fs2_15 ln2_16 fo2_6 fa2_7 wr t0_56 1 fs2_15 hp) gX8_takePerson_X8_want rfl (by decide +kernel) ⟨Nat.le_trans (Nat.le_of_ble_eq_true rfl) hRf, Nat.le_trans (Nat.le_of_ble_eq_true rfl) hRl⟩ hKK hSS hS hA hP hD [0, 1, 2, 3, 4, 5, 6, 7, 8, 9, 10, 11, 12, 13, 14] (by decide) rfl rfl rfl 0 rfl rfl hl.1 rfl (Nat.le_of_ble_eq_true rfl) dX8_takePerson_181) hP hD hS hA [0, 1, 2, 3, 4, 5, 6, 7, 8, 9, 10, 11, 12, 13, 14] [] [0, 1, 2, 3, 4, 5, 6, 7, 8, 9, 10, 11, 12, 13, 14] rfl rfl (by decide) (by decide) (by decide) (fun _ => rfl) (fun r_60 u H locs hw hP hD hS => ?_)
          obtain ⟨fo2_61, fa2_62⟩ := u
          have hP : va_P G.1 vwCl [(m0, .inr (8, [.ref m1, .ref m2, .ref m3, .ref m4, .ref m5, .ref m6, .ref m7, .ref m8, .ref m9, .int fu, .int fd, .int fi, .int nu, .int nw, .int nf, .int bf, .int bn, .ref m10, .int ts, .int ap2_14, .int fs2_15, .int ln2_16, .int fo2_61, .int fa2_62, .ref m11, .ref m12, .ref m13, .ref m14, .int wr])), aJ G m1 560 mw, aZ G m2 2 ik, aI G m3 20 zs, aI G m4 20 cl, aI G m5 20 hs, aI G m6 20 fm6_55, aI G m7 20 wa, aI G m8 20 ne, aI G m9 4 mn, aI G m10 400 tx, aI G m11 6 th, aI G m12 6 od, aI G m13 30 bk, aI G m14 30 bh] H := hP
          have hD : va_D A [(m0, .inr (8, [.ref m1, .ref m2, .ref m3, .ref m4, .ref m5, .ref m6, .ref m7, .ref m8, .ref m9, .int fu, .int fd, .int fi, .int nu, .int nw, .int nf, .int bf, .int bn, .ref m10, .int ts, .int ap2_14, .int fs2_15, .int ln2_16, .int fo2_61, .int fa2_62, .ref m11, .ref m12, .ref m13, .ref m14, .int wr])), aJ G m1 560 mw, aZ G m2 2 ik, aI G m3 20 zs, aI G m4 20 cl, aI G m5 20 hs, aI G m6 20 fm6_55, aI G m7 20 wa, aI G m8 20 ne, aI G m9 4 mn, aI G m10 400 tx, aI G m11 6 th, aI G m12 6 od, aI G m13 30 bk, aI G m14 30 bh] := hD
          have hv := hv r_60 fo2_61 fa2_62 hw
          refine lv_if_eq (tgt := 225) hx hb dX8_takePerson_184 (by decide) (fun hc_63 => ?_) (fun hc_63 => ?_)
          · have hv := hv.1 hc_63
            exact x_vret (fm6_55, wa, ne, mn, ap2_14, fs2_15, ln2_16, fo2_61, fa2_62) hQ hx hb hr hlocks hS dX8_takePerson_225 hv hP hD
          · have hv := hv.2 hc_63
            refine lv_aload_n hx hb dX8_takePerson_187 rfl (lv_at hl 1 rfl) ?_
            refine va_get (D := G.1) (ci := 8) (v := .ref m7) (C := RX8) (T := TX8) (N := 29) hx hb hts hinX8 hown hKK.1 hP 0 rfl rfl 6 (by decide) kl30 (fun _ h9 => h9) rfl dX8_takePerson_188 ?_
            refine lv_iload_n hx hb dX8_takePerson_191 rfl (lv_at hl 0 rfl) ?_
            refine lv_aload_n hx hb dX8_takePerson_192 rfl (lv_at hl 1 rfl) ?_
            refine lv_iconst (v := 0) hx hb dX8_takePerson_193 (by decide) ?_
            refine lv_sipush (v := 9999) hx hb dX8_takePerson_194 (by decide) ?_
            obtain ⟨gB_64, gL_65, gst_66, hv⟩ := hv
            obtain ⟨hp, hv⟩ := hv
            refine x_calli (wr := []) (w' := fun (u : (Int32) × (Int32) × (Int32) × (Int32)) => [(m0, .inr (8, [.ref m1, .ref m2, .ref m3, .ref m4, .ref m5, .ref m6, .ref m7, .ref m8, .ref m9, .int fu, .int fd, .int fi, .int nu, .int nw, .int nf, .int bf, .int bn, .ref m10, .int ts, .int u.1, .int u.2.1, .int ln2_16, .int u.2.2.1, .int u.2.2.2, .ref m11, .ref m12, .ref m13, .ref m14, .int wr])), aJ G m1 560 mw, aZ G m2 2 ik, aI G m3 20 zs, aI G m4 20 cl, aI G m5 20 hs, aI G m6 20 fm6_55, aI G m7 20 wa, aI G m8 20 ne, aI G m9 4 mn, aI G m10 400 tx, aI G m11 6 th, aI G m12 6 od, aI G m13 30 bk, aI G m14 30 bh]) (x_runV (As := [.int 0, .int 9999]) (rest := [.int y_9, .ref m7]) (n := 2) (C := RX8) (ci := 8) ⟨hx, hb, hml, hown, hts⟩ (k_X8_takeNumber l G m0 m1 m2 m3 m4 m5 m6 m7 m8 m9 m10 m11 m12 m13 m14 _ mw ik zs cl hs fm6_55 wa ne mn tx th od bk bh fu fd fi nu nw nf bf bn ts ap2_14 fs2_15 ln2_16 fo2_61 fa2_62 wr 0 9999 gB_64 gL_65 gst_66 hp) gX8_takePerson_X8_takeNumber rfl (by decide +kernel) ⟨Nat.le_trans (Nat.le_of_ble_eq_true rfl) hRf, Nat.le_trans (Nat.le_of_ble_eq_true rfl) hRl⟩ hKK hSS hS hA hP hD [0, 1, 2, 3, 4, 5, 6, 7, 8, 9, 10, 11, 12, 13, 14] (by decide) rfl rfl rfl 0 rfl rfl hl.1 rfl (Nat.le_of_ble_eq_true rfl) dX8_takePerson_197) hP hD hS hA [0, 1, 2, 3, 4, 5, 6, 7, 8, 9, 10, 11, 12, 13, 14] [] [0, 1, 2, 3, 4, 5, 6, 7, 8, 9, 10, 11, 12, 13, 14] rfl rfl (by decide) (by decide) (by decide) (fun _ => rfl) (fun r_67 u H locs hw hP hD hS => ?_)
            obtain ⟨ap2_68, fs2_69, fo2_70, fa2_71⟩ := u
            have hP : va_P G.1 vwCl [(m0, .inr (8, [.ref m1, .ref m2, .ref m3, .ref m4, .ref m5, .ref m6, .ref m7, .ref m8, .ref m9, .int fu, .int fd, .int fi, .int nu, .int nw, .int nf, .int bf, .int bn, .ref m10, .int ts, .int ap2_68, .int fs2_69, .int ln2_16, .int fo2_70, .int fa2_71, .ref m11, .ref m12, .ref m13, .ref m14, .int wr])), aJ G m1 560 mw, aZ G m2 2 ik, aI G m3 20 zs, aI G m4 20 cl, aI G m5 20 hs, aI G m6 20 fm6_55, aI G m7 20 wa, aI G m8 20 ne, aI G m9 4 mn, aI G m10 400 tx, aI G m11 6 th, aI G m12 6 od, aI G m13 30 bk, aI G m14 30 bh] H := hP
            have hD : va_D A [(m0, .inr (8, [.ref m1, .ref m2, .ref m3, .ref m4, .ref m5, .ref m6, .ref m7, .ref m8, .ref m9, .int fu, .int fd, .int fi, .int nu, .int nw, .int nf, .int bf, .int bn, .ref m10, .int ts, .int ap2_68, .int fs2_69, .int ln2_16, .int fo2_70, .int fa2_71, .ref m11, .ref m12, .ref m13, .ref m14, .int wr])), aJ G m1 560 mw, aZ G m2 2 ik, aI G m3 20 zs, aI G m4 20 cl, aI G m5 20 hs, aI G m6 20 fm6_55, aI G m7 20 wa, aI G m8 20 ne, aI G m9 4 mn, aI G m10 400 tx, aI G m11 6 th, aI G m12 6 od, aI G m13 30 bk, aI G m14 30 bh] := hD
            have hv := hv r_67 ap2_68 fs2_69 fo2_70 fa2_71 hw
            obtain ⟨hin, hv⟩ := hv
            refine va_iast hx hb hKK.1 hP hD hS 7 0 rfl rfl hin dX8_takePerson_200 (fun H locs hP hD hS => ?_)
            obtain ⟨fm7_72, ef⟩ : ∃ z9_, z9_ = (upd wa y_9.toNatClampNeg r_67) := ⟨_, rfl⟩
            have hP : va_P G.1 vwCl [(m0, .inr (8, [.ref m1, .ref m2, .ref m3, .ref m4, .ref m5, .ref m6, .ref m7, .ref m8, .ref m9, .int fu, .int fd, .int fi, .int nu, .int nw, .int nf, .int bf, .int bn, .ref m10, .int ts, .int ap2_68, .int fs2_69, .int ln2_16, .int fo2_70, .int fa2_71, .ref m11, .ref m12, .ref m13, .ref m14, .int wr])), aJ G m1 560 mw, aZ G m2 2 ik, aI G m3 20 zs, aI G m4 20 cl, aI G m5 20 hs, aI G m6 20 fm6_55, aI G m7 20 fm7_72, aI G m8 20 ne, aI G m9 4 mn, aI G m10 400 tx, aI G m11 6 th, aI G m12 6 od, aI G m13 30 bk, aI G m14 30 bh] H := by rw [ef]; exact hP
            have hD : va_D A [(m0, .inr (8, [.ref m1, .ref m2, .ref m3, .ref m4, .ref m5, .ref m6, .ref m7, .ref m8, .ref m9, .int fu, .int fd, .int fi, .int nu, .int nw, .int nf, .int bf, .int bn, .ref m10, .int ts, .int ap2_68, .int fs2_69, .int ln2_16, .int fo2_70, .int fa2_71, .ref m11, .ref m12, .ref m13, .ref m14, .int wr])), aJ G m1 560 mw, aZ G m2 2 ik, aI G m3 20 zs, aI G m4 20 cl, aI G m5 20 hs, aI G m6 20 fm6_55, aI G m7 20 fm7_72, aI G m8 20 ne, aI G m9 4 mn, aI G m10 400 tx, aI G m11 6 th, aI G m12 6 od, aI G m13 30 bk, aI G m14 30 bh] := by rw [ef]; exact hD
            have hv := hv fm7_72 ef
            refine lv_aload_n hx hb dX8_takePerson_201 rfl (lv_at hl 1 rfl) ?_
            refine va_get (D := G.1) (ci := 8) (v := .ref m8) (C := RX8) (T := TX8) (N := 29) hx hb hts hinX8 hown hKK.1 hP 0 rfl rfl 7 (by decide) kl33 (fun _ h9 => h9) rfl dX8_takePerson_202 ?_
            refine lv_iload_n hx hb dX8_takePerson_205 rfl (lv_at hl 0 rfl) ?_
            refine lv_aload_n hx hb dX8_takePerson_206 rfl (lv_at hl 1 rfl) ?_
            refine lv_iconst (v := 0) hx hb dX8_takePerson_207 (by decide) ?_
            refine lv_sipush (v := 9999) hx hb dX8_takePerson_208 (by decide) ?_
            obtain ⟨gB_73, gL_74, gst_75, hv⟩ := hv
            obtain ⟨hp, hv⟩ := hv
            refine x_calli (wr := []) (w' := fun (u : (Int32) × (Int32) × (Int32) × (Int32)) => [(m0, .inr (8, [.ref m1, .ref m2, .ref m3, .ref m4, .ref m5, .ref m6, .ref m7, .ref m8, .ref m9, .int fu, .int fd, .int fi, .int nu, .int nw, .int nf, .int bf, .int bn, .ref m10, .int ts, .int u.1, .int u.2.1, .int ln2_16, .int u.2.2.1, .int u.2.2.2, .ref m11, .ref m12, .ref m13, .ref m14, .int wr])), aJ G m1 560 mw, aZ G m2 2 ik, aI G m3 20 zs, aI G m4 20 cl, aI G m5 20 hs, aI G m6 20 fm6_55, aI G m7 20 fm7_72, aI G m8 20 ne, aI G m9 4 mn, aI G m10 400 tx, aI G m11 6 th, aI G m12 6 od, aI G m13 30 bk, aI G m14 30 bh]) (x_runV (As := [.int 0, .int 9999]) (rest := [.int y_9, .ref m8]) (n := 2) (C := RX8) (ci := 8) ⟨hx, hb, hml, hown, hts⟩ (k_X8_takeNumber l G m0 m1 m2 m3 m4 m5 m6 m7 m8 m9 m10 m11 m12 m13 m14 _ mw ik zs cl hs fm6_55 fm7_72 ne mn tx th od bk bh fu fd fi nu nw nf bf bn ts ap2_68 fs2_69 ln2_16 fo2_70 fa2_71 wr 0 9999 gB_73 gL_74 gst_75 hp) gX8_takePerson_X8_takeNumber rfl (by decide +kernel) ⟨Nat.le_trans (Nat.le_of_ble_eq_true rfl) hRf, Nat.le_trans (Nat.le_of_ble_eq_true rfl) hRl⟩ hKK hSS hS hA hP hD [0, 1, 2, 3, 4, 5, 6, 7, 8, 9, 10, 11, 12, 13, 14] (by decide) rfl rfl rfl 0 rfl rfl hl.1 rfl (Nat.le_of_ble_eq_true rfl) dX8_takePerson_211) hP hD hS hA [0, 1, 2, 3, 4, 5, 6, 7, 8, 9, 10, 11, 12, 13, 14] [] [0, 1, 2, 3, 4, 5, 6, 7, 8, 9, 10, 11, 12, 13, 14] rfl rfl (by decide) (by decide) (by decide) (fun _ => rfl) (fun r_76 u H locs hw hP hD hS => ?_)
            obtain ⟨ap2_77, fs2_78, fo2_79, fa2_80⟩ := u
            have hP : va_P G.1 vwCl [(m0, .inr (8, [.ref m1, .ref m2, .ref m3, .ref m4, .ref m5, .ref m6, .ref m7, .ref m8, .ref m9, .int fu, .int fd, .int fi, .int nu, .int nw, .int nf, .int bf, .int bn, .ref m10, .int ts, .int ap2_77, .int fs2_78, .int ln2_16, .int fo2_79, .int fa2_80, .ref m11, .ref m12, .ref m13, .ref m14, .int wr])), aJ G m1 560 mw, aZ G m2 2 ik, aI G m3 20 zs, aI G m4 20 cl, aI G m5 20 hs, aI G m6 20 fm6_55, aI G m7 20 fm7_72, aI G m8 20 ne, aI G m9 4 mn, aI G m10 400 tx, aI G m11 6 th, aI G m12 6 od, aI G m13 30 bk, aI G m14 30 bh] H := hP
            have hD : va_D A [(m0, .inr (8, [.ref m1, .ref m2, .ref m3, .ref m4, .ref m5, .ref m6, .ref m7, .ref m8, .ref m9, .int fu, .int fd, .int fi, .int nu, .int nw, .int nf, .int bf, .int bn, .ref m10, .int ts, .int ap2_77, .int fs2_78, .int ln2_16, .int fo2_79, .int fa2_80, .ref m11, .ref m12, .ref m13, .ref m14, .int wr])), aJ G m1 560 mw, aZ G m2 2 ik, aI G m3 20 zs, aI G m4 20 cl, aI G m5 20 hs, aI G m6 20 fm6_55, aI G m7 20 fm7_72, aI G m8 20 ne, aI G m9 4 mn, aI G m10 400 tx, aI G m11 6 th, aI G m12 6 od, aI G m13 30 bk, aI G m14 30 bh] := hD
            have hv := hv r_76 ap2_77 fs2_78 fo2_79 fa2_80 hw
            obtain ⟨hin, hv⟩ := hv
            refine va_iast hx hb hKK.1 hP hD hS 8 0 rfl rfl hin dX8_takePerson_214 (fun H locs hP hD hS => ?_)
            obtain ⟨fm8_81, ef⟩ : ∃ z9_, z9_ = (upd ne y_9.toNatClampNeg r_76) := ⟨_, rfl⟩
            have hP : va_P G.1 vwCl [(m0, .inr (8, [.ref m1, .ref m2, .ref m3, .ref m4, .ref m5, .ref m6, .ref m7, .ref m8, .ref m9, .int fu, .int fd, .int fi, .int nu, .int nw, .int nf, .int bf, .int bn, .ref m10, .int ts, .int ap2_77, .int fs2_78, .int ln2_16, .int fo2_79, .int fa2_80, .ref m11, .ref m12, .ref m13, .ref m14, .int wr])), aJ G m1 560 mw, aZ G m2 2 ik, aI G m3 20 zs, aI G m4 20 cl, aI G m5 20 hs, aI G m6 20 fm6_55, aI G m7 20 fm7_72, aI G m8 20 fm8_81, aI G m9 4 mn, aI G m10 400 tx, aI G m11 6 th, aI G m12 6 od, aI G m13 30 bk, aI G m14 30 bh] H := by rw [ef]; exact hP
            have hD : va_D A [(m0, .inr (8, [.ref m1, .ref m2, .ref m3, .ref m4, .ref m5, .ref m6, .ref m7, .ref m8, .ref m9, .int fu, .int fd, .int fi, .int nu, .int nw, .int nf, .int bf, .int bn, .ref m10, .int ts, .int ap2_77, .int fs2_78, .int ln2_16, .int fo2_79, .int fa2_80, .ref m11, .ref m12, .ref m13, .ref m14, .int wr])), aJ G m1 560 mw, aZ G m2 2 ik, aI G m3 20 zs, aI G m4 20 cl, aI G m5 20 hs, aI G m6 20 fm6_55, aI G m7 20 fm7_72, aI G m8 20 fm8_81, aI G m9 4 mn, aI G m10 400 tx, aI G m11 6 th, aI G m12 6 od, aI G m13 30 bk, aI G m14 30 bh] := by rw [ef]; exact hD
            have hv := hv fm8_81 ef
            refine lv_aload_n hx hb dX8_takePerson_215 rfl (lv_at hl 1 rfl) ?_
            refine va_get (D := G.1) (ci := 8) (v := .ref m9) (C := RX8) (T := TX8) (N := 29) hx hb hts hinX8 hown hKK.1 hP 0 rfl rfl 8 (by decide) kl36 (fun _ h9 => h9) rfl dX8_takePerson_216 ?_
            refine lv_iconst (v := 3) hx hb dX8_takePerson_219 (by decide) ?_
            refine lv_dup2_11 hx hb dX8_takePerson_220 rfl rfl ?_
            refine va_iald hx hb hKK.1 hP 9 0 rfl rfl (by unfold vp_in; decide) dX8_takePerson_221 ?_
            refine lv_iconst (v := 1) hx hb dX8_takePerson_222 (by decide) ?_
            refine lv_iadd hx hb dX8_takePerson_223 ?_
            refine va_iast hx hb hKK.1 hP hD hS 9 0 rfl rfl (by unfold vp_in; decide) dX8_takePerson_224 (fun H locs hP hD hS => ?_)
            obtain ⟨fm9_82, ef⟩ : ∃ z9_, z9_ = (upd mn 3 ((mn 3) + 1)) := ⟨_, rfl⟩
            have hP : va_P G.1 vwCl [(m0, .inr (8, [.ref m1, .ref m2, .ref m3, .ref m4, .ref m5, .ref m6, .ref m7, .ref m8, .ref m9, .int fu, .int fd, .int fi, .int nu, .int nw, .int nf, .int bf, .int bn, .ref m10, .int ts, .int ap2_77, .int fs2_78, .int ln2_16, .int fo2_79, .int fa2_80, .ref m11, .ref m12, .ref m13, .ref m14, .int wr])), aJ G m1 560 mw, aZ G m2 2 ik, aI G m3 20 zs, aI G m4 20 cl, aI G m5 20 hs, aI G m6 20 fm6_55, aI G m7 20 fm7_72, aI G m8 20 fm8_81, aI G m9 4 fm9_82, aI G m10 400 tx, aI G m11 6 th, aI G m12 6 od, aI G m13 30 bk, aI G m14 30 bh] H := by rw [ef]; exact hP
            have hD : va_D A [(m0, .inr (8, [.ref m1, .ref m2, .ref m3, .ref m4, .ref m5, .ref m6, .ref m7, .ref m8, .ref m9, .int fu, .int fd, .int fi, .int nu, .int nw, .int nf, .int bf, .int bn, .ref m10, .int ts, .int ap2_77, .int fs2_78, .int ln2_16, .int fo2_79, .int fa2_80, .ref m11, .ref m12, .ref m13, .ref m14, .int wr])), aJ G m1 560 mw, aZ G m2 2 ik, aI G m3 20 zs, aI G m4 20 cl, aI G m5 20 hs, aI G m6 20 fm6_55, aI G m7 20 fm7_72, aI G m8 20 fm8_81, aI G m9 4 fm9_82, aI G m10 400 tx, aI G m11 6 th, aI G m12 6 od, aI G m13 30 bk, aI G m14 30 bh] := by rw [ef]; exact hD
            have hv := hv fm9_82 ef
            exact x_vret (fm6_55, fm7_72, fm8_81, fm9_82, ap2_77, fs2_78, ln2_16, fo2_79, fa2_80) hQ hx hb hr hlocks hS dX8_takePerson_225 hv hP hD
        refine lv_if_lt (tgt := 175) hx hb dX8_takePerson_168 (by decide) (fun hc_59 => ?_) (fun hc_59 => ?_)
        · have hv := hv.1 hc_59
          refine lv_iconst (v := 0) hx hb dX8_takePerson_175 (by decide) ?_
          exact K_58 _ _ _ _ hv hP hD hS hl
        · have hv := hv.2 hc_59
          refine lv_iconst (v := 1) hx hb dX8_takePerson_171 (by decide) ?_
          refine lv_goto (tgt := 176) hx hb dX8_takePerson_172 (by decide) ?_
          exact K_58 _ _ _ _ hv hP hD hS hl
      refine lv_aload_n hx hb dX8_takePerson_44 rfl (lv_at hl 1 rfl) ?_
      refine lv_iconst (v := 5) hx hb dX8_takePerson_45 (by decide) ?_
      refine lv_bipush (v := 112) hx hb dX8_takePerson_46 (by decide) ?_
      refine lv_bipush (v := 108) hx hb dX8_takePerson_48 (by decide) ?_
      refine lv_bipush (v := 97) hx hb dX8_takePerson_50 (by decide) ?_
      refine lv_bipush (v := 105) hx hb dX8_takePerson_52 (by decide) ?_
      refine lv_bipush (v := 110) hx hb dX8_takePerson_54 (by decide) ?_
      refine lv_iconst (v := 0) hx hb dX8_takePerson_56 (by decide) ?_
      obtain ⟨gB_20, gL_21, gwq_22, geq__23, gi__24, hv⟩ := hv
      obtain ⟨hp, hv⟩ := hv
      refine x_calliR (x_runV (As := [.int 5, .int 112, .int 108, .int 97, .int 105, .int 110, .int 0]) (rest := [.int y_9, .ref m6]) (n := 7) (C := RX8) (ci := 8) ⟨hx, hb, hml, hown, hts⟩ (k_X8_isWord l G m0 m1 m2 m3 m4 m5 m6 m7 m8 m9 m10 m11 m12 m13 m14 _ mw ik zs cl hs ks wa ne mn tx th od bk bh fu fd fi nu nw nf bf bn ts ap2_14 fs2_15 ln2_16 fo2_6 fa2_7 wr 5 112 108 97 105 110 0 gB_20 gL_21 gwq_22 geq__23 gi__24 hp) gX8_takePerson_X8_isWord rfl (by decide +kernel) ⟨Nat.le_trans (Nat.le_of_ble_eq_true rfl) hRf, Nat.le_trans (Nat.le_of_ble_eq_true rfl) hRl⟩ hKK hSS hS hA hP hD [0, 1, 2, 3, 4, 5, 6, 7, 8, 9, 10, 11, 12, 13, 14] (by decide) rfl rfl rfl 0 rfl rfl hl.1 rfl (Nat.le_of_ble_eq_true rfl) dX8_takePerson_57) hP hD hS hA [0, 1, 2, 3, 4, 5, 6, 7, 8, 9, 10, 11, 12, 13, 14] rfl (fun r_25 _ H locs hw hP hS => ?_)
      have hv := hv r_25 hw
      refine lv_if_eq (tgt := 67) hx hb dX8_takePerson_60 (by decide) (fun hc_26 => ?_) (fun hc_26 => ?_)
      · have hv := hv.1 hc_26
        refine lv_aload_n hx hb dX8_takePerson_67 rfl (lv_at hl 1 rfl) ?_
        refine lv_iconst (v := 3) hx hb dX8_takePerson_68 (by decide) ?_
        refine lv_bipush (v := 102) hx hb dX8_takePerson_69 (by decide) ?_
        refine lv_bipush (v := 97) hx hb dX8_takePerson_71 (by decide) ?_
        refine lv_bipush (v := 116) hx hb dX8_takePerson_73 (by decide) ?_
        refine lv_iconst (v := 0) hx hb dX8_takePerson_75 (by decide) ?_
        refine lv_iconst (v := 0) hx hb dX8_takePerson_76 (by decide) ?_
        refine lv_iconst (v := 0) hx hb dX8_takePerson_77 (by decide) ?_
        obtain ⟨gB_27, gL_28, gwq_29, geq__30, gi__31, hv⟩ := hv
        obtain ⟨hp, hv⟩ := hv
        refine x_calliR (x_runV (As := [.int 3, .int 102, .int 97, .int 116, .int 0, .int 0, .int 0]) (rest := [.int y_9, .ref m6]) (n := 7) (C := RX8) (ci := 8) ⟨hx, hb, hml, hown, hts⟩ (k_X8_isWord l G m0 m1 m2 m3 m4 m5 m6 m7 m8 m9 m10 m11 m12 m13 m14 _ mw ik zs cl hs ks wa ne mn tx th od bk bh fu fd fi nu nw nf bf bn ts ap2_14 fs2_15 ln2_16 fo2_6 fa2_7 wr 3 102 97 116 0 0 0 gB_27 gL_28 gwq_29 geq__30 gi__31 hp) gX8_takePerson_X8_isWord rfl (by decide +kernel) ⟨Nat.le_trans (Nat.le_of_ble_eq_true rfl) hRf, Nat.le_trans (Nat.le_of_ble_eq_true rfl) hRl⟩ hKK hSS hS hA hP hD [0, 1, 2, 3, 4, 5, 6, 7, 8, 9, 10, 11, 12, 13, 14] (by decide) rfl rfl rfl 0 rfl rfl hl.1 rfl (Nat.le_of_ble_eq_true rfl) dX8_takePerson_78) hP hD hS hA [0, 1, 2, 3, 4, 5, 6, 7, 8, 9, 10, 11, 12, 13, 14] rfl (fun r_32 _ H locs hw hP hS => ?_)
        have hv := hv r_32 hw
        refine lv_if_eq (tgt := 88) hx hb dX8_takePerson_81 (by decide) (fun hc_33 => ?_) (fun hc_33 => ?_)
        · have hv := hv.1 hc_33
          refine lv_aload_n hx hb dX8_takePerson_88 rfl (lv_at hl 1 rfl) ?_
          refine lv_iconst (v := 5) hx hb dX8_takePerson_89 (by decide) ?_
          refine lv_bipush (v := 109) hx hb dX8_takePerson_90 (by decide) ?_
          refine lv_bipush (v := 105) hx hb dX8_takePerson_92 (by decide) ?_
          refine lv_bipush (v := 115) hx hb dX8_takePerson_94 (by decide) ?_
          refine lv_bipush (v := 101) hx hb dX8_takePerson_96 (by decide) ?_
          refine lv_bipush (v := 114) hx hb dX8_takePerson_98 (by decide) ?_
          refine lv_iconst (v := 0) hx hb dX8_takePerson_100 (by decide) ?_
          obtain ⟨gB_34, gL_35, gwq_36, geq__37, gi__38, hv⟩ := hv
          obtain ⟨hp, hv⟩ := hv
          refine x_calliR (x_runV (As := [.int 5, .int 109, .int 105, .int 115, .int 101, .int 114, .int 0]) (rest := [.int y_9, .ref m6]) (n := 7) (C := RX8) (ci := 8) ⟨hx, hb, hml, hown, hts⟩ (k_X8_isWord l G m0 m1 m2 m3 m4 m5 m6 m7 m8 m9 m10 m11 m12 m13 m14 _ mw ik zs cl hs ks wa ne mn tx th od bk bh fu fd fi nu nw nf bf bn ts ap2_14 fs2_15 ln2_16 fo2_6 fa2_7 wr 5 109 105 115 101 114 0 gB_34 gL_35 gwq_36 geq__37 gi__38 hp) gX8_takePerson_X8_isWord rfl (by decide +kernel) ⟨Nat.le_trans (Nat.le_of_ble_eq_true rfl) hRf, Nat.le_trans (Nat.le_of_ble_eq_true rfl) hRl⟩ hKK hSS hS hA hP hD [0, 1, 2, 3, 4, 5, 6, 7, 8, 9, 10, 11, 12, 13, 14] (by decide) rfl rfl rfl 0 rfl rfl hl.1 rfl (Nat.le_of_ble_eq_true rfl) dX8_takePerson_101) hP hD hS hA [0, 1, 2, 3, 4, 5, 6, 7, 8, 9, 10, 11, 12, 13, 14] rfl (fun r_39 _ H locs hw hP hS => ?_)
          have hv := hv r_39 hw
          refine lv_if_eq (tgt := 111) hx hb dX8_takePerson_104 (by decide) (fun hc_40 => ?_) (fun hc_40 => ?_)
          · have hv := hv.1 hc_40
            refine lv_aload_n hx hb dX8_takePerson_111 rfl (lv_at hl 1 rfl) ?_
            refine lv_iconst (v := 5) hx hb dX8_takePerson_112 (by decide) ?_
            refine lv_bipush (v := 100) hx hb dX8_takePerson_113 (by decide) ?_
            refine lv_bipush (v := 114) hx hb dX8_takePerson_115 (by decide) ?_
            refine lv_bipush (v := 97) hx hb dX8_takePerson_117 (by decide) ?_
            refine lv_bipush (v := 105) hx hb dX8_takePerson_119 (by decide) ?_
            refine lv_bipush (v := 110) hx hb dX8_takePerson_121 (by decide) ?_
            refine lv_iconst (v := 0) hx hb dX8_takePerson_123 (by decide) ?_
            obtain ⟨gB_41, gL_42, gwq_43, geq__44, gi__45, hv⟩ := hv
            obtain ⟨hp, hv⟩ := hv
            refine x_calliR (x_runV (As := [.int 5, .int 100, .int 114, .int 97, .int 105, .int 110, .int 0]) (rest := [.int y_9, .ref m6]) (n := 7) (C := RX8) (ci := 8) ⟨hx, hb, hml, hown, hts⟩ (k_X8_isWord l G m0 m1 m2 m3 m4 m5 m6 m7 m8 m9 m10 m11 m12 m13 m14 _ mw ik zs cl hs ks wa ne mn tx th od bk bh fu fd fi nu nw nf bf bn ts ap2_14 fs2_15 ln2_16 fo2_6 fa2_7 wr 5 100 114 97 105 110 0 gB_41 gL_42 gwq_43 geq__44 gi__45 hp) gX8_takePerson_X8_isWord rfl (by decide +kernel) ⟨Nat.le_trans (Nat.le_of_ble_eq_true rfl) hRf, Nat.le_trans (Nat.le_of_ble_eq_true rfl) hRl⟩ hKK hSS hS hA hP hD [0, 1, 2, 3, 4, 5, 6, 7, 8, 9, 10, 11, 12, 13, 14] (by decide) rfl rfl rfl 0 rfl rfl hl.1 rfl (Nat.le_of_ble_eq_true rfl) dX8_takePerson_124) hP hD hS hA [0, 1, 2, 3, 4, 5, 6, 7, 8, 9, 10, 11, 12, 13, 14] rfl (fun r_46 _ H locs hw hP hS => ?_)
            have hv := hv r_46 hw
            refine lv_if_eq (tgt := 134) hx hb dX8_takePerson_127 (by decide) (fun hc_47 => ?_) (fun hc_47 => ?_)
            · have hv := hv.1 hc_47
              refine lv_aload_n hx hb dX8_takePerson_134 rfl (lv_at hl 1 rfl) ?_
              refine lv_bipush (v := 6) hx hb dX8_takePerson_135 (by decide) ?_
              refine lv_bipush (v := 98) hx hb dX8_takePerson_137 (by decide) ?_
              refine lv_bipush (v := 101) hx hb dX8_takePerson_139 (by decide) ?_
              refine lv_bipush (v := 103) hx hb dX8_takePerson_141 (by decide) ?_
              refine lv_bipush (v := 103) hx hb dX8_takePerson_143 (by decide) ?_
              refine lv_bipush (v := 97) hx hb dX8_takePerson_145 (by decide) ?_
              refine lv_bipush (v := 114) hx hb dX8_takePerson_147 (by decide) ?_
              obtain ⟨gB_48, gL_49, gwq_50, geq__51, gi__52, hv⟩ := hv
              obtain ⟨hp, hv⟩ := hv
              refine x_calliR (x_runV (As := [.int 6, .int 98, .int 101, .int 103, .int 103, .int 97, .int 114]) (rest := [.int y_9, .ref m6]) (n := 7) (C := RX8) (ci := 8) ⟨hx, hb, hml, hown, hts⟩ (k_X8_isWord l G m0 m1 m2 m3 m4 m5 m6 m7 m8 m9 m10 m11 m12 m13 m14 _ mw ik zs cl hs ks wa ne mn tx th od bk bh fu fd fi nu nw nf bf bn ts ap2_14 fs2_15 ln2_16 fo2_6 fa2_7 wr 6 98 101 103 103 97 114 gB_48 gL_49 gwq_50 geq__51 gi__52 hp) gX8_takePerson_X8_isWord rfl (by decide +kernel) ⟨Nat.le_trans (Nat.le_of_ble_eq_true rfl) hRf, Nat.le_trans (Nat.le_of_ble_eq_true rfl) hRl⟩ hKK hSS hS hA hP hD [0, 1, 2, 3, 4, 5, 6, 7, 8, 9, 10, 11, 12, 13, 14] (by decide) rfl rfl rfl 0 rfl rfl hl.1 rfl (Nat.le_of_ble_eq_true rfl) dX8_takePerson_149) hP hD hS hA [0, 1, 2, 3, 4, 5, 6, 7, 8, 9, 10, 11, 12, 13, 14] rfl (fun r_53 _ H locs hw hP hS => ?_)
              have hv := hv r_53 hw
              refine lv_if_eq (tgt := 159) hx hb dX8_takePerson_152 (by decide) (fun hc_54 => ?_) (fun hc_54 => ?_)
              · have hv := hv.1 hc_54
                refine lv_iconst (v := (-1)) hx hb dX8_takePerson_159 (by decide) ?_
                exact K_19 _ _ _ _ hv hP hD hS hl
              · have hv := hv.2 hc_54
                refine lv_iconst (v := 4) hx hb dX8_takePerson_155 (by decide) ?_
                refine lv_goto (tgt := 160) hx hb dX8_takePerson_156 (by decide) ?_
                exact K_19 _ _ _ _ hv hP hD hS hl
            · have hv := hv.2 hc_47
              refine lv_iconst (v := 3) hx hb dX8_takePerson_130 (by decide) ?_
              refine lv_goto (tgt := 160) hx hb dX8_takePerson_131 (by decide) ?_
              exact K_19 _ _ _ _ hv hP hD hS hl
          · have hv := hv.2 hc_40
            refine lv_iconst (v := 2) hx hb dX8_takePerson_107 (by decide) ?_
            refine lv_goto (tgt := 160) hx hb dX8_takePerson_108 (by decide) ?_
            exact K_19 _ _ _ _ hv hP hD hS hl
        · have hv := hv.2 hc_33
          refine lv_iconst (v := 1) hx hb dX8_takePerson_84 (by decide) ?_
          refine lv_goto (tgt := 160) hx hb dX8_takePerson_85 (by decide) ?_
          exact K_19 _ _ _ _ hv hP hD hS hl
      · have hv := hv.2 hc_26
        refine lv_iconst (v := 0) hx hb dX8_takePerson_63 (by decide) ?_
        refine lv_goto (tgt := 160) hx hb dX8_takePerson_64 (by decide) ?_
        exact K_19 _ _ _ _ hv hP hD hS hl
  refine lv_icmp_ge (tgt := 16) hx hb dX8_takePerson_9 (by decide) (fun hc_4 => ?_) (fun hc_4 => ?_)
  · have hv := hv.1 hc_4
    refine lv_iconst (v := 0) hx hb dX8_takePerson_16 (by decide) ?_
    exact K_3 _ _ _ _ hv hP hD hS hl
  · have hv := hv.2 hc_4
    refine lv_iconst (v := 1) hx hb dX8_takePerson_12 (by decide) ?_
    refine lv_goto (tgt := 17) hx hb dX8_takePerson_13 (by decide) ?_
    exact K_3 _ _ _ _ hv hP hD hS hl
theorem v_X8_takePerson (l : Launch) (G : Gt) (m0 m1 m2 m3 m4 m5 m6 m7 m8 m9 m10 m11 m12 m13 m14 : Nat) (sz : Nat) (mw : Nat → Int64) (ik : Nat → Int32) (zs : Nat → Int32) (cl : Nat → Int32) (hs : Nat → Int32) (ks : Nat → Int32) (wa : Nat → Int32) (ne : Nat → Int32) (mn : Nat → Int32) (tx : Nat → Int32) (th : Nat → Int32) (od : Nat → Int32) (bk : Nat → Int32) (bh : Nat → Int32) (fu : Int32) (fd : Int32) (fi : Int32) (nu : Int32) (nw : Int32) (nf : Int32) (bf : Int32) (bn : Int32) (ts : Int32) (ap : Int32) (fs : Int32) (ln : Int32) (fo : Int32) (fa : Int32) (wr : Int32) (x : Int32) (B : Nat → Int) (L : Nat) (aq : Nat) (wq : Nat) (tq : PTn) (hp : MX B L tx ts ∧ CSo L aq fo fa ap ∧ x = nI wq ∧ MW tq zs cl hs ks wa ne mn nu nw nf bf bn ∧ tq.1 ≤ 9 ∧ tq.2.1 ≤ 8) : ∃ (J17_2 : Int32 → Prop), ((8 ≤ (mn 3) → J17_2 0) ∧ (¬ (8 ≤ (mn 3)) → J17_2 1)) ∧ (∀ (t0_1 : Int32), J17_2 t0_1 → (¬ (3 : Int32) = 0) ∧ (∀ (r_5 : Int32) (fo2_6 : Int32) (fa2_7 : Int32), (((fo = 0 ∧ ¬ t0_1 = 0 ∧ r_5 = 1 ∧ fo2_6 = fo ∧ fa2_7 = fa) ∨ (fo = 0 ∧ t0_1 = 0 ∧ r_5 = 0 ∧ fo2_6 = (3 : Int32) ∧ fa2_7 = x) ∨ (¬ fo = 0 ∧ r_5 = 0 ∧ fo2_6 = fo ∧ fa2_7 = fa))) → ((r_5 = 0 → MP L (peC B L wq aq tq) fo2_6 fa2_7 ap zs cl hs ks wa ne mn nu nw nf bf bn ∧ fr10 ks ks ∧ fr10 wa wa ∧ fr10 ne ne ∧ fr2 mn mn) ∧ (¬ (r_5 = 0) → ∀ (y_9 : Int32), (y_9 = (10 + (mn 3))) → (∃ (gB_10 : Nat → Int) (gL_11 : Nat) (gaq_12 : Nat), ((MX gB_10 gL_11 tx ts ∧ ap = nI gaq_12 ∧ gaq_12 ≤ gL_11) ∧ (∀ (ap2_14 : Int32) (fs2_15 : Int32) (ln2_16 : Int32), (fs2_15 = nI (sk gB_10 gL_11 gaq_12) ∧ ap2_14 = nI (wE gB_10 gL_11 (sk gB_10 gL_11 gaq_12)) ∧ ln2_16 = nI (wE gB_10 gL_11 (sk gB_10 gL_11 gaq_12) - sk gB_10 gL_11 gaq_12)) → (∃ (J160_18 : Int32 → Prop), (∃ (gB_20 : Nat → Int) (gL_21 : Nat) (gwq_22 : Nat) (geq__23 : Nat) (gi__24 : Nat), ((MX gB_20 gL_21 tx ts ∧ fs2_15 = nI gwq_22 ∧ ln2_16 = nI (geq__23 - gwq_22) ∧ gwq_22 ≤ geq__23 ∧ geq__23 ≤ gL_21 ∧ gi__24 < 9 ∧ (5 : Int32) = nI (stL.getD gi__24 0) ∧ (∀ k, k < stL.getD gi__24 0 → ltr (112 : Int32) (108 : Int32) (97 : Int32) (105 : Int32) (110 : Int32) (0 : Int32) k = (stB.getD gi__24 []).getD k 0)) ∧ (∀ (r_25 : Int32), (r_25 = (if wIs gB_20 gwq_22 geq__23 gi__24 = true then 1 else 0)) → ((r_25 = 0 → ∃ (gB_27 : Nat → Int) (gL_28 : Nat) (gwq_29 : Nat) (geq__30 : Nat) (gi__31 : Nat), ((MX gB_27 gL_28 tx ts ∧ fs2_15 = nI gwq_29 ∧ ln2_16 = nI (geq__30 - gwq_29) ∧ gwq_29 ≤ geq__30 ∧ geq__30 ≤ gL_28 ∧ gi__31 < 9 ∧ (3 : Int32) = nI (stL.getD gi__31 0) ∧ (∀ k, k < stL.getD gi__31 0 → ltr (102 : Int32) (97 : Int32) (116 : Int32) (0 : Int32) (0 : Int32) (0 : Int32) k = (stB.getD gi__31 []).getD k 0)) ∧ (∀ (r_32 : Int32), (r_32 = (if wIs gB_27 gwq_29 geq__30 gi__31 = true then 1 else 0)) → ((r_32 = 0 → ∃ (gB_34 : Nat → Int) (gL_35 : Nat) (gwq_36 : Nat) (geq__37 : Nat) (gi__38 : Nat), ((MX gB_34 gL_35 tx ts ∧ fs2_15 = nI gwq_36 ∧ ln2_16 = nI (geq__37 - gwq_36) ∧ gwq_36 ≤ geq__37 ∧ geq__37 ≤ gL_35 ∧ gi__38 < 9 ∧ (5 : Int32) = nI (stL.getD gi__38 0) ∧ (∀ k, k < stL.getD gi__38 0 → ltr (109 : Int32) (105 : Int32) (115 : Int32) (101 : Int32) (114 : Int32) (0 : Int32) k = (stB.getD gi__38 []).getD k 0)) ∧ (∀ (r_39 : Int32), (r_39 = (if wIs gB_34 gwq_36 geq__37 gi__38 = true then 1 else 0)) → ((r_39 = 0 → ∃ (gB_41 : Nat → Int) (gL_42 : Nat) (gwq_43 : Nat) (geq__44 : Nat) (gi__45 : Nat), ((MX gB_41 gL_42 tx ts ∧ fs2_15 = nI gwq_43 ∧ ln2_16 = nI (geq__44 - gwq_43) ∧ gwq_43 ≤ geq__44 ∧ geq__44 ≤ gL_42 ∧ gi__45 < 9 ∧ (5 : Int32) = nI (stL.getD gi__45 0) ∧ (∀ k, k < stL.getD gi__45 0 → ltr (100 : Int32) (114 : Int32) (97 : Int32) (105 : Int32) (110 : Int32) (0 : Int32) k = (stB.getD gi__45 []).getD k 0)) ∧ (∀ (r_46 : Int32), (r_46 = (if wIs gB_41 gwq_43 geq__44 gi__45 = true then 1 else 0)) → ((r_46 = 0 → ∃ (gB_48 : Nat → Int) (gL_49 : Nat) (gwq_50 : Nat) (geq__51 : Nat) (gi__52 : Nat), ((MX gB_48 gL_49 tx ts ∧ fs2_15 = nI gwq_50 ∧ ln2_16 = nI (geq__51 - gwq_50) ∧ gwq_50 ≤ geq__51 ∧ geq__51 ≤ gL_49 ∧ gi__52 < 9 ∧ (6 : Int32) = nI (stL.getD gi__52 0) ∧ (∀ k, k < stL.getD gi__52 0 → ltr (98 : Int32) (101 : Int32) (103 : Int32) (103 : Int32) (97 : Int32) (114 : Int32) k = (stB.getD gi__52 []).getD k 0)) ∧ (∀ (r_53 : Int32), (r_53 = (if wIs gB_48 gwq_50 geq__51 gi__52 = true then 1 else 0)) → ((r_53 = 0 → J160_18 (-1)) ∧ (¬ (r_53 = 0) → J160_18 4))))) ∧ (¬ (r_46 = 0) → J160_18 3))))) ∧ (¬ (r_39 = 0) → J160_18 2))))) ∧ (¬ (r_32 = 0) → J160_18 1))))) ∧ (¬ (r_25 = 0) → J160_18 0))))) ∧ (∀ (t0_17 : Int32), J160_18 t0_17 → (vp_in y_9 20) ∧ (∀ (fm6_55 : (Nat → Int32)), (fm6_55 = (upd ks y_9.toNatClampNeg t0_17)) → ((vp_in y_9 20) ∧ (∃ (J176_57 : Int32 → Prop), (((fm6_55 y_9.toNatClampNeg) < 0 → J176_57 0) ∧ (¬ ((fm6_55 y_9.toNatClampNeg) < 0) → J176_57 1)) ∧ (∀ (t0_56 : Int32), J176_57 t0_56 → (¬ (1 : Int32) = 0) ∧ (∀ (r_60 : Int32) (fo2_61 : Int32) (fa2_62 : Int32), (((fo2_6 = 0 ∧ ¬ t0_56 = 0 ∧ r_60 = 1 ∧ fo2_61 = fo2_6 ∧ fa2_62 = fa2_7) ∨ (fo2_6 = 0 ∧ t0_56 = 0 ∧ r_60 = 0 ∧ fo2_61 = (1 : Int32) ∧ fa2_62 = fs2_15) ∨ (¬ fo2_6 = 0 ∧ r_60 = 0 ∧ fo2_61 = fo2_6 ∧ fa2_62 = fa2_7))) → ((r_60 = 0 → MP L (peC B L wq aq tq) fo2_61 fa2_62 ap2_14 zs cl hs fm6_55 wa ne mn nu nw nf bf bn ∧ fr10 ks fm6_55 ∧ fr10 wa wa ∧ fr10 ne ne ∧ fr2 mn mn) ∧ (¬ (r_60 = 0) → ∃ (gB_64 : Nat → Int) (gL_65 : Nat) (gst_66 : Flt ⊕ Nat), ((MX gB_64 gL_65 tx ts ∧ CSs gL_65 gst_66 fo2_61 fa2_62 ap2_14) ∧ (∀ (r_67 : Int32) (ap2_68 : Int32) (fs2_69 : Int32) (fo2_70 : Int32) (fa2_71 : Int32), (CSn gL_65 (bnd gst_66 (nuR gB_64 gL_65 (0 : Int32).toInt (9999 : Int32).toInt)) r_67 fo2_70 fa2_71 ap2_68 fs2_69) → ((vp_in y_9 20) ∧ (∀ (fm7_72 : (Nat → Int32)), (fm7_72 = (upd wa y_9.toNatClampNeg r_67)) → (∃ (gB_73 : Nat → Int) (gL_74 : Nat) (gst_75 : Flt ⊕ Nat), ((MX gB_73 gL_74 tx ts ∧ CSs gL_74 gst_75 fo2_70 fa2_71 ap2_68) ∧ (∀ (r_76 : Int32) (ap2_77 : Int32) (fs2_78 : Int32) (fo2_79 : Int32) (fa2_80 : Int32), (CSn gL_74 (bnd gst_75 (nuR gB_73 gL_74 (0 : Int32).toInt (9999 : Int32).toInt)) r_76 fo2_79 fa2_80 ap2_77 fs2_78) → ((vp_in y_9 20) ∧ (∀ (fm8_81 : (Nat → Int32)), (fm8_81 = (upd ne y_9.toNatClampNeg r_76)) → (∀ (fm9_82 : (Nat → Int32)), (fm9_82 = (upd mn 3 ((mn 3) + 1))) → (MP L (peC B L wq aq tq) fo2_79 fa2_80 ap2_77 zs cl hs fm6_55 fm7_72 fm8_81 fm9_82 nu nw nf bf bn ∧ fr10 ks fm6_55 ∧ fr10 wa fm7_72 ∧ fr10 ne fm8_81 ∧ fr2 mn fm9_82))))))))))))))))))))))))))) := by
  obtain ⟨hX, ⟨ha, rfl, rfl, rfl⟩, rfl, hW, h9, h8⟩ := hp
  obtain ⟨n0, p0, T, ff, fn⟩ := tq
  have hL := hX.1
  dsimp only at h9 h8
  have hns : mn 2 = nI n0 := hW.1
  have hnp : mn 3 = nI p0 := hW.2.1
  have h99 : 8 ≤ mn 3 ↔ 8 ≤ p0 := by rw [hnp]; exact nI_leI (a := 8) (by omega) (by omega)
  rw [h99]
  refine ⟨fun t => t = (if 8 ≤ p0 then 0 else 1), ⟨fun h => by rw [if_pos h], fun h => by rw [if_neg h]⟩, fun t ht => ⟨by decide, fun r fo2 fa2 hw => ?_⟩⟩
  by_cases q9 : 8 ≤ p0
  · rw [if_pos q9] at ht
    obtain ⟨rfl, rfl, rfl⟩ := want_no hw rfl ht
    have e : peC B L wq aq (n0, p0, T, ff, fn) = .inl (3, wq) := by unfold peC; rw [peN_9 (show 8 ≤ p0 from q9)]; rfl
    rw [e]
    exact ⟨fun _ => ⟨CSf.mk (f := 3) (by decide) (by decide) ha, fr10.rf _, fr10.rf _, fr10.rf _, rfl, rfl⟩, fun z => absurd rfl z⟩
  rw [if_neg q9] at ht
  have hlt : p0 < 8 := by omega
  obtain ⟨hr, hfo, hfa⟩ := want_ok hw rfl (by rw [ht]; decide)
  refine ⟨fun z => absurd (hr.symm.trans z) (by decide), fun _ y0 ey0 => ?_⟩
  have ey : y0 = nI (10 + p0) := by rw [ey0, hnp]; exact ix1 10 p0
  subst ey
  have vy : vp_in (nI (10 + p0)) 20 := vp_in_nI (by omega) (by omega)
  have cy : (nI (10 + p0)).toNatClampNeg = 10 + p0 := nI_clamp (by omega)
  rw [cy]
  have hsL := sk_L (B := B) ha
  have hwL := wE_L (B := B) hsL
  refine ⟨B, L, aq, ⟨hX, rfl, ha⟩, fun a1 s1 l1 h1 => ?_⟩
  obtain ⟨rfl, rfl, rfl⟩ := h1
  refine ⟨fun t => t.toInt = kdW B (sk B L aq) (wE B L (sk B L aq)), ?_, fun kv hkv => ?_⟩
  · refine ⟨B, L, sk B L aq, wE B L (sk B L aq), 4, ⟨hX, rfl, rfl, wE_le, hwL, by decide, rfl, by decide⟩, fun r hr => ?_⟩
    subst hr
    rw [tv_eq, Classical.not_not]
    refine ⟨fun h4 => ?_, fun h4 => by unfold kdW; rw [if_pos h4]; rfl⟩
    refine ⟨B, L, sk B L aq, wE B L (sk B L aq), 5, ⟨hX, rfl, rfl, wE_le, hwL, by decide, rfl, by decide⟩, fun r hr => ?_⟩
    subst hr
    rw [tv_eq, Classical.not_not]
    refine ⟨fun h5 => ?_, fun h5 => by unfold kdW; rw [if_neg h4, if_pos h5]; rfl⟩
    refine ⟨B, L, sk B L aq, wE B L (sk B L aq), 6, ⟨hX, rfl, rfl, wE_le, hwL, by decide, rfl, by decide⟩, fun r hr => ?_⟩
    subst hr
    rw [tv_eq, Classical.not_not]
    refine ⟨fun h6 => ?_, fun h6 => by unfold kdW; rw [if_neg h4, if_neg h5, if_pos h6]; rfl⟩
    refine ⟨B, L, sk B L aq, wE B L (sk B L aq), 7, ⟨hX, rfl, rfl, wE_le, hwL, by decide, rfl, by decide⟩, fun r hr => ?_⟩
    subst hr
    rw [tv_eq, Classical.not_not]
    refine ⟨fun h7 => ?_, fun h7 => by unfold kdW; rw [if_neg h4, if_neg h5, if_neg h6, if_pos h7]; rfl⟩
    refine ⟨B, L, sk B L aq, wE B L (sk B L aq), 8, ⟨hX, rfl, rfl, wE_le, hwL, by decide, rfl, by decide⟩, fun r hr => ?_⟩
    subst hr
    rw [tv_eq, Classical.not_not]
    refine ⟨fun h8 => ?_, fun h8 => by unfold kdW; rw [if_neg h4, if_neg h5, if_neg h6, if_neg h7, if_pos h8]; rfl⟩
    unfold kdW
    rw [if_neg h4, if_neg h5, if_neg h6, if_neg h7, if_neg h8]
    rfl
  refine ⟨vy, fun ks2 eks => ⟨vy, ?_⟩⟩
  have ek : ks2 (10 + p0) = kv := by rw [eks, upd_at]
  have frk : fr10 ks ks2 := by rw [eks]; exact (fr10.rf ks).up (by omega)
  rw [ek, kdW_i hkv]
  refine ⟨fun t => t = (if kdW B (sk B L aq) (wE B L (sk B L aq)) < 0 then 0 else 1), ⟨fun h => by rw [if_pos h], fun h => by rw [if_neg h]⟩, fun t ht2 => ⟨by decide, fun r2 fo3 fa3 hw2 => ?_⟩⟩
  by_cases hneg : kdW B (sk B L aq) (wE B L (sk B L aq)) < 0
  · rw [if_pos hneg] at ht2
    obtain ⟨rfl, rfl, rfl⟩ := want_no hw2 hfo ht2
    have qk : kiR B L aq = .inl (1, sk B L aq) := by unfold kiR; rw [if_pos hneg]
    have e : peC B L wq aq (n0, p0, T, ff, fn) = .inl (1, sk B L aq) := by unfold peC; rw [peN_1 hlt qk]; rfl
    rw [e]
    exact ⟨fun _ => ⟨CSf.mk (f := 1) (by decide) (by decide) hwL, frk, fr10.rf _, fr10.rf _, rfl, rfl⟩, fun z => absurd rfl z⟩
  rw [if_neg hneg] at ht2
  obtain ⟨hr2, hfo2, hfa2⟩ := want_ok hw2 hfo (by rw [ht2]; decide)
  have q1 : kiR B L aq = .inr (wE B L (sk B L aq), kdW B (sk B L aq) (wE B L (sk B L aq))) := by unfold kiR; rw [if_neg hneg]
  refine ⟨fun z => absurd (hr2.symm.trans z) (by decide), fun _ => ⟨B, L, .inr (wE B L (sk B L aq)), ⟨hX, hwL, hfo2.trans hfo, hfa2.trans hfa, rfl⟩, fun r3 a3 t3 g3 f3 h3 => ⟨vy, fun wa2 ewa => ?_⟩⟩⟩
  have fra : fr10 wa wa2 := by rw [ewa]; exact (fr10.rf wa).up (by omega)
  have h3 : CSn L (nuR B L 0 9999 (wE B L (sk B L aq))) r3 g3 f3 a3 t3 := h3
  cases q2 : nuR B L 0 9999 (wE B L (sk B L aq)) with
  | inl x =>
    rw [q2] at h3
    have e : peC B L wq aq (n0, p0, T, ff, fn) = .inl x := by unfold peC; rw [peN_2 hlt q1 q2]; rfl
    refine ⟨B, L, .inl x, ⟨hX, h3⟩, fun r4 a4 t4 g4 f4 h4 => ⟨vy, fun ne2 ene mn2 emn => ?_⟩⟩
    rw [e]
    refine ⟨h4, frk, fra, ?_, ?_⟩
    · rw [ene]; exact (fr10.rf ne).up (by omega)
    · rw [emn]; exact ⟨upd_ne (by omega), upd_ne (by omega)⟩
  | inr o2 =>
    obtain ⟨b2, u2, v2⟩ := o2
    rw [q2] at h3
    obtain ⟨k2, rfl, w2⟩ := h3
    refine ⟨B, L, .inr b2, ⟨hX, k2⟩, fun r4 a4 t4 g4 f4 h4 => ⟨vy, fun ne2 ene mn2 emn => ?_⟩⟩
    have h4 : CSn L (nuR B L 0 9999 b2) r4 g4 f4 a4 t4 := h4
    refine ⟨?_, frk, fra, ?_, ?_⟩
    · cases q3 : nuR B L 0 9999 b2 with
      | inl x =>
        rw [q3] at h4
        have e : peC B L wq aq (n0, p0, T, ff, fn) = .inl x := by unfold peC; rw [peN_3 hlt q1 q2 q3]; rfl
        rw [e]
        exact h4
      | inr o3 =>
        obtain ⟨b3, u3, v3⟩ := o3
        rw [q3] at h4
        obtain ⟨k3, rfl, w3⟩ := h4
        have e : peC B L wq aq (n0, p0, T, ff, fn) = .inr (b3, n0, p0 + 1, uT (uT (uT T 2 p0 (kdW B (sk B L aq) (wE B L (sk B L aq)))) 6 p0 v2) 3 p0 v3, ff, fn) := by unfold peC; rw [peN_5 hlt q1 q2 q3]; rfl
        rw [e, eks, ewa, ene, emn]
        exact ⟨k3, MW_person hW hkv w2 w3⟩
    · rw [ene]; exact (fr10.rf ne).up (by omega)
    · rw [emn]; exact ⟨upd_ne (by omega), upd_ne (by omega)⟩
theorem k_X8_takePerson (l : Launch) (G : Gt) (m0 m1 m2 m3 m4 m5 m6 m7 m8 m9 m10 m11 m12 m13 m14 : Nat) (sz : Nat) (mw : Nat → Int64) (ik : Nat → Int32) (zs : Nat → Int32) (cl : Nat → Int32) (hs : Nat → Int32) (ks : Nat → Int32) (wa : Nat → Int32) (ne : Nat → Int32) (mn : Nat → Int32) (tx : Nat → Int32) (th : Nat → Int32) (od : Nat → Int32) (bk : Nat → Int32) (bh : Nat → Int32) (fu : Int32) (fd : Int32) (fi : Int32) (nu : Int32) (nw : Int32) (nf : Int32) (bf : Int32) (bn : Int32) (ts : Int32) (ap : Int32) (fs : Int32) (ln : Int32) (fo : Int32) (fa : Int32) (wr : Int32) (x : Int32) (B : Nat → Int) (L : Nat) (aq : Nat) (wq : Nat) (tq : PTn) (hp : MX B L tx ts ∧ CSo L aq fo fa ap ∧ x = nI wq ∧ MW tq zs cl hs ks wa ne mn nu nw nf bf bn ∧ tq.1 ≤ 9 ∧ tq.2.1 ≤ 8) : MetV l yX8_takePerson wsX8_takePerson 2 50 G [.ref m0, .int x] [(m0, .inr (8, [.ref m1, .ref m2, .ref m3, .ref m4, .ref m5, .ref m6, .ref m7, .ref m8, .ref m9, .int fu, .int fd, .int fi, .int nu, .int nw, .int nf, .int bf, .int bn, .ref m10, .int ts, .int ap, .int fs, .int ln, .int fo, .int fa, .ref m11, .ref m12, .ref m13, .ref m14, .int wr])), aJ G m1 560 mw, aZ G m2 2 ik, aI G m3 20 zs, aI G m4 20 cl, aI G m5 20 hs, aI G m6 20 ks, aI G m7 20 wa, aI G m8 20 ne, aI G m9 4 mn, aI G m10 400 tx, aI G m11 6 th, aI G m12 6 od, aI G m13 30 bk, aI G m14 30 bh] sz (fun (u : (Nat → Int32) × (Nat → Int32) × (Nat → Int32) × (Nat → Int32) × (Int32) × (Int32) × (Int32) × (Int32) × (Int32)) => MP L (peC B L wq aq tq) u.2.2.2.2.2.2.2.1 u.2.2.2.2.2.2.2.2 u.2.2.2.2.1 zs cl hs u.1 u.2.1 u.2.2.1 u.2.2.2.1 nu nw nf bf bn ∧ fr10 ks u.1 ∧ fr10 wa u.2.1 ∧ fr10 ne u.2.2.1 ∧ fr2 mn u.2.2.2.1) (fun (u : (Nat → Int32) × (Nat → Int32) × (Nat → Int32) × (Nat → Int32) × (Int32) × (Int32) × (Int32) × (Int32) × (Int32)) => [(m0, .inr (8, [.ref m1, .ref m2, .ref m3, .ref m4, .ref m5, .ref m6, .ref m7, .ref m8, .ref m9, .int fu, .int fd, .int fi, .int nu, .int nw, .int nf, .int bf, .int bn, .ref m10, .int ts, .int u.2.2.2.2.1, .int u.2.2.2.2.2.1, .int u.2.2.2.2.2.2.1, .int u.2.2.2.2.2.2.2.1, .int u.2.2.2.2.2.2.2.2, .ref m11, .ref m12, .ref m13, .ref m14, .int wr])), aJ G m1 560 mw, aZ G m2 2 ik, aI G m3 20 zs, aI G m4 20 cl, aI G m5 20 hs, aI G m6 20 u.1, aI G m7 20 u.2.1, aI G m8 20 u.2.2.1, aI G m9 4 u.2.2.2.1, aI G m10 400 tx, aI G m11 6 th, aI G m12 6 od, aI G m13 30 bk, aI G m14 30 bh]) :=
  c_X8_takePerson l G m0 m1 m2 m3 m4 m5 m6 m7 m8 m9 m10 m11 m12 m13 m14 sz mw ik zs cl hs ks wa ne mn tx th od bk bh fu fd fi nu nw nf bf bn ts ap fs ln fo fa wr x B L aq wq tq (v_X8_takePerson l G m0 m1 m2 m3 m4 m5 m6 m7 m8 m9 m10 m11 m12 m13 m14 sz mw ik zs cl hs ks wa ne mn tx th od bk bh fu fd fi nu nw nf bf bn ts ap fs ln fo fa wr x B L aq wq tq hp)

set_option maxHeartbeats 4000000 in
set_option maxRecDepth 100000 in
theorem c_X8_takeClause (l : Launch) (G : Gt) (m0 m1 m2 m3 m4 m5 m6 m7 m8 m9 m10 m11 m12 m13 m14 : Nat) (sz : Nat) (mw : Nat → Int64) (ik : Nat → Int32) (zs : Nat → Int32) (cl : Nat → Int32) (hs : Nat → Int32) (ks : Nat → Int32) (wa : Nat → Int32) (ne : Nat → Int32) (mn : Nat → Int32) (tx : Nat → Int32) (th : Nat → Int32) (od : Nat → Int32) (bk : Nat → Int32) (bh : Nat → Int32) (fu : Int32) (fd : Int32) (fi : Int32) (nu : Int32) (nw : Int32) (nf : Int32) (bf : Int32) (bn : Int32) (ts : Int32) (ap : Int32) (fs : Int32) (ln : Int32) (fo : Int32) (fa : Int32) (wr : Int32) (B : Nat → Int) (L : Nat) (aq : Nat) (tq : PTn) (hv : ∃ (gB_1 : Nat → Int) (gL_2 : Nat) (gaq_3 : Nat), ((MX gB_1 gL_2 tx ts ∧ ap = nI gaq_3 ∧ gaq_3 ≤ gL_2) ∧ (∀ (ap2_5 : Int32) (fs2_6 : Int32) (ln2_7 : Int32), (fs2_6 = nI (sk gB_1 gL_2 gaq_3) ∧ ap2_5 = nI (wE gB_1 gL_2 (sk gB_1 gL_2 gaq_3)) ∧ ln2_7 = nI (wE gB_1 gL_2 (sk gB_1 gL_2 gaq_3) - sk gB_1 gL_2 gaq_3)) → (∃ (J196_25 : (Nat → Int32) → (Nat → Int32) → (Nat → Int32) → (Nat → Int32) → (Nat → Int32) → (Nat → Int32) → (Nat → Int32) → Int32 → Int32 → Int32 → Int32 → Int32 → Int32 → Int32 → Int32 → Int32 → Int32 → Prop), (∃ (gB_27 : Nat → Int) (gL_28 : Nat) (gwq_29 : Nat) (geq__30 : Nat) (gi__31 : Nat), ((MX gB_27 gL_28 tx ts ∧ fs2_6 = nI gwq_29 ∧ ln2_7 = nI (geq__30 - gwq_29) ∧ gwq_29 ≤ geq__30 ∧ geq__30 ≤ gL_28 ∧ gi__31 < 9 ∧ (5 : Int32) = nI (stL.getD gi__31 0) ∧ (∀ k, k < stL.getD gi__31 0 → ltr (115 : Int32) (116 : Int32) (111 : Int32) (110 : Int32) (101 : Int32) (0 : Int32) k = (stB.getD gi__31 []).getD k 0)) ∧ (∀ (r_32 : Int32), (r_32 = (if wIs gB_27 gwq_29 geq__30 gi__31 = true then 1 else 0)) → ((r_32 = 0 → ∃ (gB_34 : Nat → Int) (gL_35 : Nat) (gwq_36 : Nat) (geq__37 : Nat) (gi__38 : Nat), ((MX gB_34 gL_35 tx ts ∧ fs2_6 = nI gwq_36 ∧ ln2_7 = nI (geq__37 - gwq_36) ∧ gwq_36 ≤ geq__37 ∧ geq__37 ≤ gL_35 ∧ gi__38 < 9 ∧ (6 : Int32) = nI (stL.getD gi__38 0) ∧ (∀ k, k < stL.getD gi__38 0 → ltr (112 : Int32) (101 : Int32) (114 : Int32) (115 : Int32) (111 : Int32) (110 : Int32) k = (stB.getD gi__38 []).getD k 0)) ∧ (∀ (r_39 : Int32), (r_39 = (if wIs gB_34 gwq_36 geq__37 gi__38 = true then 1 else 0)) → ((r_39 = 0 → ∃ (gB_41 : Nat → Int) (gL_42 : Nat) (gwq_43 : Nat) (geq__44 : Nat) (gi__45 : Nat), ((MX gB_41 gL_42 tx ts ∧ fs2_6 = nI gwq_43 ∧ ln2_7 = nI (geq__44 - gwq_43) ∧ gwq_43 ≤ geq__44 ∧ geq__44 ≤ gL_42 ∧ gi__45 < 9 ∧ (5 : Int32) = nI (stL.getD gi__45 0) ∧ (∀ k, k < stL.getD gi__45 0 → ltr (102 : Int32) (114 : Int32) (111 : Int32) (115 : Int32) (116 : Int32) (0 : Int32) k = (stB.getD gi__45 []).getD k 0)) ∧ (∀ (r_46 : Int32), (r_46 = (if wIs gB_41 gwq_43 geq__44 gi__45 = true then 1 else 0)) → ((r_46 = 0 → ∃ (gB_48 : Nat → Int) (gL_49 : Nat) (gwq_50 : Nat) (geq__51 : Nat) (gi__52 : Nat), ((MX gB_48 gL_49 tx ts ∧ fs2_6 = nI gwq_50 ∧ ln2_7 = nI (geq__51 - gwq_50) ∧ gwq_50 ≤ geq__51 ∧ geq__51 ≤ gL_49 ∧ gi__52 < 9 ∧ (4 : Int32) = nI (stL.getD gi__52 0) ∧ (∀ k, k < stL.getD gi__52 0 → ltr (102 : Int32) (105 : Int32) (110 : Int32) (101 : Int32) (0 : Int32) (0 : Int32) k = (stB.getD gi__52 []).getD k 0)) ∧ (∀ (r_53 : Int32), (r_53 = (if wIs gB_48 gwq_50 geq__51 gi__52 = true then 1 else 0)) → ((¬ (1 : Int32) = 0) ∧ (∀ (r_54 : Int32) (fo2_55 : Int32) (fa2_56 : Int32), (((fo = 0 ∧ ¬ r_53 = 0 ∧ r_54 = 1 ∧ fo2_55 = fo ∧ fa2_56 = fa) ∨ (fo = 0 ∧ r_53 = 0 ∧ r_54 = 0 ∧ fo2_55 = (1 : Int32) ∧ fa2_56 = fs2_6) ∨ (¬ fo = 0 ∧ r_54 = 0 ∧ fo2_55 = fo ∧ fa2_56 = fa))) → ((r_54 = 0 → J196_25 zs cl hs ks wa ne mn nu nw nf bf bn ap2_5 fs2_6 ln2_7 fo2_55 fa2_56) ∧ (¬ (r_54 = 0) → ∃ (J172_59 : Int32 → Prop), ((¬ bn = 0 → J172_59 0) ∧ (bn = 0 → J172_59 1)) ∧ (∀ (t0_58 : Int32), J172_59 t0_58 → (¬ (3 : Int32) = 0) ∧ (∀ (r_62 : Int32) (fo2_63 : Int32) (fa2_64 : Int32), (((fo2_55 = 0 ∧ ¬ t0_58 = 0 ∧ r_62 = 1 ∧ fo2_63 = fo2_55 ∧ fa2_64 = fa2_56) ∨ (fo2_55 = 0 ∧ t0_58 = 0 ∧ r_62 = 0 ∧ fo2_63 = (3 : Int32) ∧ fa2_64 = fs2_6) ∨ (¬ fo2_55 = 0 ∧ r_62 = 0 ∧ fo2_63 = fo2_55 ∧ fa2_64 = fa2_56))) → ((r_62 = 0 → J196_25 zs cl hs ks wa ne mn nu nw nf bf bn ap2_5 fs2_6 ln2_7 fo2_63 fa2_64) ∧ (¬ (r_62 = 0) → ∃ (gB_66 : Nat → Int) (gL_67 : Nat) (gst_68 : Flt ⊕ Nat), ((MX gB_66 gL_67 tx ts ∧ CSs gL_67 gst_68 fo2_63 fa2_64 ap2_5) ∧ (∀ (r_69 : Int32) (ap2_70 : Int32) (fs2_71 : Int32) (fo2_72 : Int32) (fa2_73 : Int32), (CSn gL_67 (bnd gst_68 (nuR gB_66 gL_67 (0 : Int32).toInt (99 : Int32).toInt)) r_69 fo2_72 fa2_73 ap2_70 fs2_71) → (J196_25 zs cl hs ks wa ne mn nu nw r_69 bf 1 ap2_70 fs2_71 ln2_7 fo2_72 fa2_73)))))))))))))) ∧ (¬ (r_46 = 0) → ∃ (J97_76 : Int32 → Prop), ((¬ bf = 0 → J97_76 0) ∧ (bf = 0 → J97_76 1)) ∧ (∀ (t0_75 : Int32), J97_76 t0_75 → (¬ (3 : Int32) = 0) ∧ (∀ (r_79 : Int32) (fo2_80 : Int32) (fa2_81 : Int32), (((fo = 0 ∧ ¬ t0_75 = 0 ∧ r_79 = 1 ∧ fo2_80 = fo ∧ fa2_81 = fa) ∨ (fo = 0 ∧ t0_75 = 0 ∧ r_79 = 0 ∧ fo2_80 = (3 : Int32) ∧ fa2_81 = fs2_6) ∨ (¬ fo = 0 ∧ r_79 = 0 ∧ fo2_80 = fo ∧ fa2_81 = fa))) → ((r_79 = 0 → J196_25 zs cl hs ks wa ne mn nu nw nf bf bn ap2_5 fs2_6 ln2_7 fo2_80 fa2_81) ∧ (¬ (r_79 = 0) → ∃ (gB_83 : Nat → Int) (gL_84 : Nat) (gst_85 : Flt ⊕ Nat), ((MX gB_83 gL_84 tx ts ∧ CSs gL_84 gst_85 fo2_80 fa2_81 ap2_5) ∧ (∀ (r_86 : Int32) (ap2_87 : Int32) (fs2_88 : Int32) (fo2_89 : Int32) (fa2_90 : Int32), (CSn gL_84 (bnd gst_85 (nuR gB_83 gL_84 (0 : Int32).toInt (99 : Int32).toInt)) r_86 fo2_89 fa2_90 ap2_87 fs2_88) → (∃ (gB_91 : Nat → Int) (gL_92 : Nat) (gst_93 : Flt ⊕ Nat), ((MX gB_91 gL_92 tx ts ∧ CSs gL_92 gst_93 fo2_89 fa2_90 ap2_87) ∧ (∀ (r_94 : Int32) (ap2_95 : Int32) (fs2_96 : Int32) (fo2_97 : Int32) (fa2_98 : Int32), (CSn gL_92 (bnd gst_93 (nuR gB_91 gL_92 (0 : Int32).toInt (99 : Int32).toInt)) r_94 fo2_97 fa2_98 ap2_95 fs2_96) → (J196_25 zs cl hs ks wa ne mn r_86 r_94 nf 1 bn ap2_95 fs2_96 ln2_7 fo2_97 fa2_98))))))))))))))) ∧ (¬ (r_39 = 0) → ∃ (gB_100 : Nat → Int) (gL_101 : Nat) (gaq_102 : Nat) (gwq_103 : Nat) (gtq_104 : PTn), ((MX gB_100 gL_101 tx ts ∧ CSo gL_101 gaq_102 fo fa ap2_5 ∧ fs2_6 = nI gwq_103 ∧ MW gtq_104 zs cl hs ks wa ne mn nu nw nf bf bn ∧ gtq_104.1 ≤ 9 ∧ gtq_104.2.1 ≤ 8) ∧ (∀ (ks2_106 : Nat → Int32) (wa2_107 : Nat → Int32) (ne2_108 : Nat → Int32) (mn2_109 : Nat → Int32) (ap2_110 : Int32) (fs2_111 : Int32) (ln2_112 : Int32) (fo2_113 : Int32) (fa2_114 : Int32), (MP gL_101 (peC gB_100 gL_101 gwq_103 gaq_102 gtq_104) fo2_113 fa2_114 ap2_110 zs cl hs ks2_106 wa2_107 ne2_108 mn2_109 nu nw nf bf bn ∧ fr10 ks ks2_106 ∧ fr10 wa wa2_107 ∧ fr10 ne ne2_108 ∧ fr2 mn mn2_109) → (J196_25 zs cl hs ks2_106 wa2_107 ne2_108 mn2_109 nu nw nf bf bn ap2_110 fs2_111 ln2_112 fo2_113 fa2_114)))))))) ∧ (¬ (r_32 = 0) → ∃ (gB_115 : Nat → Int) (gL_116 : Nat) (gaq_117 : Nat) (gwq_118 : Nat) (gtq_119 : PTn), ((MX gB_115 gL_116 tx ts ∧ CSo gL_116 gaq_117 fo fa ap2_5 ∧ fs2_6 = nI gwq_118 ∧ MW gtq_119 zs cl hs ks wa ne mn nu nw nf bf bn ∧ gtq_119.1 ≤ 9 ∧ gtq_119.2.1 ≤ 8) ∧ (∀ (zs2_121 : Nat → Int32) (cl2_122 : Nat → Int32) (hs2_123 : Nat → Int32) (mn2_124 : Nat → Int32) (ap2_125 : Int32) (fs2_126 : Int32) (fo2_127 : Int32) (fa2_128 : Int32), (MP gL_116 (stC gB_115 gL_116 gwq_118 gaq_117 gtq_119) fo2_127 fa2_128 ap2_125 zs2_121 cl2_122 hs2_123 ks wa ne mn2_124 nu nw nf bf bn ∧ fr10 zs zs2_121 ∧ fr10 cl cl2_122 ∧ fr10 hs hs2_123 ∧ fr2 mn mn2_124) → (J196_25 zs2_121 cl2_122 hs2_123 ks wa ne mn2_124 nu nw nf bf bn ap2_125 fs2_126 ln2_7 fo2_127 fa2_128)))))))) ∧ (∀ (fm3_8 : (Nat → Int32)) (fm4_9 : (Nat → Int32)) (fm5_10 : (Nat → Int32)) (fm6_11 : (Nat → Int32)) (fm7_12 : (Nat → Int32)) (fm8_13 : (Nat → Int32)) (fm9_14 : (Nat → Int32)) (gm012_15 : Int32) (gm013_16 : Int32) (gm014_17 : Int32) (gm015_18 : Int32) (gm016_19 : Int32) (gm019_20 : Int32) (gm020_21 : Int32) (gm021_22 : Int32) (gm022_23 : Int32) (gm023_24 : Int32), J196_25 fm3_8 fm4_9 fm5_10 fm6_11 fm7_12 fm8_13 fm9_14 gm012_15 gm013_16 gm014_17 gm015_18 gm016_19 gm019_20 gm020_21 gm021_22 gm022_23 gm023_24 → (¬ gm022_23 = 0 → MP L (clR B L aq tq) gm022_23 gm023_24 gm019_20 fm3_8 fm4_9 fm5_10 fm6_11 fm7_12 fm8_13 fm9_14 gm012_15 gm013_16 gm014_17 gm015_18 gm016_19 ∧ fr10 zs fm3_8 ∧ fr10 cl fm4_9 ∧ fr10 hs fm5_10 ∧ fr10 ks fm6_11 ∧ fr10 wa fm7_12 ∧ fr10 ne fm8_13 ∧ fr2 mn fm9_14) ∧ (gm022_23 = 0 → ∃ (gB_130 : Nat → Int) (gL_131 : Nat) (gaq_132 : Nat), ((MX gB_130 gL_131 tx ts ∧ gm019_20 = nI gaq_132 ∧ gaq_132 ≤ gL_131) ∧ (∀ (r_133 : Int32) (ap2_134 : Int32), (ap2_134 = nI (sk gB_130 gL_131 gaq_132) ∧ r_133.toInt = (if sk gB_130 gL_131 gaq_132 < gL_131 then gB_130 (sk gB_130 gL_131 gaq_132) else -1)) → (∃ (J218_136 : Int32 → Prop), ((¬ r_133 = 59 → J218_136 0) ∧ (r_133 = 59 → J218_136 1)) ∧ (∀ (t0_135 : Int32), J218_136 t0_135 → (¬ (1 : Int32) = 0) ∧ (∀ (r_139 : Int32) (fo2_140 : Int32) (fa2_141 : Int32), (((gm022_23 = 0 ∧ ¬ t0_135 = 0 ∧ r_139 = 1 ∧ fo2_140 = gm022_23 ∧ fa2_141 = gm023_24) ∨ (gm022_23 = 0 ∧ t0_135 = 0 ∧ r_139 = 0 ∧ fo2_140 = (1 : Int32) ∧ fa2_141 = ap2_134) ∨ (¬ gm022_23 = 0 ∧ r_139 = 0 ∧ fo2_140 = gm022_23 ∧ fa2_141 = gm023_24))) → ((r_139 = 0 → MP L (clR B L aq tq) fo2_140 fa2_141 ap2_134 fm3_8 fm4_9 fm5_10 fm6_11 fm7_12 fm8_13 fm9_14 gm012_15 gm013_16 gm014_17 gm015_18 gm016_19 ∧ fr10 zs fm3_8 ∧ fr10 cl fm4_9 ∧ fr10 hs fm5_10 ∧ fr10 ks fm6_11 ∧ fr10 wa fm7_12 ∧ fr10 ne fm8_13 ∧ fr2 mn fm9_14) ∧ (¬ (r_139 = 0) → MP L (clR B L aq tq) fo2_140 fa2_141 (ap2_134 + 1) fm3_8 fm4_9 fm5_10 fm6_11 fm7_12 fm8_13 fm9_14 gm012_15 gm013_16 gm014_17 gm015_18 gm016_19 ∧ fr10 zs fm3_8 ∧ fr10 cl fm4_9 ∧ fr10 hs fm5_10 ∧ fr10 ks fm6_11 ∧ fr10 wa fm7_12 ∧ fr10 ne fm8_13 ∧ fr2 mn fm9_14))))))))))))) : MetV l yX8_takeClause wsX8_takeClause 3 73 G [.ref m0] [(m0, .inr (8, [.ref m1, .ref m2, .ref m3, .ref m4, .ref m5, .ref m6, .ref m7, .ref m8, .ref m9, .int fu, .int fd, .int fi, .int nu, .int nw, .int nf, .int bf, .int bn, .ref m10, .int ts, .int ap, .int fs, .int ln, .int fo, .int fa, .ref m11, .ref m12, .ref m13, .ref m14, .int wr])), aJ G m1 560 mw, aZ G m2 2 ik, aI G m3 20 zs, aI G m4 20 cl, aI G m5 20 hs, aI G m6 20 ks, aI G m7 20 wa, aI G m8 20 ne, aI G m9 4 mn, aI G m10 400 tx, aI G m11 6 th, aI G m12 6 od, aI G m13 30 bk, aI G m14 30 bh] sz (fun (u : (Nat → Int32) × (Nat → Int32) × (Nat → Int32) × (Nat → Int32) × (Nat → Int32) × (Nat → Int32) × (Nat → Int32) × (Int32) × (Int32) × (Int32) × (Int32) × (Int32) × (Int32) × (Int32) × (Int32) × (Int32) × (Int32)) => MP L (clR B L aq tq) u.2.2.2.2.2.2.2.2.2.2.1 u.2.2.2.2.2.2.2.2.2.2.2.1 u.2.2.2.2.2.2.2.1 u.1 u.2.1 u.2.2.1 u.2.2.2.1 u.2.2.2.2.1 u.2.2.2.2.2.1 u.2.2.2.2.2.2.1 u.2.2.2.2.2.2.2.2.2.2.2.2.2.2.1 u.2.2.2.2.2.2.2.2.2.2.2.2.2.2.2.1 u.2.2.2.2.2.2.2.2.2.2.2.2.2.2.2.2 u.2.2.2.2.2.2.2.2.2.2.2.2.1 u.2.2.2.2.2.2.2.2.2.2.2.2.2.1 ∧ fr10 zs u.1 ∧ fr10 cl u.2.1 ∧ fr10 hs u.2.2.1 ∧ fr10 ks u.2.2.2.1 ∧ fr10 wa u.2.2.2.2.1 ∧ fr10 ne u.2.2.2.2.2.1 ∧ fr2 mn u.2.2.2.2.2.2.1) (fun (u : (Nat → Int32) × (Nat → Int32) × (Nat → Int32) × (Nat → Int32) × (Nat → Int32) × (Nat → Int32) × (Nat → Int32) × (Int32) × (Int32) × (Int32) × (Int32) × (Int32) × (Int32) × (Int32) × (Int32) × (Int32) × (Int32)) => [(m0, .inr (8, [.ref m1, .ref m2, .ref m3, .ref m4, .ref m5, .ref m6, .ref m7, .ref m8, .ref m9, .int fu, .int fd, .int fi, .int u.2.2.2.2.2.2.2.2.2.2.2.2.2.2.1, .int u.2.2.2.2.2.2.2.2.2.2.2.2.2.2.2.1, .int u.2.2.2.2.2.2.2.2.2.2.2.2.2.2.2.2, .int u.2.2.2.2.2.2.2.2.2.2.2.2.1, .int u.2.2.2.2.2.2.2.2.2.2.2.2.2.1, .ref m10, .int ts, .int u.2.2.2.2.2.2.2.1, .int u.2.2.2.2.2.2.2.2.1, .int u.2.2.2.2.2.2.2.2.2.1, .int u.2.2.2.2.2.2.2.2.2.2.1, .int u.2.2.2.2.2.2.2.2.2.2.2.1, .ref m11, .ref m12, .ref m13, .ref m14, .int wr])), aJ G m1 560 mw, aZ G m2 2 ik, aI G m3 20 u.1, aI G m4 20 u.2.1, aI G m5 20 u.2.2.1, aI G m6 20 u.2.2.2.1, aI G m7 20 u.2.2.2.2.1, aI G m8 20 u.2.2.2.2.2.1, aI G m9 4 u.2.2.2.2.2.2.1, aI G m10 400 tx, aI G m11 6 th, aI G m12 6 od, aI G m13 30 bk, aI G m14 30 bh]) := by
  refine x_startV (cc := cX8_takeClause) (maxL := 2) (ret := none) (by decide) rfl (Nat.le_of_ble_eq_true rfl) ?_
  intro p e s m args below meth c A R Q ls hRf hRl hQ C hP hD hS hA hSS hl
  obtain ⟨hx, hb, hr, hml, hown, hts, hlocks, hKK⟩ := C
  have hown : s.vm.findClass RX8 = some m.cls := hown
  have hl : lv_has ls 2 [(0, .ref m0)] := hl
  have hinX8 : ∀ w ∈ u_ws RX8 TX8 29, w ∈ wsX8_takeClause := by decide +kernel
  have kl127 := hts (.fieldLink RX8 127 "WarmStonesModel" "isFrost" "Z") (by decide +kernel)
  have kl131 := hts (.fieldLink RX8 131 "WarmStonesModel" "newUp" "I") (by decide +kernel)
  have kl134 := hts (.fieldLink RX8 134 "WarmStonesModel" "newDown" "I") (by decide +kernel)
  have kl137 := hts (.fieldLink RX8 137 "WarmStonesModel" "isFine" "Z") (by decide +kernel)
  have kl140 := hts (.fieldLink RX8 140 "WarmStonesModel" "newFine" "I") (by decide +kernel)
  have kl80 := hts (.fieldLink RX8 80 "WarmStonesModel" "at" "I") (by decide +kernel)
  have kl83 := hts (.fieldLink RX8 83 "WarmStonesModel" "faultOf" "I") (by decide +kernel)
  have kl90 := hts (.fieldLink RX8 90 "WarmStonesModel" "first" "I") (by decide +kernel)
  refine lv_aload_n hx hb dX8_takeClause_0 rfl (lv_at hl 0 rfl) ?_
  obtain ⟨gB_1, gL_2, gaq_3, hv⟩ := hv
  obtain ⟨hp, hv⟩ := hv
  refine x_callv (wr := []) (w' := fun (u : (Int32) × (Int32) × (Int32)) => [(m0, .inr (8, [.ref m1, .ref m2, .ref m3, .ref m4, .ref m5, .ref m6, .ref m7, .ref m8, .ref m9, .int fu, .int fd, .int fi, .int nu, .int nw, .int nf, .int bf, .int bn, .ref m10, .int ts, .int u.1, .int u.2.1, .int u.2.2, .int fo, .int fa, .ref m11, .ref m12, .ref m13, .ref m14, .int wr])), aJ G m1 560 mw, aZ G m2 2 ik, aI G m3 20 zs, aI G m4 20 cl, aI G m5 20 hs, aI G m6 20 ks, aI G m7 20 wa, aI G m8 20 ne, aI G m9 4 mn, aI G m10 400 tx, aI G m11 6 th, aI G m12 6 od, aI G m13 30 bk, aI G m14 30 bh]) (x_runV (As := []) (rest := []) (n := 0) (C := RX8) (ci := 8) ⟨hx, hb, hml, hown, hts⟩ (k_X8_takeWord l G m0 m1 m2 m3 m4 m5 m6 m7 m8 m9 m10 m11 m12 m13 m14 _ mw ik zs cl hs ks wa ne mn tx th od bk bh fu fd fi nu nw nf bf bn ts ap fs ln fo fa wr gB_1 gL_2 gaq_3 hp) gX8_takeClause_X8_takeWord rfl (by decide +kernel) ⟨Nat.le_trans (Nat.le_of_ble_eq_true rfl) hRf, Nat.le_trans (Nat.le_of_ble_eq_true rfl) hRl⟩ hKK hSS hS hA hP hD [0, 1, 2, 3, 4, 5, 6, 7, 8, 9, 10, 11, 12, 13, 14] (by decide) rfl rfl rfl 0 rfl rfl hl.1 rfl (Nat.le_of_ble_eq_true rfl) dX8_takeClause_1) hP hD hS hA [0, 1, 2, 3, 4, 5, 6, 7, 8, 9, 10, 11, 12, 13, 14] [] [0, 1, 2, 3, 4, 5, 6, 7, 8, 9, 10, 11, 12, 13, 14] rfl rfl (by decide) (by decide) (by decide) (fun _ => rfl) (fun  u H locs hw hP hD hS => ?_)
  obtain ⟨ap2_5, fs2_6, ln2_7⟩ := u
  have hP : va_P G.1 vwCl [(m0, .inr (8, [.ref m1, .ref m2, .ref m3, .ref m4, .ref m5, .ref m6, .ref m7, .ref m8, .ref m9, .int fu, .int fd, .int fi, .int nu, .int nw, .int nf, .int bf, .int bn, .ref m10, .int ts, .int ap2_5, .int fs2_6, .int ln2_7, .int fo, .int fa, .ref m11, .ref m12, .ref m13, .ref m14, .int wr])), aJ G m1 560 mw, aZ G m2 2 ik, aI G m3 20 zs, aI G m4 20 cl, aI G m5 20 hs, aI G m6 20 ks, aI G m7 20 wa, aI G m8 20 ne, aI G m9 4 mn, aI G m10 400 tx, aI G m11 6 th, aI G m12 6 od, aI G m13 30 bk, aI G m14 30 bh] H := hP
  have hD : va_D A [(m0, .inr (8, [.ref m1, .ref m2, .ref m3, .ref m4, .ref m5, .ref m6, .ref m7, .ref m8, .ref m9, .int fu, .int fd, .int fi, .int nu, .int nw, .int nf, .int bf, .int bn, .ref m10, .int ts, .int ap2_5, .int fs2_6, .int ln2_7, .int fo, .int fa, .ref m11, .ref m12, .ref m13, .ref m14, .int wr])), aJ G m1 560 mw, aZ G m2 2 ik, aI G m3 20 zs, aI G m4 20 cl, aI G m5 20 hs, aI G m6 20 ks, aI G m7 20 wa, aI G m8 20 ne, aI G m9 4 mn, aI G m10 400 tx, aI G m11 6 th, aI G m12 6 od, aI G m13 30 bk, aI G m14 30 bh] := hD
  have hv := hv ap2_5 fs2_6 ln2_7 hw
  refine lv_aload_n hx hb dX8_takeClause_4 rfl (lv_at hl 0 rfl) ?_
  refine va_get (D := G.1) (ci := 8) (v := .int fs2_6) (C := RX8) (T := TX8) (N := 29) hx hb hts hinX8 hown hKK.1 hP 0 rfl rfl 20 (by decide) kl90 (fun _ h9 => h9) rfl dX8_takeClause_5 ?_
  refine lv_istore_n (lv' := [(1, .int fs2_6), (0, .ref m0)]) hx hb dX8_takeClause_8 rfl hl (by decide) rfl (fun ls hl => ?_)
  obtain ⟨J196_25, hv, hj_144⟩ := hv
  have K_26 : ∀ (fm3_8 : (Nat → Int32)) (fm4_9 : (Nat → Int32)) (fm5_10 : (Nat → Int32)) (fm6_11 : (Nat → Int32)) (fm7_12 : (Nat → Int32)) (fm8_13 : (Nat → Int32)) (fm9_14 : (Nat → Int32)) (gm012_15 : Int32) (gm013_16 : Int32) (gm014_17 : Int32) (gm015_18 : Int32) (gm016_19 : Int32) (gm019_20 : Int32) (gm020_21 : Int32) (gm021_22 : Int32) (gm022_23 : Int32) (gm023_24 : Int32) (H : Heap) (locs : List Loc) (ls : Array Slot), J196_25 fm3_8 fm4_9 fm5_10 fm6_11 fm7_12 fm8_13 fm9_14 gm012_15 gm013_16 gm014_17 gm015_18 gm016_19 gm019_20 gm020_21 gm021_22 gm022_23 gm023_24 → va_P G.1 vwCl [(m0, .inr (8, [.ref m1, .ref m2, .ref m3, .ref m4, .ref m5, .ref m6, .ref m7, .ref m8, .ref m9, .int fu, .int fd, .int fi, .int gm012_15, .int gm013_16, .int gm014_17, .int gm015_18, .int gm016_19, .ref m10, .int ts, .int gm019_20, .int gm020_21, .int gm021_22, .int gm022_23, .int gm023_24, .ref m11, .ref m12, .ref m13, .ref m14, .int wr])), aJ G m1 560 mw, aZ G m2 2 ik, aI G m3 20 fm3_8, aI G m4 20 fm4_9, aI G m5 20 fm5_10, aI G m6 20 fm6_11, aI G m7 20 fm7_12, aI G m8 20 fm8_13, aI G m9 4 fm9_14, aI G m10 400 tx, aI G m11 6 th, aI G m12 6 od, aI G m13 30 bk, aI G m14 30 bh] H → va_D A [(m0, .inr (8, [.ref m1, .ref m2, .ref m3, .ref m4, .ref m5, .ref m6, .ref m7, .ref m8, .ref m9, .int fu, .int fd, .int fi, .int gm012_15, .int gm013_16, .int gm014_17, .int gm015_18, .int gm016_19, .ref m10, .int ts, .int gm019_20, .int gm020_21, .int gm021_22, .int gm022_23, .int gm023_24, .ref m11, .ref m12, .ref m13, .ref m14, .int wr])), aJ G m1 560 mw, aZ G m2 2 ik, aI G m3 20 fm3_8, aI G m4 20 fm4_9, aI G m5 20 fm5_10, aI G m6 20 fm6_11, aI G m7 20 fm7_12, aI G m8 20 fm8_13, aI G m9 4 fm9_14, aI G m10 400 tx, aI G m11 6 th, aI G m12 6 od, aI G m13 30 bk, aI G m14 30 bh] → va_S A s.heap H locs → lv_has ls 2 [(1, .int fs2_6), (0, .ref m0)] → W p l e R s m args below meth c H locs 0 0 Q (F0 m 196 ls []) := by
    intro fm3_8 fm4_9 fm5_10 fm6_11 fm7_12 fm8_13 fm9_14 gm012_15 gm013_16 gm014_17 gm015_18 gm016_19 gm019_20 gm020_21 gm021_22 gm022_23 gm023_24 H locs ls hi hP hD hS hl
    have hv := hj_144 fm3_8 fm4_9 fm5_10 fm6_11 fm7_12 fm8_13 fm9_14 gm012_15 gm013_16 gm014_17 gm015_18 gm016_19 gm019_20 gm020_21 gm021_22 gm022_23 gm023_24 hi
    refine lv_aload_n hx hb dX8_takeClause_196 rfl (lv_at hl 1 rfl) ?_
    refine va_get (D := G.1) (ci := 8) (v := .int gm022_23) (C := RX8) (T := TX8) (N := 29) hx hb hts hinX8 hown hKK.1 hP 0 rfl rfl 22 (by decide) kl83 (fun _ h9 => h9) rfl dX8_takeClause_197 ?_
    refine lv_if_ne (tgt := 239) hx hb dX8_takeClause_200 (by decide) (fun hc_129 => ?_) (fun hc_129 => ?_)
    · have hv := hv.1 hc_129
      exact x_vret (fm3_8, fm4_9, fm5_10, fm6_11, fm7_12, fm8_13, fm9_14, gm019_20, gm020_21, gm021_22, gm022_23, gm023_24, gm015_18, gm016_19, gm012_15, gm013_16, gm014_17) hQ hx hb hr hlocks hS dX8_takeClause_239 hv hP hD
    · have hv := hv.2 hc_129
      refine lv_aload_n hx hb dX8_takeClause_203 rfl (lv_at hl 1 rfl) ?_
      refine lv_aload_n hx hb dX8_takeClause_204 rfl (lv_at hl 1 rfl) ?_
      obtain ⟨gB_130, gL_131, gaq_132, hv⟩ := hv
      obtain ⟨hp, hv⟩ := hv
      refine x_calli (wr := []) (w' := fun (u : (Int32)) => [(m0, .inr (8, [.ref m1, .ref m2, .ref m3, .ref m4, .ref m5, .ref m6, .ref m7, .ref m8, .ref m9, .int fu, .int fd, .int fi, .int gm012_15, .int gm013_16, .int gm014_17, .int gm015_18, .int gm016_19, .ref m10, .int ts, .int u, .int gm020_21, .int gm021_22, .int gm022_23, .int gm023_24, .ref m11, .ref m12, .ref m13, .ref m14, .int wr])), aJ G m1 560 mw, aZ G m2 2 ik, aI G m3 20 fm3_8, aI G m4 20 fm4_9, aI G m5 20 fm5_10, aI G m6 20 fm6_11, aI G m7 20 fm7_12, aI G m8 20 fm8_13, aI G m9 4 fm9_14, aI G m10 400 tx, aI G m11 6 th, aI G m12 6 od, aI G m13 30 bk, aI G m14 30 bh]) (x_runV (As := []) (rest := [.ref m0]) (n := 0) (C := RX8) (ci := 8) ⟨hx, hb, hml, hown, hts⟩ (k_X8_here l G m0 m1 m2 m3 m4 m5 m6 m7 m8 m9 m10 m11 m12 m13 m14 _ mw ik fm3_8 fm4_9 fm5_10 fm6_11 fm7_12 fm8_13 fm9_14 tx th od bk bh fu fd fi gm012_15 gm013_16 gm014_17 gm015_18 gm016_19 ts gm019_20 gm020_21 gm021_22 gm022_23 gm023_24 wr gB_130 gL_131 gaq_132 hp) gX8_takeClause_X8_here rfl (by decide +kernel) ⟨Nat.le_trans (Nat.le_of_ble_eq_true rfl) hRf, Nat.le_trans (Nat.le_of_ble_eq_true rfl) hRl⟩ hKK hSS hS hA hP hD [0, 1, 2, 3, 4, 5, 6, 7, 8, 9, 10, 11, 12, 13, 14] (by decide) rfl rfl rfl 0 rfl rfl hl.1 rfl (Nat.le_of_ble_eq_true rfl) dX8_takeClause_205) hP hD hS hA [0, 1, 2, 3, 4, 5, 6, 7, 8, 9, 10, 11, 12, 13, 14] [] [0, 1, 2, 3, 4, 5, 6, 7, 8, 9, 10, 11, 12, 13, 14] rfl rfl (by decide) (by decide) (by decide) (fun _ => rfl) (fun r_133 u H locs hw hP hD hS => ?_)
      obtain ⟨ap2_134, rfl⟩ : ∃ z9_, z9_ = u := ⟨_, rfl⟩
      have hP : va_P G.1 vwCl [(m0, .inr (8, [.ref m1, .ref m2, .ref m3, .ref m4, .ref m5, .ref m6, .ref m7, .ref m8, .ref m9, .int fu, .int fd, .int fi, .int gm012_15, .int gm013_16, .int gm014_17, .int gm015_18, .int gm016_19, .ref m10, .int ts, .int ap2_134, .int gm020_21, .int gm021_22, .int gm022_23, .int gm023_24, .ref m11, .ref m12, .ref m13, .ref m14, .int wr])), aJ G m1 560 mw, aZ G m2 2 ik, aI G m3 20 fm3_8, aI G m4 20 fm4_9, aI G m5 20 fm5_10, aI G m6 20 fm6_11, aI G m7 20 fm7_12, aI G m8 20 fm8_13, aI G m9 4 fm9_14, aI G m10 400 tx, aI G m11 6 th, aI G m12 6 od, aI G m13 30 bk, aI G m14 30 bh] H := hP
      have hD : va_D A [(m0, .inr (8, [.ref m1, .ref m2, .ref m3, .ref m4, .ref m5, .ref m6, .ref m7, .ref m8, .ref m9, .int fu, .int fd, .int fi, .int gm012_15, .int gm013_16, .int gm014_17, .int gm015_18, .int gm016_19, .ref m10, .int ts, .int ap2_134, .int gm020_21, .int gm021_22, .int gm022_23, .int gm023_24, .ref m11, .ref m12, .ref m13, .ref m14, .int wr])), aJ G m1 560 mw, aZ G m2 2 ik, aI G m3 20 fm3_8, aI G m4 20 fm4_9, aI G m5 20 fm5_10, aI G m6 20 fm6_11, aI G m7 20 fm7_12, aI G m8 20 fm8_13, aI G m9 4 fm9_14, aI G m10 400 tx, aI G m11 6 th, aI G m12 6 od, aI G m13 30 bk, aI G m14 30 bh] := hD
      have hv := hv r_133 ap2_134 hw
      refine lv_bipush (v := 59) hx hb dX8_takeClause_208 (by decide) ?_
      obtain ⟨J218_136, hv, hj_143⟩ := hv
      have K_137 : ∀ (t0_135 : Int32) (H : Heap) (locs : List Loc) (ls : Array Slot), J218_136 t0_135 → va_P G.1 vwCl [(m0, .inr (8, [.ref m1, .ref m2, .ref m3, .ref m4, .ref m5, .ref m6, .ref m7, .ref m8, .ref m9, .int fu, .int fd, .int fi, .int gm012_15, .int gm013_16, .int gm014_17, .int gm015_18, .int gm016_19, .ref m10, .int ts, .int ap2_134, .int gm020_21, .int gm021_22, .int gm022_23, .int gm023_24, .ref m11, .ref m12, .ref m13, .ref m14, .int wr])), aJ G m1 560 mw, aZ G m2 2 ik, aI G m3 20 fm3_8, aI G m4 20 fm4_9, aI G m5 20 fm5_10, aI G m6 20 fm6_11, aI G m7 20 fm7_12, aI G m8 20 fm8_13, aI G m9 4 fm9_14, aI G m10 400 tx, aI G m11 6 th, aI G m12 6 od, aI G m13 30 bk, aI G m14 30 bh] H → va_D A [(m0, .inr (8, [.ref m1, .ref m2, .ref m3, .ref m4, .ref m5, .ref m6, .ref m7, .ref m8, .ref m9, .int fu, .int fd, .int fi, .int gm012_15, .int gm013_16, .int gm014_17, .int gm015_18, .int gm016_19, .ref m10, .int ts, .int ap2_134, .int gm020_21, .int gm021_22, .int gm022_23, .int gm023_24, .ref m11, .ref m12, .ref m13, .ref m14, .int wr])), aJ G m1 560 mw, aZ G m2 2 ik, aI G m3 20 fm3_8, aI G m4 20 fm4_9, aI G m5 20 fm5_10, aI G m6 20 fm6_11, aI G m7 20 fm7_12, aI G m8 20 fm8_13, aI G m9 4 fm9_14, aI G m10 400 tx, aI G m11 6 th, aI G m12 6 od, aI G m13 30 bk, aI G m14 30 bh] → va_S A s.heap H locs → lv_has ls 2 [(1, .int fs2_6), (0, .ref m0)] → W p l e R s m args below meth c H locs 0 0 Q (F0 m 218 ls [.int t0_135, .ref m0]) := by
        intro t0_135 H locs ls hi hP hD hS hl
        have hv := hj_143 t0_135 hi
        refine lv_iconst (v := 1) hx hb dX8_takeClause_218 (by decide) ?_
        refine lv_aload_n hx hb dX8_takeClause_219 rfl (lv_at hl 1 rfl) ?_
        refine va_get (D := G.1) (ci := 8) (v := .int ap2_134) (C := RX8) (T := TX8) (N := 29) hx hb hts hinX8 hown hKK.1 hP 0 rfl rfl 19 (by decide) kl80 (fun _ h9 => h9) rfl dX8_takeClause_220 ?_
        obtain ⟨hp, hv⟩ := hv
        refine x_calli (wr := []) (w' := fun (u : (Int32) × (Int32)) => [(m0, .inr (8, [.ref m1, .ref m2, .ref m3, .ref m4, .ref m5, .ref m6, .ref m7, .ref m8, .ref m9, .int fu, .int fd, .int fi, .int gm012_15, .int gm013_16, .int gm014_17, .int gm015_18, .int gm016_19, .ref m10, .int ts, .int ap2_134, .int gm020_21, .int gm021_22, .int u.1, .int u.2, .ref m11, .ref m12, .ref m13, .ref m14, .int wr])), aJ G m1 560 mw, aZ G m2 2 ik, aI G m3 20 fm3_8, aI G m4 20 fm4_9, aI G m5 20 fm5_10, aI G m6 20 fm6_11, aI G m7 20 fm7_12, aI G m8 20 fm8_13, aI G m9 4 fm9_14, aI G m10 400 tx, aI G m11 6 th, aI G m12 6 od, aI G m13 30 bk, aI G m14 30 bh]) (x_runV (As := [.int t0_135, .int 1, .int ap2_134]) (rest := []) (n := 3) (C := RX8) (ci := 8) ⟨hx, hb, hml, hown, hts⟩ (k_X8_want l G m0 m1 m2 m3 m4 m5 m6 m7 m8 m9 m10 m11 m12 m13 m14 _ mw ik fm3_8 fm4_9 fm5_10 fm6_11 fm7_12 fm8_13 fm9_14 tx th od bk bh fu fd fi gm012_15 gm013_16 gm014_17 gm015_18 gm016_19 ts ap2_134 gm020_21 gm021_22 gm022_23 gm023_24 wr t0_135 1 ap2_134 hp) gX8_takeClause_X8_want rfl (by decide +kernel) ⟨Nat.le_trans (Nat.le_of_ble_eq_true rfl) hRf, Nat.le_trans (Nat.le_of_ble_eq_true rfl) hRl⟩ hKK hSS hS hA hP hD [0, 1, 2, 3, 4, 5, 6, 7, 8, 9, 10, 11, 12, 13, 14] (by decide) rfl rfl rfl 0 rfl rfl hl.1 rfl (Nat.le_of_ble_eq_true rfl) dX8_takeClause_223) hP hD hS hA [0, 1, 2, 3, 4, 5, 6, 7, 8, 9, 10, 11, 12, 13, 14] [] [0, 1, 2, 3, 4, 5, 6, 7, 8, 9, 10, 11, 12, 13, 14] rfl rfl (by decide) (by decide) (by decide) (fun _ => rfl) (fun r_139 u H locs hw hP hD hS => ?_)
        obtain ⟨fo2_140, fa2_141⟩ := u
        have hP : va_P G.1 vwCl [(m0, .inr (8, [.ref m1, .ref m2, .ref m3, .ref m4, .ref m5, .ref m6, .ref m7, .ref m8, .ref m9, .int fu, .int fd, .int fi, .int gm012_15, .int gm013_16, .int gm014_17, .int gm015_18, .int gm016_19, .ref m10, .int ts, .int ap2_134, .int gm020_21, .int gm021_22, .int fo2_140, .int fa2_141, .ref m11, .ref m12, .ref m13, .ref m14, .int wr])), aJ G m1 560 mw, aZ G m2 2 ik, aI G m3 20 fm3_8, aI G m4 20 fm4_9, aI G m5 20 fm5_10, aI G m6 20 fm6_11, aI G m7 20 fm7_12, aI G m8 20 fm8_13, aI G m9 4 fm9_14, aI G m10 400 tx, aI G m11 6 th, aI G m12 6 od, aI G m13 30 bk, aI G m14 30 bh] H := hP
        have hD : va_D A [(m0, .inr (8, [.ref m1, .ref m2, .ref m3, .ref m4, .ref m5, .ref m6, .ref m7, .ref m8, .ref m9, .int fu, .int fd, .int fi, .int gm012_15, .int gm013_16, .int gm014_17, .int gm015_18, .int gm016_19, .ref m10, .int ts, .int ap2_134, .int gm020_21, .int gm021_22, .int fo2_140, .int fa2_141, .ref m11, .ref m12, .ref m13, .ref m14, .int wr])), aJ G m1 560 mw, aZ G m2 2 ik, aI G m3 20 fm3_8, aI G m4 20 fm4_9, aI G m5 20 fm5_10, aI G m6 20 fm6_11, aI G m7 20 fm7_12, aI G m8 20 fm8_13, aI G m9 4 fm9_14, aI G m10 400 tx, aI G m11 6 th, aI G m12 6 od, aI G m13 30 bk, aI G m14 30 bh] := hD
        have hv := hv r_139 fo2_140 fa2_141 hw
        refine lv_if_eq (tgt := 239) hx hb dX8_takeClause_226 (by decide) (fun hc_142 => ?_) (fun hc_142 => ?_)
        · have hv := hv.1 hc_142
          exact x_vret (fm3_8, fm4_9, fm5_10, fm6_11, fm7_12, fm8_13, fm9_14, ap2_134, gm020_21, gm021_22, fo2_140, fa2_141, gm015_18, gm016_19, gm012_15, gm013_16, gm014_17) hQ hx hb hr hlocks hS dX8_takeClause_239 hv hP hD
        · have hv := hv.2 hc_142
          refine lv_aload_n hx hb dX8_takeClause_229 rfl (lv_at hl 1 rfl) ?_
          refine lv_dup hx hb dX8_takeClause_230 rfl ?_
          refine va_get (D := G.1) (ci := 8) (v := .int ap2_134) (C := RX8) (T := TX8) (N := 29) hx hb hts hinX8 hown hKK.1 hP 0 rfl rfl 19 (by decide) kl80 (fun _ h9 => h9) rfl dX8_takeClause_231 ?_
          refine lv_iconst (v := 1) hx hb dX8_takeClause_234 (by decide) ?_
          refine lv_iadd hx hb dX8_takeClause_235 ?_
          refine va_put (D := G.1) (ci := 8) (v := .int (ap2_134 + 1)) (ty := .int) (C := RX8) (T := TX8) (N := 29) hx hb hts hinX8 tyX8 tyX8_ok nmX8 hown hKK.1 hP hD hS 0 rfl rfl 19 (by decide) kl80 (fun _ h9 => h9) rfl (by decide +kernel) rfl rfl (Nat.le_of_ble_eq_true rfl) dX8_takeClause_236 (fun H locs hP hD hS => ?_)
          have hP : va_P G.1 vwCl [(m0, .inr (8, [.ref m1, .ref m2, .ref m3, .ref m4, .ref m5, .ref m6, .ref m7, .ref m8, .ref m9, .int fu, .int fd, .int fi, .int gm012_15, .int gm013_16, .int gm014_17, .int gm015_18, .int gm016_19, .ref m10, .int ts, .int (ap2_134 + 1), .int gm020_21, .int gm021_22, .int fo2_140, .int fa2_141, .ref m11, .ref m12, .ref m13, .ref m14, .int wr])), aJ G m1 560 mw, aZ G m2 2 ik, aI G m3 20 fm3_8, aI G m4 20 fm4_9, aI G m5 20 fm5_10, aI G m6 20 fm6_11, aI G m7 20 fm7_12, aI G m8 20 fm8_13, aI G m9 4 fm9_14, aI G m10 400 tx, aI G m11 6 th, aI G m12 6 od, aI G m13 30 bk, aI G m14 30 bh] H := hP
          have hD : va_D A [(m0, .inr (8, [.ref m1, .ref m2, .ref m3, .ref m4, .ref m5, .ref m6, .ref m7, .ref m8, .ref m9, .int fu, .int fd, .int fi, .int gm012_15, .int gm013_16, .int gm014_17, .int gm015_18, .int gm016_19, .ref m10, .int ts, .int (ap2_134 + 1), .int gm020_21, .int gm021_22, .int fo2_140, .int fa2_141, .ref m11, .ref m12, .ref m13, .ref m14, .int wr])), aJ G m1 560 mw, aZ G m2 2 ik, aI G m3 20 fm3_8, aI G m4 20 fm4_9, aI G m5 20 fm5_10, aI G m6 20 fm6_11, aI G m7 20 fm7_12, aI G m8 20 fm8_13, aI G m9 4 fm9_14, aI G m10 400 tx, aI G m11 6 th, aI G m12 6 od, aI G m13 30 bk, aI G m14 30 bh] := hD
          exact x_vret (fm3_8, fm4_9, fm5_10, fm6_11, fm7_12, fm8_13, fm9_14, (ap2_134 + 1), gm020_21, gm021_22, fo2_140, fa2_141, gm015_18, gm016_19, gm012_15, gm013_16, gm014_17) hQ hx hb hr hlocks hS dX8_takeClause_239 hv hP hD
      refine lv_icmp_ne (tgt := 217) hx hb dX8_takeClause_210 (by decide) (fun hc_138 => ?_) (fun hc_138 => ?_)
      · have hv := hv.1 hc_138
        refine lv_iconst (v := 0) hx hb dX8_takeClause_217 (by decide) ?_
        exact K_137 _ _ _ _ hv hP hD hS hl
      · have hv := hv.2 hc_138
        refine lv_iconst (v := 1) hx hb dX8_takeClause_213 (by decide) ?_
        refine lv_goto (tgt := 218) hx hb dX8_takeClause_214 (by decide) ?_
        exact K_137 _ _ _ _ hv hP hD hS hl
  refine lv_aload_n hx hb dX8_takeClause_9 rfl (lv_at hl 1 rfl) ?_
  refine lv_iconst (v := 5) hx hb dX8_takeClause_10 (by decide) ?_
  refine lv_bipush (v := 115) hx hb dX8_takeClause_11 (by decide) ?_
  refine lv_bipush (v := 116) hx hb dX8_takeClause_13 (by decide) ?_
  refine lv_bipush (v := 111) hx hb dX8_takeClause_15 (by decide) ?_
  refine lv_bipush (v := 110) hx hb dX8_takeClause_17 (by decide) ?_
  refine lv_bipush (v := 101) hx hb dX8_takeClause_19 (by decide) ?_
  refine lv_iconst (v := 0) hx hb dX8_takeClause_21 (by decide) ?_
  obtain ⟨gB_27, gL_28, gwq_29, geq__30, gi__31, hv⟩ := hv
  obtain ⟨hp, hv⟩ := hv
  refine x_calliR (x_runV (As := [.int 5, .int 115, .int 116, .int 111, .int 110, .int 101, .int 0]) (rest := []) (n := 7) (C := RX8) (ci := 8) ⟨hx, hb, hml, hown, hts⟩ (k_X8_isWord l G m0 m1 m2 m3 m4 m5 m6 m7 m8 m9 m10 m11 m12 m13 m14 _ mw ik zs cl hs ks wa ne mn tx th od bk bh fu fd fi nu nw nf bf bn ts ap2_5 fs2_6 ln2_7 fo fa wr 5 115 116 111 110 101 0 gB_27 gL_28 gwq_29 geq__30 gi__31 hp) gX8_takeClause_X8_isWord rfl (by decide +kernel) ⟨Nat.le_trans (Nat.le_of_ble_eq_true rfl) hRf, Nat.le_trans (Nat.le_of_ble_eq_true rfl) hRl⟩ hKK hSS hS hA hP hD [0, 1, 2, 3, 4, 5, 6, 7, 8, 9, 10, 11, 12, 13, 14] (by decide) rfl rfl rfl 0 rfl rfl hl.1 rfl (Nat.le_of_ble_eq_true rfl) dX8_takeClause_22) hP hD hS hA [0, 1, 2, 3, 4, 5, 6, 7, 8, 9, 10, 11, 12, 13, 14] rfl (fun r_32 _ H locs hw hP hS => ?_)
  have hv := hv r_32 hw
  refine lv_if_eq (tgt := 36) hx hb dX8_takeClause_25 (by decide) (fun hc_33 => ?_) (fun hc_33 => ?_)
  · have hv := hv.1 hc_33
    refine lv_aload_n hx hb dX8_takeClause_36 rfl (lv_at hl 1 rfl) ?_
    refine lv_bipush (v := 6) hx hb dX8_takeClause_37 (by decide) ?_
    refine lv_bipush (v := 112) hx hb dX8_takeClause_39 (by decide) ?_
    refine lv_bipush (v := 101) hx hb dX8_takeClause_41 (by decide) ?_
    refine lv_bipush (v := 114) hx hb dX8_takeClause_43 (by decide) ?_
    refine lv_bipush (v := 115) hx hb dX8_takeClause_45 (by decide) ?_
    refine lv_bipush (v := 111) hx hb dX8_takeClause_47 (by decide) ?_
    refine lv_bipush (v := 110) hx hb dX8_takeClause_49 (by decide) ?_
    obtain ⟨gB_34, gL_35, gwq_36, geq__37, gi__38, hv⟩ := hv
    obtain ⟨hp, hv⟩ := hv
    refine x_calliR (x_runV (As := [.int 6, .int 112, .int 101, .int 114, .int 115, .int 111, .int 110]) (rest := []) (n := 7) (C := RX8) (ci := 8) ⟨hx, hb, hml, hown, hts⟩ (k_X8_isWord l G m0 m1 m2 m3 m4 m5 m6 m7 m8 m9 m10 m11 m12 m13 m14 _ mw ik zs cl hs ks wa ne mn tx th od bk bh fu fd fi nu nw nf bf bn ts ap2_5 fs2_6 ln2_7 fo fa wr 6 112 101 114 115 111 110 gB_34 gL_35 gwq_36 geq__37 gi__38 hp) gX8_takeClause_X8_isWord rfl (by decide +kernel) ⟨Nat.le_trans (Nat.le_of_ble_eq_true rfl) hRf, Nat.le_trans (Nat.le_of_ble_eq_true rfl) hRl⟩ hKK hSS hS hA hP hD [0, 1, 2, 3, 4, 5, 6, 7, 8, 9, 10, 11, 12, 13, 14] (by decide) rfl rfl rfl 0 rfl rfl hl.1 rfl (Nat.le_of_ble_eq_true rfl) dX8_takeClause_51) hP hD hS hA [0, 1, 2, 3, 4, 5, 6, 7, 8, 9, 10, 11, 12, 13, 14] rfl (fun r_39 _ H locs hw hP hS => ?_)
    have hv := hv r_39 hw
    refine lv_if_eq (tgt := 65) hx hb dX8_takeClause_54 (by decide) (fun hc_40 => ?_) (fun hc_40 => ?_)
    · have hv := hv.1 hc_40
      refine lv_aload_n hx hb dX8_takeClause_65 rfl (lv_at hl 1 rfl) ?_
      refine lv_iconst (v := 5) hx hb dX8_takeClause_66 (by decide) ?_
      refine lv_bipush (v := 102) hx hb dX8_takeClause_67 (by decide) ?_
      refine lv_bipush (v := 114) hx hb dX8_takeClause_69 (by decide) ?_
      refine lv_bipush (v := 111) hx hb dX8_takeClause_71 (by decide) ?_
      refine lv_bipush (v := 115) hx hb dX8_takeClause_73 (by decide) ?_
      refine lv_bipush (v := 116) hx hb dX8_takeClause_75 (by decide) ?_
      refine lv_iconst (v := 0) hx hb dX8_takeClause_77 (by decide) ?_
      obtain ⟨gB_41, gL_42, gwq_43, geq__44, gi__45, hv⟩ := hv
      obtain ⟨hp, hv⟩ := hv
      refine x_calliR (x_runV (As := [.int 5, .int 102, .int 114, .int 111, .int 115, .int 116, .int 0]) (rest := []) (n := 7) (C := RX8) (ci := 8) ⟨hx, hb, hml, hown, hts⟩ (k_X8_isWord l G m0 m1 m2 m3 m4 m5 m6 m7 m8 m9 m10 m11 m12 m13 m14 _ mw ik zs cl hs ks wa ne mn tx th od bk bh fu fd fi nu nw nf bf bn ts ap2_5 fs2_6 ln2_7 fo fa wr 5 102 114 111 115 116 0 gB_41 gL_42 gwq_43 geq__44 gi__45 hp) gX8_takeClause_X8_isWord rfl (by decide +kernel) ⟨Nat.le_trans (Nat.le_of_ble_eq_true rfl) hRf, Nat.le_trans (Nat.le_of_ble_eq_true rfl) hRl⟩ hKK hSS hS hA hP hD [0, 1, 2, 3, 4, 5, 6, 7, 8, 9, 10, 11, 12, 13, 14] (by decide) rfl rfl rfl 0 rfl rfl hl.1 rfl (Nat.le_of_ble_eq_true rfl) dX8_takeClause_78) hP hD hS hA [0, 1, 2, 3, 4, 5, 6, 7, 8, 9, 10, 11, 12, 13, 14] rfl (fun r_46 _ H locs hw hP hS => ?_)
      have hv := hv r_46 hw
      refine lv_if_eq (tgt := 135) hx hb dX8_takeClause_81 (by decide) (fun hc_47 => ?_) (fun hc_47 => ?_)
      · have hv := hv.1 hc_47
        refine lv_aload_n hx hb dX8_takeClause_135 rfl (lv_at hl 1 rfl) ?_
        refine lv_aload_n hx hb dX8_takeClause_136 rfl (lv_at hl 1 rfl) ?_
        refine lv_iconst (v := 4) hx hb dX8_takeClause_137 (by decide) ?_
        refine lv_bipush (v := 102) hx hb dX8_takeClause_138 (by decide) ?_
        refine lv_bipush (v := 105) hx hb dX8_takeClause_140 (by decide) ?_
        refine lv_bipush (v := 110) hx hb dX8_takeClause_142 (by decide) ?_
        refine lv_bipush (v := 101) hx hb dX8_takeClause_144 (by decide) ?_
        refine lv_iconst (v := 0) hx hb dX8_takeClause_146 (by decide) ?_
        refine lv_iconst (v := 0) hx hb dX8_takeClause_147 (by decide) ?_
        obtain ⟨gB_48, gL_49, gwq_50, geq__51, gi__52, hv⟩ := hv
        obtain ⟨hp, hv⟩ := hv
        refine x_calliR (x_runV (As := [.int 4, .int 102, .int 105, .int 110, .int 101, .int 0, .int 0]) (rest := [.ref m0]) (n := 7) (C := RX8) (ci := 8) ⟨hx, hb, hml, hown, hts⟩ (k_X8_isWord l G m0 m1 m2 m3 m4 m5 m6 m7 m8 m9 m10 m11 m12 m13 m14 _ mw ik zs cl hs ks wa ne mn tx th od bk bh fu fd fi nu nw nf bf bn ts ap2_5 fs2_6 ln2_7 fo fa wr 4 102 105 110 101 0 0 gB_48 gL_49 gwq_50 geq__51 gi__52 hp) gX8_takeClause_X8_isWord rfl (by decide +kernel) ⟨Nat.le_trans (Nat.le_of_ble_eq_true rfl) hRf, Nat.le_trans (Nat.le_of_ble_eq_true rfl) hRl⟩ hKK hSS hS hA hP hD [0, 1, 2, 3, 4, 5, 6, 7, 8, 9, 10, 11, 12, 13, 14] (by decide) rfl rfl rfl 0 rfl rfl hl.1 rfl (Nat.le_of_ble_eq_true rfl) dX8_takeClause_148) hP hD hS hA [0, 1, 2, 3, 4, 5, 6, 7, 8, 9, 10, 11, 12, 13, 14] rfl (fun r_53 _ H locs hw hP hS => ?_)
        have hv := hv r_53 hw
        refine lv_iconst (v := 1) hx hb dX8_takeClause_151 (by decide) ?_
        refine lv_iload_n hx hb dX8_takeClause_152 rfl (lv_at hl 0 rfl) ?_
        obtain ⟨hp, hv⟩ := hv
        refine x_calli (wr := []) (w' := fun (u : (Int32) × (Int32)) => [(m0, .inr (8, [.ref m1, .ref m2, .ref m3, .ref m4, .ref m5, .ref m6, .ref m7, .ref m8, .ref m9, .int fu, .int fd, .int fi, .int nu, .int nw, .int nf, .int bf, .int bn, .ref m10, .int ts, .int ap2_5, .int fs2_6, .int ln2_7, .int u.1, .int u.2, .ref m11, .ref m12, .ref m13, .ref m14, .int wr])), aJ G m1 560 mw, aZ G m2 2 ik, aI G m3 20 zs, aI G m4 20 cl, aI G m5 20 hs, aI G m6 20 ks, aI G m7 20 wa, aI G m8 20 ne, aI G m9 4 mn, aI G m10 400 tx, aI G m11 6 th, aI G m12 6 od, aI G m13 30 bk, aI G m14 30 bh]) (x_runV (As := [.int r_53, .int 1, .int fs2_6]) (rest := []) (n := 3) (C := RX8) (ci := 8) ⟨hx, hb, hml, hown, hts⟩ (k_X8_want l G m0 m1 m2 m3 m4 m5 m6 m7 m8 m9 m10 m11 m12 m13 m14 _ mw ik zs cl hs ks wa ne mn tx th od bk bh fu fd fi nu nw nf bf bn ts ap2_5 fs2_6 ln2_7 fo fa wr r_53 1 fs2_6 hp) gX8_takeClause_X8_want rfl (by decide +kernel) ⟨Nat.le_trans (Nat.le_of_ble_eq_true rfl) hRf, Nat.le_trans (Nat.le_of_ble_eq_true rfl) hRl⟩ hKK hSS hS hA hP hD [0, 1, 2, 3, 4, 5, 6, 7, 8, 9, 10, 11, 12, 13, 14] (by decide) rfl rfl rfl 0 rfl rfl hl.1 rfl (Nat.le_of_ble_eq_true rfl) dX8_takeClause_153) hP hD hS hA [0, 1, 2, 3, 4, 5, 6, 7, 8, 9, 10, 11, 12, 13, 14] [] [0, 1, 2, 3, 4, 5, 6, 7, 8, 9, 10, 11, 12, 13, 14] rfl rfl (by decide) (by decide) (by decide) (fun _ => rfl) (fun r_54 u H locs hw hP hD hS => ?_)
        obtain ⟨fo2_55, fa2_56⟩ := u
        have hP : va_P G.1 vwCl [(m0, .inr (8, [.ref m1, .ref m2, .ref m3, .ref m4, .ref m5, .ref m6, .ref m7, .ref m8, .ref m9, .int fu, .int fd, .int fi, .int nu, .int nw, .int nf, .int bf, .int bn, .ref m10, .int ts, .int ap2_5, .int fs2_6, .int ln2_7, .int fo2_55, .int fa2_56, .ref m11, .ref m12, .ref m13, .ref m14, .int wr])), aJ G m1 560 mw, aZ G m2 2 ik, aI G m3 20 zs, aI G m4 20 cl, aI G m5 20 hs, aI G m6 20 ks, aI G m7 20 wa, aI G m8 20 ne, aI G m9 4 mn, aI G m10 400 tx, aI G m11 6 th, aI G m12 6 od, aI G m13 30 bk, aI G m14 30 bh] H := hP
        have hD : va_D A [(m0, .inr (8, [.ref m1, .ref m2, .ref m3, .ref m4, .ref m5, .ref m6, .ref m7, .ref m8, .ref m9, .int fu, .int fd, .int fi, .int nu, .int nw, .int nf, .int bf, .int bn, .ref m10, .int ts, .int ap2_5, .int fs2_6, .int ln2_7, .int fo2_55, .int fa2_56, .ref m11, .ref m12, .ref m13, .ref m14, .int wr])), aJ G m1 560 mw, aZ G m2 2 ik, aI G m3 20 zs, aI G m4 20 cl, aI G m5 20 hs, aI G m6 20 ks, aI G m7 20 wa, aI G m8 20 ne, aI G m9 4 mn, aI G m10 400 tx, aI G m11 6 th, aI G m12 6 od, aI G m13 30 bk, aI G m14 30 bh] := hD
        have hv := hv r_54 fo2_55 fa2_56 hw
        refine lv_if_eq (tgt := 196) hx hb dX8_takeClause_156 (by decide) (fun hc_57 => ?_) (fun hc_57 => ?_)
        · have hv := hv.1 hc_57
          exact K_26 _ _ _ _ _ _ _ _ _ _ _ _ _ _ _ _ _ _ _ _ hv hP hD hS hl
        · have hv := hv.2 hc_57
          refine lv_aload_n hx hb dX8_takeClause_159 rfl (lv_at hl 1 rfl) ?_
          refine lv_aload_n hx hb dX8_takeClause_160 rfl (lv_at hl 1 rfl) ?_
          refine va_get (D := G.1) (ci := 8) (v := .int bn) (C := RX8) (T := TX8) (N := 29) hx hb hts hinX8 hown hKK.1 hP 0 rfl rfl 16 (by decide) kl137 (fun _ h9 => h9) rfl dX8_takeClause_161 ?_
          obtain ⟨J172_59, hv, hj_74⟩ := hv
          have K_60 : ∀ (t0_58 : Int32) (H : Heap) (locs : List Loc) (ls : Array Slot), J172_59 t0_58 → va_P G.1 vwCl [(m0, .inr (8, [.ref m1, .ref m2, .ref m3, .ref m4, .ref m5, .ref m6, .ref m7, .ref m8, .ref m9, .int fu, .int fd, .int fi, .int nu, .int nw, .int nf, .int bf, .int bn, .ref m10, .int ts, .int ap2_5, .int fs2_6, .int ln2_7, .int fo2_55, .int fa2_56, .ref m11, .ref m12, .ref m13, .ref m14, .int wr])), aJ G m1 560 mw, aZ G m2 2 ik, aI G m3 20 zs, aI G m4 20 cl, aI G m5 20 hs, aI G m6 20 ks, aI G m7 20 wa, aI G m8 20 ne, aI G m9 4 mn, aI G m10 400 tx, aI G m11 6 th, aI G m12 6 od, aI G m13 30 bk, aI G m14 30 bh] H → va_D A [(m0, .inr (8, [.ref m1, .ref m2, .ref m3, .ref m4, .ref m5, .ref m6, .ref m7, .ref m8, .ref m9, .int fu, .int fd, .int fi, .int nu, .int nw, .int nf, .int bf, .int bn, .ref m10, .int ts, .int ap2_5, .int fs2_6, .int ln2_7, .int fo2_55, .int fa2_56, .ref m11, .ref m12, .ref m13, .ref m14, .int wr])), aJ G m1 560 mw, aZ G m2 2 ik, aI G m3 20 zs, aI G m4 20 cl, aI G m5 20 hs, aI G m6 20 ks, aI G m7 20 wa, aI G m8 20 ne, aI G m9 4 mn, aI G m10 400 tx, aI G m11 6 th, aI G m12 6 od, aI G m13 30 bk, aI G m14 30 bh] → va_S A s.heap H locs → lv_has ls 2 [(1, .int fs2_6), (0, .ref m0)] → W p l e R s m args below meth c H locs 0 0 Q (F0 m 172 ls [.int t0_58, .ref m0]) := by
            intro t0_58 H locs ls hi hP hD hS hl
            have hv := hj_74 t0_58 hi
            refine lv_iconst (v := 3) hx hb dX8_takeClause_172 (by decide) ?_
            refine lv_iload_n hx hb dX8_takeClause_173 rfl (lv_at hl 0 rfl) ?_
            obtain ⟨hp, hv⟩ := hv
            refine x_calli (wr := []) (w' := fun (u : (Int32) × (Int32)) => [(m0, .inr (8, [.ref m1, .ref m2, .ref m3, .ref m4, .ref m5, .ref m6, .ref m7, .ref m8, .ref m9, .int fu, .int fd, .int fi, .int nu, .int nw, .int nf, .int bf, .int bn, .ref m10, .int ts, .int ap2_5, .int fs2_6, .int ln2_7, .int u.1, .int u.2, .ref m11, .ref m12, .ref m13, .ref m14, .int wr])), aJ G m1 560 mw, aZ G m2 2 ik, aI G m3 20 zs, aI G m4 20 cl, aI G m5 20 hs, aI G m6 20 ks, aI G m7 20 wa, aI G m8 20 ne, aI G m9 4 mn, aI G m10 400 tx, aI G m11 6 th, aI G m12 6 od, aI G m13 30 bk, aI G m14 30 bh]) (x_runV (As := [.int t0_58, .int 3, .int fs2_6]) (rest := []) (n := 3) (C := RX8) (ci := 8) ⟨hx, hb, hml, hown, hts⟩ (k_X8_want l G m0 m1 m2 m3 m4 m5 m6 m7 m8 m9 m10 m11 m12 m13 m14 _ mw ik zs cl hs ks wa ne mn tx th od bk bh fu fd fi nu nw nf bf bn ts ap2_5 fs2_6 ln2_7 fo2_55 fa2_56 wr t0_58 3 fs2_6 hp) gX8_takeClause_X8_want rfl (by decide +kernel) ⟨Nat.le_trans (Nat.le_of_ble_eq_true rfl) hRf, Nat.le_trans (Nat.le_of_ble_eq_true rfl) hRl⟩ hKK hSS hS hA hP hD [0, 1, 2, 3, 4, 5, 6, 7, 8, 9, 10, 11, 12, 13, 14] (by decide) rfl rfl rfl 0 rfl rfl hl.1 rfl (Nat.le_of_ble_eq_true rfl) dX8_takeClause_174) hP hD hS hA [0, 1, 2, 3, 4, 5, 6, 7, 8, 9, 10, 11, 12, 13, 14] [] [0, 1, 2, 3, 4, 5, 6, 7, 8, 9, 10, 11, 12, 13, 14] rfl rfl (by decide) (by decide) (by decide) (fun _ => rfl) (fun r_62 u H locs hw hP hD hS => ?_)
            obtain ⟨fo2_63, fa2_64⟩ := u
            have hP : va_P G.1 vwCl [(m0, .inr (8, [.ref m1, .ref m2, .ref m3, .ref m4, .ref m5, .ref m6, .ref m7, .ref m8, .ref m9, .int fu, .int fd, .int fi, .int nu, .int nw, .int nf, .int bf, .int bn, .ref m10, .int ts, .int ap2_5, .int fs2_6, .int ln2_7, .int fo2_63, .int fa2_64, .ref m11, .ref m12, .ref m13, .ref m14, .int wr])), aJ G m1 560 mw, aZ G m2 2 ik, aI G m3 20 zs, aI G m4 20 cl, aI G m5 20 hs, aI G m6 20 ks, aI G m7 20 wa, aI G m8 20 ne, aI G m9 4 mn, aI G m10 400 tx, aI G m11 6 th, aI G m12 6 od, aI G m13 30 bk, aI G m14 30 bh] H := hP
            have hD : va_D A [(m0, .inr (8, [.ref m1, .ref m2, .ref m3, .ref m4, .ref m5, .ref m6, .ref m7, .ref m8, .ref m9, .int fu, .int fd, .int fi, .int nu, .int nw, .int nf, .int bf, .int bn, .ref m10, .int ts, .int ap2_5, .int fs2_6, .int ln2_7, .int fo2_63, .int fa2_64, .ref m11, .ref m12, .ref m13, .ref m14, .int wr])), aJ G m1 560 mw, aZ G m2 2 ik, aI G m3 20 zs, aI G m4 20 cl, aI G m5 20 hs, aI G m6 20 ks, aI G m7 20 wa, aI G m8 20 ne, aI G m9 4 mn, aI G m10 400 tx, aI G m11 6 th, aI G m12 6 od, aI G m13 30 bk, aI G m14 30 bh] := hD
            have hv := hv r_62 fo2_63 fa2_64 hw
            refine lv_if_eq (tgt := 196) hx hb dX8_takeClause_177 (by decide) (fun hc_65 => ?_) (fun hc_65 => ?_)
            · have hv := hv.1 hc_65
              exact K_26 _ _ _ _ _ _ _ _ _ _ _ _ _ _ _ _ _ _ _ _ hv hP hD hS hl
            · have hv := hv.2 hc_65
              refine lv_aload_n hx hb dX8_takeClause_180 rfl (lv_at hl 1 rfl) ?_
              refine lv_iconst (v := 1) hx hb dX8_takeClause_181 (by decide) ?_
              refine va_put (D := G.1) (ci := 8) (v := .int 1) (ty := .boolean) (C := RX8) (T := TX8) (N := 29) hx hb hts hinX8 tyX8 tyX8_ok nmX8 hown hKK.1 hP hD hS 0 rfl rfl 16 (by decide) kl137 (fun _ h9 => h9) rfl (by decide +kernel) rfl rfl (Nat.le_of_ble_eq_true rfl) dX8_takeClause_182 (fun H locs hP hD hS => ?_)
              have hP : va_P G.1 vwCl [(m0, .inr (8, [.ref m1, .ref m2, .ref m3, .ref m4, .ref m5, .ref m6, .ref m7, .ref m8, .ref m9, .int fu, .int fd, .int fi, .int nu, .int nw, .int nf, .int bf, .int 1, .ref m10, .int ts, .int ap2_5, .int fs2_6, .int ln2_7, .int fo2_63, .int fa2_64, .ref m11, .ref m12, .ref m13, .ref m14, .int wr])), aJ G m1 560 mw, aZ G m2 2 ik, aI G m3 20 zs, aI G m4 20 cl, aI G m5 20 hs, aI G m6 20 ks, aI G m7 20 wa, aI G m8 20 ne, aI G m9 4 mn, aI G m10 400 tx, aI G m11 6 th, aI G m12 6 od, aI G m13 30 bk, aI G m14 30 bh] H := hP
              have hD : va_D A [(m0, .inr (8, [.ref m1, .ref m2, .ref m3, .ref m4, .ref m5, .ref m6, .ref m7, .ref m8, .ref m9, .int fu, .int fd, .int fi, .int nu, .int nw, .int nf, .int bf, .int 1, .ref m10, .int ts, .int ap2_5, .int fs2_6, .int ln2_7, .int fo2_63, .int fa2_64, .ref m11, .ref m12, .ref m13, .ref m14, .int wr])), aJ G m1 560 mw, aZ G m2 2 ik, aI G m3 20 zs, aI G m4 20 cl, aI G m5 20 hs, aI G m6 20 ks, aI G m7 20 wa, aI G m8 20 ne, aI G m9 4 mn, aI G m10 400 tx, aI G m11 6 th, aI G m12 6 od, aI G m13 30 bk, aI G m14 30 bh] := hD
              refine lv_aload_n hx hb dX8_takeClause_185 rfl (lv_at hl 1 rfl) ?_
              refine lv_aload_n hx hb dX8_takeClause_186 rfl (lv_at hl 1 rfl) ?_
              refine lv_iconst (v := 0) hx hb dX8_takeClause_187 (by decide) ?_
              refine lv_bipush (v := 99) hx hb dX8_takeClause_188 (by decide) ?_
              obtain ⟨gB_66, gL_67, gst_68, hv⟩ := hv
              obtain ⟨hp, hv⟩ := hv
              refine x_calli (wr := []) (w' := fun (u : (Int32) × (Int32) × (Int32) × (Int32)) => [(m0, .inr (8, [.ref m1, .ref m2, .ref m3, .ref m4, .ref m5, .ref m6, .ref m7, .ref m8, .ref m9, .int fu, .int fd, .int fi, .int nu, .int nw, .int nf, .int bf, .int 1, .ref m10, .int ts, .int u.1, .int u.2.1, .int ln2_7, .int u.2.2.1, .int u.2.2.2, .ref m11, .ref m12, .ref m13, .ref m14, .int wr])), aJ G m1 560 mw, aZ G m2 2 ik, aI G m3 20 zs, aI G m4 20 cl, aI G m5 20 hs, aI G m6 20 ks, aI G m7 20 wa, aI G m8 20 ne, aI G m9 4 mn, aI G m10 400 tx, aI G m11 6 th, aI G m12 6 od, aI G m13 30 bk, aI G m14 30 bh]) (x_runV (As := [.int 0, .int 99]) (rest := [.ref m0]) (n := 2) (C := RX8) (ci := 8) ⟨hx, hb, hml, hown, hts⟩ (k_X8_takeNumber l G m0 m1 m2 m3 m4 m5 m6 m7 m8 m9 m10 m11 m12 m13 m14 _ mw ik zs cl hs ks wa ne mn tx th od bk bh fu fd fi nu nw nf bf 1 ts ap2_5 fs2_6 ln2_7 fo2_63 fa2_64 wr 0 99 gB_66 gL_67 gst_68 hp) gX8_takeClause_X8_takeNumber rfl (by decide +kernel) ⟨Nat.le_trans (Nat.le_of_ble_eq_true rfl) hRf, Nat.le_trans (Nat.le_of_ble_eq_true rfl) hRl⟩ hKK hSS hS hA hP hD [0, 1, 2, 3, 4, 5, 6, 7, 8, 9, 10, 11, 12, 13, 14] (by decide) rfl rfl rfl 0 rfl rfl hl.1 rfl (Nat.le_of_ble_eq_true rfl) dX8_takeClause_190) hP hD hS hA [0, 1, 2, 3, 4, 5, 6, 7, 8, 9, 10, 11, 12, 13, 14] [] [0, 1, 2, 3, 4, 5, 6, 7, 8, 9, 10, 11, 12, 13, 14] rfl rfl (by decide) (by decide) (by decide) (fun _ => rfl) (fun r_69 u H locs hw hP hD hS => ?_)
              obtain ⟨ap2_70, fs2_71, fo2_72, fa2_73⟩ := u
              have hP : va_P G.1 vwCl [(m0, .inr (8, [.ref m1, .ref m2, .ref m3, .ref m4, .ref m5, .ref m6, .ref m7, .ref m8, .ref m9, .int fu, .int fd, .int fi, .int nu, .int nw, .int nf, .int bf, .int 1, .ref m10, .int ts, .int ap2_70, .int fs2_71, .int ln2_7, .int fo2_72, .int fa2_73, .ref m11, .ref m12, .ref m13, .ref m14, .int wr])), aJ G m1 560 mw, aZ G m2 2 ik, aI G m3 20 zs, aI G m4 20 cl, aI G m5 20 hs, aI G m6 20 ks, aI G m7 20 wa, aI G m8 20 ne, aI G m9 4 mn, aI G m10 400 tx, aI G m11 6 th, aI G m12 6 od, aI G m13 30 bk, aI G m14 30 bh] H := hP
              have hD : va_D A [(m0, .inr (8, [.ref m1, .ref m2, .ref m3, .ref m4, .ref m5, .ref m6, .ref m7, .ref m8, .ref m9, .int fu, .int fd, .int fi, .int nu, .int nw, .int nf, .int bf, .int 1, .ref m10, .int ts, .int ap2_70, .int fs2_71, .int ln2_7, .int fo2_72, .int fa2_73, .ref m11, .ref m12, .ref m13, .ref m14, .int wr])), aJ G m1 560 mw, aZ G m2 2 ik, aI G m3 20 zs, aI G m4 20 cl, aI G m5 20 hs, aI G m6 20 ks, aI G m7 20 wa, aI G m8 20 ne, aI G m9 4 mn, aI G m10 400 tx, aI G m11 6 th, aI G m12 6 od, aI G m13 30 bk, aI G m14 30 bh] := hD
              have hv := hv r_69 ap2_70 fs2_71 fo2_72 fa2_73 hw
              refine va_put (D := G.1) (ci := 8) (v := .int r_69) (ty := .int) (C := RX8) (T := TX8) (N := 29) hx hb hts hinX8 tyX8 tyX8_ok nmX8 hown hKK.1 hP hD hS 0 rfl rfl 14 (by decide) kl140 (fun _ h9 => h9) rfl (by decide +kernel) rfl rfl (Nat.le_of_ble_eq_true rfl) dX8_takeClause_193 (fun H locs hP hD hS => ?_)
              have hP : va_P G.1 vwCl [(m0, .inr (8, [.ref m1, .ref m2, .ref m3, .ref m4, .ref m5, .ref m6, .ref m7, .ref m8, .ref m9, .int fu, .int fd, .int fi, .int nu, .int nw, .int r_69, .int bf, .int 1, .ref m10, .int ts, .int ap2_70, .int fs2_71, .int ln2_7, .int fo2_72, .int fa2_73, .ref m11, .ref m12, .ref m13, .ref m14, .int wr])), aJ G m1 560 mw, aZ G m2 2 ik, aI G m3 20 zs, aI G m4 20 cl, aI G m5 20 hs, aI G m6 20 ks, aI G m7 20 wa, aI G m8 20 ne, aI G m9 4 mn, aI G m10 400 tx, aI G m11 6 th, aI G m12 6 od, aI G m13 30 bk, aI G m14 30 bh] H := hP
              have hD : va_D A [(m0, .inr (8, [.ref m1, .ref m2, .ref m3, .ref m4, .ref m5, .ref m6, .ref m7, .ref m8, .ref m9, .int fu, .int fd, .int fi, .int nu, .int nw, .int r_69, .int bf, .int 1, .ref m10, .int ts, .int ap2_70, .int fs2_71, .int ln2_7, .int fo2_72, .int fa2_73, .ref m11, .ref m12, .ref m13, .ref m14, .int wr])), aJ G m1 560 mw, aZ G m2 2 ik, aI G m3 20 zs, aI G m4 20 cl, aI G m5 20 hs, aI G m6 20 ks, aI G m7 20 wa, aI G m8 20 ne, aI G m9 4 mn, aI G m10 400 tx, aI G m11 6 th, aI G m12 6 od, aI G m13 30 bk, aI G m14 30 bh] := hD
              exact K_26 _ _ _ _ _ _ _ _ _ _ _ _ _ _ _ _ _ _ _ _ hv hP hD hS hl
          refine lv_if_ne (tgt := 171) hx hb dX8_takeClause_164 (by decide) (fun hc_61 => ?_) (fun hc_61 => ?_)
          · have hv := hv.1 hc_61
            refine lv_iconst (v := 0) hx hb dX8_takeClause_171 (by decide) ?_
            exact K_60 _ _ _ _ hv hP hD hS hl
          · have hv := hv.2 hc_61
            refine lv_iconst (v := 1) hx hb dX8_takeClause_167 (by decide) ?_
            refine lv_goto (tgt := 172) hx hb dX8_takeClause_168 (by decide) ?_
            exact K_60 _ _ _ _ hv hP hD hS hl
      · have hv := hv.2 hc_47
        refine lv_aload_n hx hb dX8_takeClause_84 rfl (lv_at hl 1 rfl) ?_
        refine lv_aload_n hx hb dX8_takeClause_85 rfl (lv_at hl 1 rfl) ?_
        refine va_get (D := G.1) (ci := 8) (v := .int bf) (C := RX8) (T := TX8) (N := 29) hx hb hts hinX8 hown hKK.1 hP 0 rfl rfl 15 (by decide) kl127 (fun _ h9 => h9) rfl dX8_takeClause_86 ?_
        obtain ⟨J97_76, hv, hj_99⟩ := hv
        have K_77 : ∀ (t0_75 : Int32) (H : Heap) (locs : List Loc) (ls : Array Slot), J97_76 t0_75 → va_P G.1 vwCl [(m0, .inr (8, [.ref m1, .ref m2, .ref m3, .ref m4, .ref m5, .ref m6, .ref m7, .ref m8, .ref m9, .int fu, .int fd, .int fi, .int nu, .int nw, .int nf, .int bf, .int bn, .ref m10, .int ts, .int ap2_5, .int fs2_6, .int ln2_7, .int fo, .int fa, .ref m11, .ref m12, .ref m13, .ref m14, .int wr])), aJ G m1 560 mw, aZ G m2 2 ik, aI G m3 20 zs, aI G m4 20 cl, aI G m5 20 hs, aI G m6 20 ks, aI G m7 20 wa, aI G m8 20 ne, aI G m9 4 mn, aI G m10 400 tx, aI G m11 6 th, aI G m12 6 od, aI G m13 30 bk, aI G m14 30 bh] H → va_D A [(m0, .inr (8, [.ref m1, .ref m2, .ref m3, .ref m4, .ref m5, .ref m6, .ref m7, .ref m8, .ref m9, .int fu, .int fd, .int fi, .int nu, .int nw, .int nf, .int bf, .int bn, .ref m10, .int ts, .int ap2_5, .int fs2_6, .int ln2_7, .int fo, .int fa, .ref m11, .ref m12, .ref m13, .ref m14, .int wr])), aJ G m1 560 mw, aZ G m2 2 ik, aI G m3 20 zs, aI G m4 20 cl, aI G m5 20 hs, aI G m6 20 ks, aI G m7 20 wa, aI G m8 20 ne, aI G m9 4 mn, aI G m10 400 tx, aI G m11 6 th, aI G m12 6 od, aI G m13 30 bk, aI G m14 30 bh] → va_S A s.heap H locs → lv_has ls 2 [(1, .int fs2_6), (0, .ref m0)] → W p l e R s m args below meth c H locs 0 0 Q (F0 m 97 ls [.int t0_75, .ref m0]) := by
          intro t0_75 H locs ls hi hP hD hS hl
          have hv := hj_99 t0_75 hi
          refine lv_iconst (v := 3) hx hb dX8_takeClause_97 (by decide) ?_
          refine lv_iload_n hx hb dX8_takeClause_98 rfl (lv_at hl 0 rfl) ?_
          obtain ⟨hp, hv⟩ := hv
          refine x_calli (wr := []) (w' := fun (u : (Int32) × (Int32)) => [(m0, .inr (8, [.ref m1, .ref m2, .ref m3, .ref m4, .ref m5, .ref m6, .ref m7, .ref m8, .ref m9, .int fu, .int fd, .int fi, .int nu, .int nw, .int nf, .int bf, .int bn, .ref m10, .int ts, .int ap2_5, .int fs2_6, .int ln2_7, .int u.1, .int u.2, .ref m11, .ref m12, .ref m13, .ref m14, .int wr])), aJ G m1 560 mw, aZ G m2 2 ik, aI G m3 20 zs, aI G m4 20 cl, aI G m5 20 hs, aI G m6 20 ks, aI G m7 20 wa, aI G m8 20 ne, aI G m9 4 mn, aI G m10 400 tx, aI G m11 6 th, aI G m12 6 od, aI G m13 30 bk, aI G m14 30 bh]) (x_runV (As := [.int t0_75, .int 3, .int fs2_6]) (rest := []) (n := 3) (C := RX8) (ci := 8) ⟨hx, hb, hml, hown, hts⟩ (k_X8_want l G m0 m1 m2 m3 m4 m5 m6 m7 m8 m9 m10 m11 m12 m13 m14 _ mw ik zs cl hs ks wa ne mn tx th od bk bh fu fd fi nu nw nf bf bn ts ap2_5 fs2_6 ln2_7 fo fa wr t0_75 3 fs2_6 hp) gX8_takeClause_X8_want rfl (by decide +kernel) ⟨Nat.le_trans (Nat.le_of_ble_eq_true rfl) hRf, Nat.le_trans (Nat.le_of_ble_eq_true rfl) hRl⟩ hKK hSS hS hA hP hD [0, 1, 2, 3, 4, 5, 6, 7, 8, 9, 10, 11, 12, 13, 14] (by decide) rfl rfl rfl 0 rfl rfl hl.1 rfl (Nat.le_of_ble_eq_true rfl) dX8_takeClause_99) hP hD hS hA [0, 1, 2, 3, 4, 5, 6, 7, 8, 9, 10, 11, 12, 13, 14] [] [0, 1, 2, 3, 4, 5, 6, 7, 8, 9, 10, 11, 12, 13, 14] rfl rfl (by decide) (by decide) (by decide) (fun _ => rfl) (fun r_79 u H locs hw hP hD hS => ?_)
          obtain ⟨fo2_80, fa2_81⟩ := u
          have hP : va_P G.1 vwCl [(m0, .inr (8, [.ref m1, .ref m2, .ref m3, .ref m4, .ref m5, .ref m6, .ref m7, .ref m8, .ref m9, .int fu, .int fd, .int fi, .int nu, .int nw, .int nf, .int bf, .int bn, .ref m10, .int ts, .int ap2_5, .int fs2_6, .int ln2_7, .int fo2_80, .int fa2_81, .ref m11, .ref m12, .ref m13, .ref m14, .int wr])), aJ G m1 560 mw, aZ G m2 2 ik, aI G m3 20 zs, aI G m4 20 cl, aI G m5 20 hs, aI G m6 20 ks, aI G m7 20 wa, aI G m8 20 ne, aI G m9 4 mn, aI G m10 400 tx, aI G m11 6 th, aI G m12 6 od, aI G m13 30 bk, aI G m14 30 bh] H := hP
          have hD : va_D A [(m0, .inr (8, [.ref m1, .ref m2, .ref m3, .ref m4, .ref m5, .ref m6, .ref m7, .ref m8, .ref m9, .int fu, .int fd, .int fi, .int nu, .int nw, .int nf, .int bf, .int bn, .ref m10, .int ts, .int ap2_5, .int fs2_6, .int ln2_7, .int fo2_80, .int fa2_81, .ref m11, .ref m12, .ref m13, .ref m14, .int wr])), aJ G m1 560 mw, aZ G m2 2 ik, aI G m3 20 zs, aI G m4 20 cl, aI G m5 20 hs, aI G m6 20 ks, aI G m7 20 wa, aI G m8 20 ne, aI G m9 4 mn, aI G m10 400 tx, aI G m11 6 th, aI G m12 6 od, aI G m13 30 bk, aI G m14 30 bh] := hD
          have hv := hv r_79 fo2_80 fa2_81 hw
          refine lv_if_eq (tgt := 196) hx hb dX8_takeClause_102 (by decide) (fun hc_82 => ?_) (fun hc_82 => ?_)
          · have hv := hv.1 hc_82
            exact K_26 _ _ _ _ _ _ _ _ _ _ _ _ _ _ _ _ _ _ _ _ hv hP hD hS hl
          · have hv := hv.2 hc_82
            refine lv_aload_n hx hb dX8_takeClause_105 rfl (lv_at hl 1 rfl) ?_
            refine lv_iconst (v := 1) hx hb dX8_takeClause_106 (by decide) ?_
            refine va_put (D := G.1) (ci := 8) (v := .int 1) (ty := .boolean) (C := RX8) (T := TX8) (N := 29) hx hb hts hinX8 tyX8 tyX8_ok nmX8 hown hKK.1 hP hD hS 0 rfl rfl 15 (by decide) kl127 (fun _ h9 => h9) rfl (by decide +kernel) rfl rfl (Nat.le_of_ble_eq_true rfl) dX8_takeClause_107 (fun H locs hP hD hS => ?_)
            have hP : va_P G.1 vwCl [(m0, .inr (8, [.ref m1, .ref m2, .ref m3, .ref m4, .ref m5, .ref m6, .ref m7, .ref m8, .ref m9, .int fu, .int fd, .int fi, .int nu, .int nw, .int nf, .int 1, .int bn, .ref m10, .int ts, .int ap2_5, .int fs2_6, .int ln2_7, .int fo2_80, .int fa2_81, .ref m11, .ref m12, .ref m13, .ref m14, .int wr])), aJ G m1 560 mw, aZ G m2 2 ik, aI G m3 20 zs, aI G m4 20 cl, aI G m5 20 hs, aI G m6 20 ks, aI G m7 20 wa, aI G m8 20 ne, aI G m9 4 mn, aI G m10 400 tx, aI G m11 6 th, aI G m12 6 od, aI G m13 30 bk, aI G m14 30 bh] H := hP
            have hD : va_D A [(m0, .inr (8, [.ref m1, .ref m2, .ref m3, .ref m4, .ref m5, .ref m6, .ref m7, .ref m8, .ref m9, .int fu, .int fd, .int fi, .int nu, .int nw, .int nf, .int 1, .int bn, .ref m10, .int ts, .int ap2_5, .int fs2_6, .int ln2_7, .int fo2_80, .int fa2_81, .ref m11, .ref m12, .ref m13, .ref m14, .int wr])), aJ G m1 560 mw, aZ G m2 2 ik, aI G m3 20 zs, aI G m4 20 cl, aI G m5 20 hs, aI G m6 20 ks, aI G m7 20 wa, aI G m8 20 ne, aI G m9 4 mn, aI G m10 400 tx, aI G m11 6 th, aI G m12 6 od, aI G m13 30 bk, aI G m14 30 bh] := hD
            refine lv_aload_n hx hb dX8_takeClause_110 rfl (lv_at hl 1 rfl) ?_
            refine lv_aload_n hx hb dX8_takeClause_111 rfl (lv_at hl 1 rfl) ?_
            refine lv_iconst (v := 0) hx hb dX8_takeClause_112 (by decide) ?_
            refine lv_bipush (v := 99) hx hb dX8_takeClause_113 (by decide) ?_
            obtain ⟨gB_83, gL_84, gst_85, hv⟩ := hv
            obtain ⟨hp, hv⟩ := hv
            refine x_calli (wr := []) (w' := fun (u : (Int32) × (Int32) × (Int32) × (Int32)) => [(m0, .inr (8, [.ref m1, .ref m2, .ref m3, .ref m4, .ref m5, .ref m6, .ref m7, .ref m8, .ref m9, .int fu, .int fd, .int fi, .int nu, .int nw, .int nf, .int 1, .int bn, .ref m10, .int ts, .int u.1, .int u.2.1, .int ln2_7, .int u.2.2.1, .int u.2.2.2, .ref m11, .ref m12, .ref m13, .ref m14, .int wr])), aJ G m1 560 mw, aZ G m2 2 ik, aI G m3 20 zs, aI G m4 20 cl, aI G m5 20 hs, aI G m6 20 ks, aI G m7 20 wa, aI G m8 20 ne, aI G m9 4 mn, aI G m10 400 tx, aI G m11 6 th, aI G m12 6 od, aI G m13 30 bk, aI G m14 30 bh]) (x_runV (As := [.int 0, .int 99]) (rest := [.ref m0]) (n := 2) (C := RX8) (ci := 8) ⟨hx, hb, hml, hown, hts⟩ (k_X8_takeNumber l G m0 m1 m2 m3 m4 m5 m6 m7 m8 m9 m10 m11 m12 m13 m14 _ mw ik zs cl hs ks wa ne mn tx th od bk bh fu fd fi nu nw nf 1 bn ts ap2_5 fs2_6 ln2_7 fo2_80 fa2_81 wr 0 99 gB_83 gL_84 gst_85 hp) gX8_takeClause_X8_takeNumber rfl (by decide +kernel) ⟨Nat.le_trans (Nat.le_of_ble_eq_true rfl) hRf, Nat.le_trans (Nat.le_of_ble_eq_true rfl) hRl⟩ hKK hSS hS hA hP hD [0, 1, 2, 3, 4, 5, 6, 7, 8, 9, 10, 11, 12, 13, 14] (by decide) rfl rfl rfl 0 rfl rfl hl.1 rfl (Nat.le_of_ble_eq_true rfl) dX8_takeClause_115) hP hD hS hA [0, 1, 2, 3, 4, 5, 6, 7, 8, 9, 10, 11, 12, 13, 14] [] [0, 1, 2, 3, 4, 5, 6, 7, 8, 9, 10, 11, 12, 13, 14] rfl rfl (by decide) (by decide) (by decide) (fun _ => rfl) (fun r_86 u H locs hw hP hD hS => ?_)
            obtain ⟨ap2_87, fs2_88, fo2_89, fa2_90⟩ := u
            have hP : va_P G.1 vwCl [(m0, .inr (8, [.ref m1, .ref m2, .ref m3, .ref m4, .ref m5, .ref m6, .ref m7, .ref m8, .ref m9, .int fu, .int fd, .int fi, .int nu, .int nw, .int nf, .int 1, .int bn, .ref m10, .int ts, .int ap2_87, .int fs2_88, .int ln2_7, .int fo2_89, .int fa2_90, .ref m11, .ref m12, .ref m13, .ref m14, .int wr])), aJ G m1 560 mw, aZ G m2 2 ik, aI G m3 20 zs, aI G m4 20 cl, aI G m5 20 hs, aI G m6 20 ks, aI G m7 20 wa, aI G m8 20 ne, aI G m9 4 mn, aI G m10 400 tx, aI G m11 6 th, aI G m12 6 od, aI G m13 30 bk, aI G m14 30 bh] H := hP
            have hD : va_D A [(m0, .inr (8, [.ref m1, .ref m2, .ref m3, .ref m4, .ref m5, .ref m6, .ref m7, .ref m8, .ref m9, .int fu, .int fd, .int fi, .int nu, .int nw, .int nf, .int 1, .int bn, .ref m10, .int ts, .int ap2_87, .int fs2_88, .int ln2_7, .int fo2_89, .int fa2_90, .ref m11, .ref m12, .ref m13, .ref m14, .int wr])), aJ G m1 560 mw, aZ G m2 2 ik, aI G m3 20 zs, aI G m4 20 cl, aI G m5 20 hs, aI G m6 20 ks, aI G m7 20 wa, aI G m8 20 ne, aI G m9 4 mn, aI G m10 400 tx, aI G m11 6 th, aI G m12 6 od, aI G m13 30 bk, aI G m14 30 bh] := hD
            have hv := hv r_86 ap2_87 fs2_88 fo2_89 fa2_90 hw
            refine va_put (D := G.1) (ci := 8) (v := .int r_86) (ty := .int) (C := RX8) (T := TX8) (N := 29) hx hb hts hinX8 tyX8 tyX8_ok nmX8 hown hKK.1 hP hD hS 0 rfl rfl 12 (by decide) kl131 (fun _ h9 => h9) rfl (by decide +kernel) rfl rfl (Nat.le_of_ble_eq_true rfl) dX8_takeClause_118 (fun H locs hP hD hS => ?_)
            have hP : va_P G.1 vwCl [(m0, .inr (8, [.ref m1, .ref m2, .ref m3, .ref m4, .ref m5, .ref m6, .ref m7, .ref m8, .ref m9, .int fu, .int fd, .int fi, .int r_86, .int nw, .int nf, .int 1, .int bn, .ref m10, .int ts, .int ap2_87, .int fs2_88, .int ln2_7, .int fo2_89, .int fa2_90, .ref m11, .ref m12, .ref m13, .ref m14, .int wr])), aJ G m1 560 mw, aZ G m2 2 ik, aI G m3 20 zs, aI G m4 20 cl, aI G m5 20 hs, aI G m6 20 ks, aI G m7 20 wa, aI G m8 20 ne, aI G m9 4 mn, aI G m10 400 tx, aI G m11 6 th, aI G m12 6 od, aI G m13 30 bk, aI G m14 30 bh] H := hP
            have hD : va_D A [(m0, .inr (8, [.ref m1, .ref m2, .ref m3, .ref m4, .ref m5, .ref m6, .ref m7, .ref m8, .ref m9, .int fu, .int fd, .int fi, .int r_86, .int nw, .int nf, .int 1, .int bn, .ref m10, .int ts, .int ap2_87, .int fs2_88, .int ln2_7, .int fo2_89, .int fa2_90, .ref m11, .ref m12, .ref m13, .ref m14, .int wr])), aJ G m1 560 mw, aZ G m2 2 ik, aI G m3 20 zs, aI G m4 20 cl, aI G m5 20 hs, aI G m6 20 ks, aI G m7 20 wa, aI G m8 20 ne, aI G m9 4 mn, aI G m10 400 tx, aI G m11 6 th, aI G m12 6 od, aI G m13 30 bk, aI G m14 30 bh] := hD
            refine lv_aload_n hx hb dX8_takeClause_121 rfl (lv_at hl 1 rfl) ?_
            refine lv_aload_n hx hb dX8_takeClause_122 rfl (lv_at hl 1 rfl) ?_
            refine lv_iconst (v := 0) hx hb dX8_takeClause_123 (by decide) ?_
            refine lv_bipush (v := 99) hx hb dX8_takeClause_124 (by decide) ?_
            obtain ⟨gB_91, gL_92, gst_93, hv⟩ := hv
            obtain ⟨hp, hv⟩ := hv
            refine x_calli (wr := []) (w' := fun (u : (Int32) × (Int32) × (Int32) × (Int32)) => [(m0, .inr (8, [.ref m1, .ref m2, .ref m3, .ref m4, .ref m5, .ref m6, .ref m7, .ref m8, .ref m9, .int fu, .int fd, .int fi, .int r_86, .int nw, .int nf, .int 1, .int bn, .ref m10, .int ts, .int u.1, .int u.2.1, .int ln2_7, .int u.2.2.1, .int u.2.2.2, .ref m11, .ref m12, .ref m13, .ref m14, .int wr])), aJ G m1 560 mw, aZ G m2 2 ik, aI G m3 20 zs, aI G m4 20 cl, aI G m5 20 hs, aI G m6 20 ks, aI G m7 20 wa, aI G m8 20 ne, aI G m9 4 mn, aI G m10 400 tx, aI G m11 6 th, aI G m12 6 od, aI G m13 30 bk, aI G m14 30 bh]) (x_runV (As := [.int 0, .int 99]) (rest := [.ref m0]) (n := 2) (C := RX8) (ci := 8) ⟨hx, hb, hml, hown, hts⟩ (k_X8_takeNumber l G m0 m1 m2 m3 m4 m5 m6 m7 m8 m9 m10 m11 m12 m13 m14 _ mw ik zs cl hs ks wa ne mn tx th od bk bh fu fd fi r_86 nw nf 1 bn ts ap2_87 fs2_88 ln2_7 fo2_89 fa2_90 wr 0 99 gB_91 gL_92 gst_93 hp) gX8_takeClause_X8_takeNumber rfl (by decide +kernel) ⟨Nat.le_trans (Nat.le_of_ble_eq_true rfl) hRf, Nat.le_trans (Nat.le_of_ble_eq_true rfl) hRl⟩ hKK hSS hS hA hP hD [0, 1, 2, 3, 4, 5, 6, 7, 8, 9, 10, 11, 12, 13, 14] (by decide) rfl rfl rfl 0 rfl rfl hl.1 rfl (Nat.le_of_ble_eq_true rfl) dX8_takeClause_126) hP hD hS hA [0, 1, 2, 3, 4, 5, 6, 7, 8, 9, 10, 11, 12, 13, 14] [] [0, 1, 2, 3, 4, 5, 6, 7, 8, 9, 10, 11, 12, 13, 14] rfl rfl (by decide) (by decide) (by decide) (fun _ => rfl) (fun r_94 u H locs hw hP hD hS => ?_)
            obtain ⟨ap2_95, fs2_96, fo2_97, fa2_98⟩ := u
            have hP : va_P G.1 vwCl [(m0, .inr (8, [.ref m1, .ref m2, .ref m3, .ref m4, .ref m5, .ref m6, .ref m7, .ref m8, .ref m9, .int fu, .int fd, .int fi, .int r_86, .int nw, .int nf, .int 1, .int bn, .ref m10, .int ts, .int ap2_95, .int fs2_96, .int ln2_7, .int fo2_97, .int fa2_98, .ref m11, .ref m12, .ref m13, .ref m14, .int wr])), aJ G m1 560 mw, aZ G m2 2 ik, aI G m3 20 zs, aI G m4 20 cl, aI G m5 20 hs, aI G m6 20 ks, aI G m7 20 wa, aI G m8 20 ne, aI G m9 4 mn, aI G m10 400 tx, aI G m11 6 th, aI G m12 6 od, aI G m13 30 bk, aI G m14 30 bh] H := hP
            have hD : va_D A [(m0, .inr (8, [.ref m1, .ref m2, .ref m3, .ref m4, .ref m5, .ref m6, .ref m7, .ref m8, .ref m9, .int fu, .int fd, .int fi, .int r_86, .int nw, .int nf, .int 1, .int bn, .ref m10, .int ts, .int ap2_95, .int fs2_96, .int ln2_7, .int fo2_97, .int fa2_98, .ref m11, .ref m12, .ref m13, .ref m14, .int wr])), aJ G m1 560 mw, aZ G m2 2 ik, aI G m3 20 zs, aI G m4 20 cl, aI G m5 20 hs, aI G m6 20 ks, aI G m7 20 wa, aI G m8 20 ne, aI G m9 4 mn, aI G m10 400 tx, aI G m11 6 th, aI G m12 6 od, aI G m13 30 bk, aI G m14 30 bh] := hD
            have hv := hv r_94 ap2_95 fs2_96 fo2_97 fa2_98 hw
            refine va_put (D := G.1) (ci := 8) (v := .int r_94) (ty := .int) (C := RX8) (T := TX8) (N := 29) hx hb hts hinX8 tyX8 tyX8_ok nmX8 hown hKK.1 hP hD hS 0 rfl rfl 13 (by decide) kl134 (fun _ h9 => h9) rfl (by decide +kernel) rfl rfl (Nat.le_of_ble_eq_true rfl) dX8_takeClause_129 (fun H locs hP hD hS => ?_)
            have hP : va_P G.1 vwCl [(m0, .inr (8, [.ref m1, .ref m2, .ref m3, .ref m4, .ref m5, .ref m6, .ref m7, .ref m8, .ref m9, .int fu, .int fd, .int fi, .int r_86, .int r_94, .int nf, .int 1, .int bn, .ref m10, .int ts, .int ap2_95, .int fs2_96, .int ln2_7, .int fo2_97, .int fa2_98, .ref m11, .ref m12, .ref m13, .ref m14, .int wr])), aJ G m1 560 mw, aZ G m2 2 ik, aI G m3 20 zs, aI G m4 20 cl, aI G m5 20 hs, aI G m6 20 ks, aI G m7 20 wa, aI G m8 20 ne, aI G m9 4 mn, aI G m10 400 tx, aI G m11 6 th, aI G m12 6 od, aI G m13 30 bk, aI G m14 30 bh] H := hP
            have hD : va_D A [(m0, .inr (8, [.ref m1, .ref m2, .ref m3, .ref m4, .ref m5, .ref m6, .ref m7, .ref m8, .ref m9, .int fu, .int fd, .int fi, .int r_86, .int r_94, .int nf, .int 1, .int bn, .ref m10, .int ts, .int ap2_95, .int fs2_96, .int ln2_7, .int fo2_97, .int fa2_98, .ref m11, .ref m12, .ref m13, .ref m14, .int wr])), aJ G m1 560 mw, aZ G m2 2 ik, aI G m3 20 zs, aI G m4 20 cl, aI G m5 20 hs, aI G m6 20 ks, aI G m7 20 wa, aI G m8 20 ne, aI G m9 4 mn, aI G m10 400 tx, aI G m11 6 th, aI G m12 6 od, aI G m13 30 bk, aI G m14 30 bh] := hD
            refine lv_goto (tgt := 196) hx hb dX8_takeClause_132 (by decide) ?_
            exact K_26 _ _ _ _ _ _ _ _ _ _ _ _ _ _ _ _ _ _ _ _ hv hP hD hS hl
        refine lv_if_ne (tgt := 96) hx hb dX8_takeClause_89 (by decide) (fun hc_78 => ?_) (fun hc_78 => ?_)
        · have hv := hv.1 hc_78
          refine lv_iconst (v := 0) hx hb dX8_takeClause_96 (by decide) ?_
          exact K_77 _ _ _ _ hv hP hD hS hl
        · have hv := hv.2 hc_78
          refine lv_iconst (v := 1) hx hb dX8_takeClause_92 (by decide) ?_
          refine lv_goto (tgt := 97) hx hb dX8_takeClause_93 (by decide) ?_
          exact K_77 _ _ _ _ hv hP hD hS hl
    · have hv := hv.2 hc_40
      refine lv_aload_n hx hb dX8_takeClause_57 rfl (lv_at hl 1 rfl) ?_
      refine lv_iload_n hx hb dX8_takeClause_58 rfl (lv_at hl 0 rfl) ?_
      obtain ⟨gB_100, gL_101, gaq_102, gwq_103, gtq_104, hv⟩ := hv
      obtain ⟨hp, hv⟩ := hv
      refine x_callv (wr := []) (w' := fun (u : (Nat → Int32) × (Nat → Int32) × (Nat → Int32) × (Nat → Int32) × (Int32) × (Int32) × (Int32) × (Int32) × (Int32)) => [(m0, .inr (8, [.ref m1, .ref m2, .ref m3, .ref m4, .ref m5, .ref m6, .ref m7, .ref m8, .ref m9, .int fu, .int fd, .int fi, .int nu, .int nw, .int nf, .int bf, .int bn, .ref m10, .int ts, .int u.2.2.2.2.1, .int u.2.2.2.2.2.1, .int u.2.2.2.2.2.2.1, .int u.2.2.2.2.2.2.2.1, .int u.2.2.2.2.2.2.2.2, .ref m11, .ref m12, .ref m13, .ref m14, .int wr])), aJ G m1 560 mw, aZ G m2 2 ik, aI G m3 20 zs, aI G m4 20 cl, aI G m5 20 hs, aI G m6 20 u.1, aI G m7 20 u.2.1, aI G m8 20 u.2.2.1, aI G m9 4 u.2.2.2.1, aI G m10 400 tx, aI G m11 6 th, aI G m12 6 od, aI G m13 30 bk, aI G m14 30 bh]) (x_runV (As := [.int fs2_6]) (rest := []) (n := 1) (C := RX8) (ci := 8) ⟨hx, hb, hml, hown, hts⟩ (k_X8_takePerson l G m0 m1 m2 m3 m4 m5 m6 m7 m8 m9 m10 m11 m12 m13 m14 _ mw ik zs cl hs ks wa ne mn tx th od bk bh fu fd fi nu nw nf bf bn ts ap2_5 fs2_6 ln2_7 fo fa wr fs2_6 gB_100 gL_101 gaq_102 gwq_103 gtq_104 hp) gX8_takeClause_X8_takePerson rfl (by decide +kernel) ⟨Nat.le_trans (Nat.le_of_ble_eq_true rfl) hRf, Nat.le_trans (Nat.le_of_ble_eq_true rfl) hRl⟩ hKK hSS hS hA hP hD [0, 1, 2, 3, 4, 5, 6, 7, 8, 9, 10, 11, 12, 13, 14] (by decide) rfl rfl rfl 0 rfl rfl hl.1 rfl (Nat.le_of_ble_eq_true rfl) dX8_takeClause_59) hP hD hS hA [0, 1, 2, 3, 4, 5, 6, 7, 8, 9, 10, 11, 12, 13, 14] [] [0, 1, 2, 3, 4, 5, 6, 7, 8, 9, 10, 11, 12, 13, 14] rfl rfl (by decide) (by decide) (by decide) (fun _ => rfl) (fun  u H locs hw hP hD hS => ?_)
      obtain ⟨ks2_106, wa2_107, ne2_108, mn2_109, ap2_110, fs2_111, ln2_112, fo2_113, fa2_114⟩ := u
      have hP : va_P G.1 vwCl [(m0, .inr (8, [.ref m1, .ref m2, .ref m3, .ref m4, .ref m5, .ref m6, .ref m7, .ref m8, .ref m9, .int fu, .int fd, .int fi, .int nu, .int nw, .int nf, .int bf, .int bn, .ref m10, .int ts, .int ap2_110, .int fs2_111, .int ln2_112, .int fo2_113, .int fa2_114, .ref m11, .ref m12, .ref m13, .ref m14, .int wr])), aJ G m1 560 mw, aZ G m2 2 ik, aI G m3 20 zs, aI G m4 20 cl, aI G m5 20 hs, aI G m6 20 ks2_106, aI G m7 20 wa2_107, aI G m8 20 ne2_108, aI G m9 4 mn2_109, aI G m10 400 tx, aI G m11 6 th, aI G m12 6 od, aI G m13 30 bk, aI G m14 30 bh] H := hP
      have hD : va_D A [(m0, .inr (8, [.ref m1, .ref m2, .ref m3, .ref m4, .ref m5, .ref m6, .ref m7, .ref m8, .ref m9, .int fu, .int fd, .int fi, .int nu, .int nw, .int nf, .int bf, .int bn, .ref m10, .int ts, .int ap2_110, .int fs2_111, .int ln2_112, .int fo2_113, .int fa2_114, .ref m11, .ref m12, .ref m13, .ref m14, .int wr])), aJ G m1 560 mw, aZ G m2 2 ik, aI G m3 20 zs, aI G m4 20 cl, aI G m5 20 hs, aI G m6 20 ks2_106, aI G m7 20 wa2_107, aI G m8 20 ne2_108, aI G m9 4 mn2_109, aI G m10 400 tx, aI G m11 6 th, aI G m12 6 od, aI G m13 30 bk, aI G m14 30 bh] := hD
      have hv := hv ks2_106 wa2_107 ne2_108 mn2_109 ap2_110 fs2_111 ln2_112 fo2_113 fa2_114 hw
      refine lv_goto (tgt := 196) hx hb dX8_takeClause_62 (by decide) ?_
      exact K_26 _ _ _ _ _ _ _ _ _ _ _ _ _ _ _ _ _ _ _ _ hv hP hD hS hl
  · have hv := hv.2 hc_33
    refine lv_aload_n hx hb dX8_takeClause_28 rfl (lv_at hl 1 rfl) ?_
    refine lv_iload_n hx hb dX8_takeClause_29 rfl (lv_at hl 0 rfl) ?_
    obtain ⟨gB_115, gL_116, gaq_117, gwq_118, gtq_119, hv⟩ := hv
    obtain ⟨hp, hv⟩ := hv
    refine x_callv (wr := []) (w' := fun (u : (Nat → Int32) × (Nat → Int32) × (Nat → Int32) × (Nat → Int32) × (Int32) × (Int32) × (Int32) × (Int32)) => [(m0, .inr (8, [.ref m1, .ref m2, .ref m3, .ref m4, .ref m5, .ref m6, .ref m7, .ref m8, .ref m9, .int fu, .int fd, .int fi, .int nu, .int nw, .int nf, .int bf, .int bn, .ref m10, .int ts, .int u.2.2.2.2.1, .int u.2.2.2.2.2.1, .int ln2_7, .int u.2.2.2.2.2.2.1, .int u.2.2.2.2.2.2.2, .ref m11, .ref m12, .ref m13, .ref m14, .int wr])), aJ G m1 560 mw, aZ G m2 2 ik, aI G m3 20 u.1, aI G m4 20 u.2.1, aI G m5 20 u.2.2.1, aI G m6 20 ks, aI G m7 20 wa, aI G m8 20 ne, aI G m9 4 u.2.2.2.1, aI G m10 400 tx, aI G m11 6 th, aI G m12 6 od, aI G m13 30 bk, aI G m14 30 bh]) (x_runV (As := [.int fs2_6]) (rest := []) (n := 1) (C := RX8) (ci := 8) ⟨hx, hb, hml, hown, hts⟩ (k_X8_takeStone l G m0 m1 m2 m3 m4 m5 m6 m7 m8 m9 m10 m11 m12 m13 m14 _ mw ik zs cl hs ks wa ne mn tx th od bk bh fu fd fi nu nw nf bf bn ts ap2_5 fs2_6 ln2_7 fo fa wr fs2_6 gB_115 gL_116 gaq_117 gwq_118 gtq_119 hp) gX8_takeClause_X8_takeStone rfl (by decide +kernel) ⟨Nat.le_trans (Nat.le_of_ble_eq_true rfl) hRf, Nat.le_trans (Nat.le_of_ble_eq_true rfl) hRl⟩ hKK hSS hS hA hP hD [0, 1, 2, 3, 4, 5, 6, 7, 8, 9, 10, 11, 12, 13, 14] (by decide) rfl rfl rfl 0 rfl rfl hl.1 rfl (Nat.le_of_ble_eq_true rfl) dX8_takeClause_30) hP hD hS hA [0, 1, 2, 3, 4, 5, 6, 7, 8, 9, 10, 11, 12, 13, 14] [] [0, 1, 2, 3, 4, 5, 6, 7, 8, 9, 10, 11, 12, 13, 14] rfl rfl (by decide) (by decide) (by decide) (fun _ => rfl) (fun  u H locs hw hP hD hS => ?_)
    obtain ⟨zs2_121, cl2_122, hs2_123, mn2_124, ap2_125, fs2_126, fo2_127, fa2_128⟩ := u
    have hP : va_P G.1 vwCl [(m0, .inr (8, [.ref m1, .ref m2, .ref m3, .ref m4, .ref m5, .ref m6, .ref m7, .ref m8, .ref m9, .int fu, .int fd, .int fi, .int nu, .int nw, .int nf, .int bf, .int bn, .ref m10, .int ts, .int ap2_125, .int fs2_126, .int ln2_7, .int fo2_127, .int fa2_128, .ref m11, .ref m12, .ref m13, .ref m14, .int wr])), aJ G m1 560 mw, aZ G m2 2 ik, aI G m3 20 zs2_121, aI G m4 20 cl2_122, aI G m5 20 hs2_123, aI G m6 20 ks, aI G m7 20 wa, aI G m8 20 ne, aI G m9 4 mn2_124, aI G m10 400 tx, aI G m11 6 th, aI G m12 6 od, aI G m13 30 bk, aI G m14 30 bh] H := hP
    have hD : va_D A [(m0, .inr (8, [.ref m1, .ref m2, .ref m3, .ref m4, .ref m5, .ref m6, .ref m7, .ref m8, .ref m9, .int fu, .int fd, .int fi, .int nu, .int nw, .int nf, .int bf, .int bn, .ref m10, .int ts, .int ap2_125, .int fs2_126, .int ln2_7, .int fo2_127, .int fa2_128, .ref m11, .ref m12, .ref m13, .ref m14, .int wr])), aJ G m1 560 mw, aZ G m2 2 ik, aI G m3 20 zs2_121, aI G m4 20 cl2_122, aI G m5 20 hs2_123, aI G m6 20 ks, aI G m7 20 wa, aI G m8 20 ne, aI G m9 4 mn2_124, aI G m10 400 tx, aI G m11 6 th, aI G m12 6 od, aI G m13 30 bk, aI G m14 30 bh] := hD
    have hv := hv zs2_121 cl2_122 hs2_123 mn2_124 ap2_125 fs2_126 fo2_127 fa2_128 hw
    refine lv_goto (tgt := 196) hx hb dX8_takeClause_33 (by decide) ?_
    exact K_26 _ _ _ _ _ _ _ _ _ _ _ _ _ _ _ _ _ _ _ _ hv hP hD hS hl
theorem v_X8_takeClause (l : Launch) (G : Gt) (m0 m1 m2 m3 m4 m5 m6 m7 m8 m9 m10 m11 m12 m13 m14 : Nat) (sz : Nat) (mw : Nat → Int64) (ik : Nat → Int32) (zs : Nat → Int32) (cl : Nat → Int32) (hs : Nat → Int32) (ks : Nat → Int32) (wa : Nat → Int32) (ne : Nat → Int32) (mn : Nat → Int32) (tx : Nat → Int32) (th : Nat → Int32) (od : Nat → Int32) (bk : Nat → Int32) (bh : Nat → Int32) (fu : Int32) (fd : Int32) (fi : Int32) (nu : Int32) (nw : Int32) (nf : Int32) (bf : Int32) (bn : Int32) (ts : Int32) (ap : Int32) (fs : Int32) (ln : Int32) (fo : Int32) (fa : Int32) (wr : Int32) (B : Nat → Int) (L : Nat) (aq : Nat) (tq : PTn) (hp : MX B L tx ts ∧ CSo L aq fo fa ap ∧ MW tq zs cl hs ks wa ne mn nu nw nf bf bn ∧ tq.1 ≤ 9 ∧ tq.2.1 ≤ 8) : ∃ (gB_1 : Nat → Int) (gL_2 : Nat) (gaq_3 : Nat), ((MX gB_1 gL_2 tx ts ∧ ap = nI gaq_3 ∧ gaq_3 ≤ gL_2) ∧ (∀ (ap2_5 : Int32) (fs2_6 : Int32) (ln2_7 : Int32), (fs2_6 = nI (sk gB_1 gL_2 gaq_3) ∧ ap2_5 = nI (wE gB_1 gL_2 (sk gB_1 gL_2 gaq_3)) ∧ ln2_7 = nI (wE gB_1 gL_2 (sk gB_1 gL_2 gaq_3) - sk gB_1 gL_2 gaq_3)) → (∃ (J196_25 : (Nat → Int32) → (Nat → Int32) → (Nat → Int32) → (Nat → Int32) → (Nat → Int32) → (Nat → Int32) → (Nat → Int32) → Int32 → Int32 → Int32 → Int32 → Int32 → Int32 → Int32 → Int32 → Int32 → Int32 → Prop), (∃ (gB_27 : Nat → Int) (gL_28 : Nat) (gwq_29 : Nat) (geq__30 : Nat) (gi__31 : Nat), ((MX gB_27 gL_28 tx ts ∧ fs2_6 = nI gwq_29 ∧ ln2_7 = nI (geq__30 - gwq_29) ∧ gwq_29 ≤ geq__30 ∧ geq__30 ≤ gL_28 ∧ gi__31 < 9 ∧ (5 : Int32) = nI (stL.getD gi__31 0) ∧ (∀ k, k < stL.getD gi__31 0 → ltr (115 : Int32) (116 : Int32) (111 : Int32) (110 : Int32) (101 : Int32) (0 : Int32) k = (stB.getD gi__31 []).getD k 0)) ∧ (∀ (r_32 : Int32), (r_32 = (if wIs gB_27 gwq_29 geq__30 gi__31 = true then 1 else 0)) → ((r_32 = 0 → ∃ (gB_34 : Nat → Int) (gL_35 : Nat) (gwq_36 : Nat) (geq__37 : Nat) (gi__38 : Nat), ((MX gB_34 gL_35 tx ts ∧ fs2_6 = nI gwq_36 ∧ ln2_7 = nI (geq__37 - gwq_36) ∧ gwq_36 ≤ geq__37 ∧ geq__37 ≤ gL_35 ∧ gi__38 < 9 ∧ (6 : Int32) = nI (stL.getD gi__38 0) ∧ (∀ k, k < stL.getD gi__38 0 → ltr (112 : Int32) (101 : Int32) (114 : Int32) (115 : Int32) (111 : Int32) (110 : Int32) k = (stB.getD gi__38 []).getD k 0)) ∧ (∀ (r_39 : Int32), (r_39 = (if wIs gB_34 gwq_36 geq__37 gi__38 = true then 1 else 0)) → ((r_39 = 0 → ∃ (gB_41 : Nat → Int) (gL_42 : Nat) (gwq_43 : Nat) (geq__44 : Nat) (gi__45 : Nat), ((MX gB_41 gL_42 tx ts ∧ fs2_6 = nI gwq_43 ∧ ln2_7 = nI (geq__44 - gwq_43) ∧ gwq_43 ≤ geq__44 ∧ geq__44 ≤ gL_42 ∧ gi__45 < 9 ∧ (5 : Int32) = nI (stL.getD gi__45 0) ∧ (∀ k, k < stL.getD gi__45 0 → ltr (102 : Int32) (114 : Int32) (111 : Int32) (115 : Int32) (116 : Int32) (0 : Int32) k = (stB.getD gi__45 []).getD k 0)) ∧ (∀ (r_46 : Int32), (r_46 = (if wIs gB_41 gwq_43 geq__44 gi__45 = true then 1 else 0)) → ((r_46 = 0 → ∃ (gB_48 : Nat → Int) (gL_49 : Nat) (gwq_50 : Nat) (geq__51 : Nat) (gi__52 : Nat), ((MX gB_48 gL_49 tx ts ∧ fs2_6 = nI gwq_50 ∧ ln2_7 = nI (geq__51 - gwq_50) ∧ gwq_50 ≤ geq__51 ∧ geq__51 ≤ gL_49 ∧ gi__52 < 9 ∧ (4 : Int32) = nI (stL.getD gi__52 0) ∧ (∀ k, k < stL.getD gi__52 0 → ltr (102 : Int32) (105 : Int32) (110 : Int32) (101 : Int32) (0 : Int32) (0 : Int32) k = (stB.getD gi__52 []).getD k 0)) ∧ (∀ (r_53 : Int32), (r_53 = (if wIs gB_48 gwq_50 geq__51 gi__52 = true then 1 else 0)) → ((¬ (1 : Int32) = 0) ∧ (∀ (r_54 : Int32) (fo2_55 : Int32) (fa2_56 : Int32), (((fo = 0 ∧ ¬ r_53 = 0 ∧ r_54 = 1 ∧ fo2_55 = fo ∧ fa2_56 = fa) ∨ (fo = 0 ∧ r_53 = 0 ∧ r_54 = 0 ∧ fo2_55 = (1 : Int32) ∧ fa2_56 = fs2_6) ∨ (¬ fo = 0 ∧ r_54 = 0 ∧ fo2_55 = fo ∧ fa2_56 = fa))) → ((r_54 = 0 → J196_25 zs cl hs ks wa ne mn nu nw nf bf bn ap2_5 fs2_6 ln2_7 fo2_55 fa2_56) ∧ (¬ (r_54 = 0) → ∃ (J172_59 : Int32 → Prop), ((¬ bn = 0 → J172_59 0) ∧ (bn = 0 → J172_59 1)) ∧ (∀ (t0_58 : Int32), J172_59 t0_58 → (¬ (3 : Int32) = 0) ∧ (∀ (r_62 : Int32) (fo2_63 : Int32) (fa2_64 : Int32), (((fo2_55 = 0 ∧ ¬ t0_58 = 0 ∧ r_62 = 1 ∧ fo2_63 = fo2_55 ∧ fa2_64 = fa2_56) ∨ (fo2_55 = 0 ∧ t0_58 = 0 ∧ r_62 = 0 ∧ fo2_63 = (3 : Int32) ∧ fa2_64 = fs2_6) ∨ (¬ fo2_55 = 0 ∧ r_62 = 0 ∧ fo2_63 = fo2_55 ∧ fa2_64 = fa2_56))) → ((r_62 = 0 → J196_25 zs cl hs ks wa ne mn nu nw nf bf bn ap2_5 fs2_6 ln2_7 fo2_63 fa2_64) ∧ (¬ (r_62 = 0) → ∃ (gB_66 : Nat → Int) (gL_67 : Nat) (gst_68 : Flt ⊕ Nat), ((MX gB_66 gL_67 tx ts ∧ CSs gL_67 gst_68 fo2_63 fa2_64 ap2_5) ∧ (∀ (r_69 : Int32) (ap2_70 : Int32) (fs2_71 : Int32) (fo2_72 : Int32) (fa2_73 : Int32), (CSn gL_67 (bnd gst_68 (nuR gB_66 gL_67 (0 : Int32).toInt (99 : Int32).toInt)) r_69 fo2_72 fa2_73 ap2_70 fs2_71) → (J196_25 zs cl hs ks wa ne mn nu nw r_69 bf 1 ap2_70 fs2_71 ln2_7 fo2_72 fa2_73)))))))))))))) ∧ (¬ (r_46 = 0) → ∃ (J97_76 : Int32 → Prop), ((¬ bf = 0 → J97_76 0) ∧ (bf = 0 → J97_76 1)) ∧ (∀ (t0_75 : Int32), J97_76 t0_75 → (¬ (3 : Int32) = 0) ∧ (∀ (r_79 : Int32) (fo2_80 : Int32) (fa2_81 : Int32), (((fo = 0 ∧ ¬ t0_75 = 0 ∧ r_79 = 1 ∧ fo2_80 = fo ∧ fa2_81 = fa) ∨ (fo = 0 ∧ t0_75 = 0 ∧ r_79 = 0 ∧ fo2_80 = (3 : Int32) ∧ fa2_81 = fs2_6) ∨ (¬ fo = 0 ∧ r_79 = 0 ∧ fo2_80 = fo ∧ fa2_81 = fa))) → ((r_79 = 0 → J196_25 zs cl hs ks wa ne mn nu nw nf bf bn ap2_5 fs2_6 ln2_7 fo2_80 fa2_81) ∧ (¬ (r_79 = 0) → ∃ (gB_83 : Nat → Int) (gL_84 : Nat) (gst_85 : Flt ⊕ Nat), ((MX gB_83 gL_84 tx ts ∧ CSs gL_84 gst_85 fo2_80 fa2_81 ap2_5) ∧ (∀ (r_86 : Int32) (ap2_87 : Int32) (fs2_88 : Int32) (fo2_89 : Int32) (fa2_90 : Int32), (CSn gL_84 (bnd gst_85 (nuR gB_83 gL_84 (0 : Int32).toInt (99 : Int32).toInt)) r_86 fo2_89 fa2_90 ap2_87 fs2_88) → (∃ (gB_91 : Nat → Int) (gL_92 : Nat) (gst_93 : Flt ⊕ Nat), ((MX gB_91 gL_92 tx ts ∧ CSs gL_92 gst_93 fo2_89 fa2_90 ap2_87) ∧ (∀ (r_94 : Int32) (ap2_95 : Int32) (fs2_96 : Int32) (fo2_97 : Int32) (fa2_98 : Int32), (CSn gL_92 (bnd gst_93 (nuR gB_91 gL_92 (0 : Int32).toInt (99 : Int32).toInt)) r_94 fo2_97 fa2_98 ap2_95 fs2_96) → (J196_25 zs cl hs ks wa ne mn r_86 r_94 nf 1 bn ap2_95 fs2_96 ln2_7 fo2_97 fa2_98))))))))))))))) ∧ (¬ (r_39 = 0) → ∃ (gB_100 : Nat → Int) (gL_101 : Nat) (gaq_102 : Nat) (gwq_103 : Nat) (gtq_104 : PTn), ((MX gB_100 gL_101 tx ts ∧ CSo gL_101 gaq_102 fo fa ap2_5 ∧ fs2_6 = nI gwq_103 ∧ MW gtq_104 zs cl hs ks wa ne mn nu nw nf bf bn ∧ gtq_104.1 ≤ 9 ∧ gtq_104.2.1 ≤ 8) ∧ (∀ (ks2_106 : Nat → Int32) (wa2_107 : Nat → Int32) (ne2_108 : Nat → Int32) (mn2_109 : Nat → Int32) (ap2_110 : Int32) (fs2_111 : Int32) (ln2_112 : Int32) (fo2_113 : Int32) (fa2_114 : Int32), (MP gL_101 (peC gB_100 gL_101 gwq_103 gaq_102 gtq_104) fo2_113 fa2_114 ap2_110 zs cl hs ks2_106 wa2_107 ne2_108 mn2_109 nu nw nf bf bn ∧ fr10 ks ks2_106 ∧ fr10 wa wa2_107 ∧ fr10 ne ne2_108 ∧ fr2 mn mn2_109) → (J196_25 zs cl hs ks2_106 wa2_107 ne2_108 mn2_109 nu nw nf bf bn ap2_110 fs2_111 ln2_112 fo2_113 fa2_114)))))))) ∧ (¬ (r_32 = 0) → ∃ (gB_115 : Nat → Int) (gL_116 : Nat) (gaq_117 : Nat) (gwq_118 : Nat) (gtq_119 : PTn), ((MX gB_115 gL_116 tx ts ∧ CSo gL_116 gaq_117 fo fa ap2_5 ∧ fs2_6 = nI gwq_118 ∧ MW gtq_119 zs cl hs ks wa ne mn nu nw nf bf bn ∧ gtq_119.1 ≤ 9 ∧ gtq_119.2.1 ≤ 8) ∧ (∀ (zs2_121 : Nat → Int32) (cl2_122 : Nat → Int32) (hs2_123 : Nat → Int32) (mn2_124 : Nat → Int32) (ap2_125 : Int32) (fs2_126 : Int32) (fo2_127 : Int32) (fa2_128 : Int32), (MP gL_116 (stC gB_115 gL_116 gwq_118 gaq_117 gtq_119) fo2_127 fa2_128 ap2_125 zs2_121 cl2_122 hs2_123 ks wa ne mn2_124 nu nw nf bf bn ∧ fr10 zs zs2_121 ∧ fr10 cl cl2_122 ∧ fr10 hs hs2_123 ∧ fr2 mn mn2_124) → (J196_25 zs2_121 cl2_122 hs2_123 ks wa ne mn2_124 nu nw nf bf bn ap2_125 fs2_126 ln2_7 fo2_127 fa2_128)))))))) ∧ (∀ (fm3_8 : (Nat → Int32)) (fm4_9 : (Nat → Int32)) (fm5_10 : (Nat → Int32)) (fm6_11 : (Nat → Int32)) (fm7_12 : (Nat → Int32)) (fm8_13 : (Nat → Int32)) (fm9_14 : (Nat → Int32)) (gm012_15 : Int32) (gm013_16 : Int32) (gm014_17 : Int32) (gm015_18 : Int32) (gm016_19 : Int32) (gm019_20 : Int32) (gm020_21 : Int32) (gm021_22 : Int32) (gm022_23 : Int32) (gm023_24 : Int32), J196_25 fm3_8 fm4_9 fm5_10 fm6_11 fm7_12 fm8_13 fm9_14 gm012_15 gm013_16 gm014_17 gm015_18 gm016_19 gm019_20 gm020_21 gm021_22 gm022_23 gm023_24 → (¬ gm022_23 = 0 → MP L (clR B L aq tq) gm022_23 gm023_24 gm019_20 fm3_8 fm4_9 fm5_10 fm6_11 fm7_12 fm8_13 fm9_14 gm012_15 gm013_16 gm014_17 gm015_18 gm016_19 ∧ fr10 zs fm3_8 ∧ fr10 cl fm4_9 ∧ fr10 hs fm5_10 ∧ fr10 ks fm6_11 ∧ fr10 wa fm7_12 ∧ fr10 ne fm8_13 ∧ fr2 mn fm9_14) ∧ (gm022_23 = 0 → ∃ (gB_130 : Nat → Int) (gL_131 : Nat) (gaq_132 : Nat), ((MX gB_130 gL_131 tx ts ∧ gm019_20 = nI gaq_132 ∧ gaq_132 ≤ gL_131) ∧ (∀ (r_133 : Int32) (ap2_134 : Int32), (ap2_134 = nI (sk gB_130 gL_131 gaq_132) ∧ r_133.toInt = (if sk gB_130 gL_131 gaq_132 < gL_131 then gB_130 (sk gB_130 gL_131 gaq_132) else -1)) → (∃ (J218_136 : Int32 → Prop), ((¬ r_133 = 59 → J218_136 0) ∧ (r_133 = 59 → J218_136 1)) ∧ (∀ (t0_135 : Int32), J218_136 t0_135 → (¬ (1 : Int32) = 0) ∧ (∀ (r_139 : Int32) (fo2_140 : Int32) (fa2_141 : Int32), (((gm022_23 = 0 ∧ ¬ t0_135 = 0 ∧ r_139 = 1 ∧ fo2_140 = gm022_23 ∧ fa2_141 = gm023_24) ∨ (gm022_23 = 0 ∧ t0_135 = 0 ∧ r_139 = 0 ∧ fo2_140 = (1 : Int32) ∧ fa2_141 = ap2_134) ∨ (¬ gm022_23 = 0 ∧ r_139 = 0 ∧ fo2_140 = gm022_23 ∧ fa2_141 = gm023_24))) → ((r_139 = 0 → MP L (clR B L aq tq) fo2_140 fa2_141 ap2_134 fm3_8 fm4_9 fm5_10 fm6_11 fm7_12 fm8_13 fm9_14 gm012_15 gm013_16 gm014_17 gm015_18 gm016_19 ∧ fr10 zs fm3_8 ∧ fr10 cl fm4_9 ∧ fr10 hs fm5_10 ∧ fr10 ks fm6_11 ∧ fr10 wa fm7_12 ∧ fr10 ne fm8_13 ∧ fr2 mn fm9_14) ∧ (¬ (r_139 = 0) → MP L (clR B L aq tq) fo2_140 fa2_141 (ap2_134 + 1) fm3_8 fm4_9 fm5_10 fm6_11 fm7_12 fm8_13 fm9_14 gm012_15 gm013_16 gm014_17 gm015_18 gm016_19 ∧ fr10 zs fm3_8 ∧ fr10 cl fm4_9 ∧ fr10 hs fm5_10 ∧ fr10 ks fm6_11 ∧ fr10 wa fm7_12 ∧ fr10 ne fm8_13 ∧ fr2 mn fm9_14)))))))))))) := by
  obtain ⟨hX, ⟨ha, rfl, rfl, rfl⟩, hW, h9, h8⟩ := hp
  obtain ⟨n0, p0, T, ff, fn⟩ := tq
  have hL := hX.1
  dsimp only at h9 h8
  have hsL := sk_L (B := B) ha
  have hwL := wE_L (B := B) hsL
  have hbf : bf = flg ff := hW.2.2.2.2.2.2.2.1
  have hbn : bn = flg fn := hW.2.2.2.2.2.2.2.2
  refine ⟨B, L, aq, ⟨hX, rfl, ha⟩, fun a1 s1 l1 h1 => ?_⟩
  obtain ⟨rfl, rfl, rfl⟩ := h1
  refine ⟨fun zs2 cl2 hs2 ks2 wa2 ne2 mn2 nu nw nf bf bn ap _ _ fo fa => MP L (clN B L (sk B L aq) (wE B L (sk B L aq)) (n0, p0, T, ff, fn)) fo fa ap zs2 cl2 hs2 ks2 wa2 ne2 mn2 nu nw nf bf bn ∧ fr10 zs zs2 ∧ fr10 cl cl2 ∧ fr10 hs hs2 ∧ fr10 ks ks2 ∧ fr10 wa wa2 ∧ fr10 ne ne2 ∧ fr2 mn mn2, ?_, ?_⟩
  · refine ⟨B, L, sk B L aq, wE B L (sk B L aq), 0, ⟨hX, rfl, rfl, wE_le, hwL, by decide, rfl, by decide⟩, fun r0 hr0 => ?_⟩
    subst hr0
    rw [tv_eq, Classical.not_not]
    refine ⟨fun h0 => ?_, fun h0 => ?_⟩
    rotate_left
    · refine ⟨B, L, wE B L (sk B L aq), sk B L aq, (n0, p0, T, ff, fn), ⟨hX, ⟨hwL, rfl, rfl, rfl⟩, rfl, hW, h9, h8⟩, fun zs2 cl2 hs2 mn2 ap2 fs2 fo2 fa2 h => ?_⟩
      unfold clN
      rw [if_pos h0]
      exact ⟨h.1, h.2.1, h.2.2.1, h.2.2.2.1, fr10.rf _, fr10.rf _, fr10.rf _, h.2.2.2.2⟩
    refine ⟨B, L, sk B L aq, wE B L (sk B L aq), 1, ⟨hX, rfl, rfl, wE_le, hwL, by decide, rfl, by decide⟩, fun r1 hr1 => ?_⟩
    subst hr1
    rw [tv_eq, Classical.not_not]
    refine ⟨fun h1 => ?_, fun h1 => ?_⟩
    rotate_left
    · refine ⟨B, L, wE B L (sk B L aq), sk B L aq, (n0, p0, T, ff, fn), ⟨hX, ⟨hwL, rfl, rfl, rfl⟩, rfl, hW, h9, h8⟩, fun ks2 wa2 ne2 mn2 ap2 fs2 ln2 fo2 fa2 h => ?_⟩
      unfold clN
      rw [if_neg h0, if_pos h1]
      exact ⟨h.1, fr10.rf _, fr10.rf _, fr10.rf _, h.2.1, h.2.2.1, h.2.2.2.1, h.2.2.2.2⟩
    refine ⟨B, L, sk B L aq, wE B L (sk B L aq), 2, ⟨hX, rfl, rfl, wE_le, hwL, by decide, rfl, by decide⟩, fun r2 hr2 => ?_⟩
    subst hr2
    rw [tv_eq, Classical.not_not]
    refine ⟨fun h2 => ?_, fun h2 => ?_⟩
    rotate_left
    · have eC : clN B L (sk B L aq) (wE B L (sk B L aq)) (n0, p0, T, ff, fn) = frC B L (sk B L aq) (wE B L (sk B L aq)) (n0, p0, T, ff, fn) := by
        unfold clN; rw [if_neg h0, if_neg h1, if_pos h2]
      rw [eC]
      have hb0 : bf = 0 ↔ ff = false := by rw [hbf]; exact flg_0
      rw [hb0]
      refine ⟨fun t => t = (if ff = false then 1 else 0), ⟨fun h => by rw [if_neg h], fun h => by rw [if_pos h]⟩, fun t ht => ⟨by decide, fun r3 fo3 fa3 hw => ?_⟩⟩
      cases ff with
      | true =>
        rw [if_neg (by decide)] at ht
        obtain ⟨rfl, rfl, rfl⟩ := want_no hw rfl ht
        exact ⟨fun _ => ⟨CSf.mk (f := 3) (by decide) (by decide) hwL, fr10.rf _, fr10.rf _, fr10.rf _, fr10.rf _, fr10.rf _, fr10.rf _, rfl, rfl⟩, fun z => absurd rfl z⟩
      | false =>
        rw [if_pos rfl] at ht
        obtain ⟨hr, hfo, hfa⟩ := want_ok hw rfl (by rw [ht]; decide)
        refine ⟨fun z => absurd (hr.symm.trans z) (by decide), fun _ => ⟨B, L, .inr (wE B L (sk B L aq)), ⟨hX, hwL, hfo, hfa, rfl⟩, fun r4 a4 t4 g4 f4 h4 => ?_⟩⟩
        have h4 : CSn L (nuR B L 0 99 (wE B L (sk B L aq))) r4 g4 f4 a4 t4 := h4
        cases q1 : nuR B L 0 99 (wE B L (sk B L aq)) with
        | inl x =>
          rw [q1] at h4
          have e : frC B L (sk B L aq) (wE B L (sk B L aq)) (n0, p0, T, false, fn) = .inl x := by unfold frC; rw [frN_1 q1]; rfl
          rw [e]
          exact ⟨B, L, .inl x, ⟨hX, h4⟩, fun r5 a5 t5 g5 f5 h5 => ⟨h5, fr10.rf _, fr10.rf _, fr10.rf _, fr10.rf _, fr10.rf _, fr10.rf _, rfl, rfl⟩⟩
        | inr o1 =>
          obtain ⟨b1, u1, v1⟩ := o1
          rw [q1] at h4
          obtain ⟨k1, rfl, w1⟩ := h4
          refine ⟨B, L, .inr b1, ⟨hX, k1⟩, fun r5 a5 t5 g5 f5 h5 => ⟨?_, fr10.rf _, fr10.rf _, fr10.rf _, fr10.rf _, fr10.rf _, fr10.rf _, rfl, rfl⟩⟩
          have h5 : CSn L (nuR B L 0 99 b1) r5 g5 f5 a5 t5 := h5
          cases q2 : nuR B L 0 99 b1 with
          | inl x =>
            rw [q2] at h5
            have e : frC B L (sk B L aq) (wE B L (sk B L aq)) (n0, p0, T, false, fn) = .inl x := by unfold frC; rw [frN_2 q1 q2]; rfl
            rw [e]
            exact h5
          | inr o2 =>
            obtain ⟨b2, u2, v2⟩ := o2
            rw [q2] at h5
            obtain ⟨k2, rfl, w2⟩ := h5
            have e : frC B L (sk B L aq) (wE B L (sk B L aq)) (n0, p0, T, false, fn) = .inr (b2, n0, p0, uT (uT T 4 0 v1) 4 1 v2, true, fn) := by unfold frC; rw [frN_5 q1 q2]; rfl
            rw [e]
            exact ⟨k2, MW_frost hW w1 w2⟩
    refine ⟨B, L, sk B L aq, wE B L (sk B L aq), 3, ⟨hX, rfl, rfl, wE_le, hwL, by decide, rfl, by decide⟩, fun r3 hr3 => ?_⟩
    refine ⟨by decide, fun r4 fo4 fa4 hw4 => ?_⟩
    by_cases h3 : wIs B (sk B L aq) (wE B L (sk B L aq)) 3 = true
    · have eC : clN B L (sk B L aq) (wE B L (sk B L aq)) (n0, p0, T, ff, fn) = fiC B L (sk B L aq) (wE B L (sk B L aq)) (n0, p0, T, ff, fn) := by
        unfold clN; rw [if_neg h0, if_neg h1, if_neg h2, if_pos h3]
      rw [eC]
      obtain ⟨hr4, hfo4, hfa4⟩ := want_ok hw4 rfl (by rw [hr3, if_pos h3]; decide)
      refine ⟨fun z => absurd (hr4.symm.trans z) (by decide), fun _ => ?_⟩
      have hb0 : bn = 0 ↔ fn = false := by rw [hbn]; exact flg_0
      rw [hb0]
      refine ⟨fun t => t = (if fn = false then 1 else 0), ⟨fun h => by rw [if_neg h], fun h => by rw [if_pos h]⟩, fun t ht => ⟨by decide, fun r5 fo5 fa5 hw => ?_⟩⟩
      cases fn with
      | true =>
        rw [if_neg (by decide)] at ht
        obtain ⟨rfl, rfl, rfl⟩ := want_no hw hfo4 ht
        exact ⟨fun _ => ⟨CSf.mk (f := 3) (by decide) (by decide) hwL, fr10.rf _, fr10.rf _, fr10.rf _, fr10.rf _, fr10.rf _, fr10.rf _, rfl, rfl⟩, fun z => absurd rfl z⟩
      | false =>
        rw [if_pos rfl] at ht
        obtain ⟨hr, hfo, hfa⟩ := want_ok hw hfo4 (by rw [ht]; decide)
        refine ⟨fun z => absurd (hr.symm.trans z) (by decide), fun _ => ⟨B, L, .inr (wE B L (sk B L aq)), ⟨hX, hwL, hfo.trans hfo4, hfa.trans hfa4, rfl⟩, fun r6 a6 t6 g6 f6 h6 => ⟨?_, fr10.rf _, fr10.rf _, fr10.rf _, fr10.rf _, fr10.rf _, fr10.rf _, rfl, rfl⟩⟩⟩
        have h6 : CSn L (nuR B L 0 99 (wE B L (sk B L aq))) r6 g6 f6 a6 t6 := h6
        cases q1 : nuR B L 0 99 (wE B L (sk B L aq)) with
        | inl x =>
          rw [q1] at h6
          have e : fiC B L (sk B L aq) (wE B L (sk B L aq)) (n0, p0, T, ff, false) = .inl x := by unfold fiC; rw [fiN_1 q1]; rfl
          rw [e]
          exact h6
        | inr o1 =>
          obtain ⟨b1, u1, v1⟩ := o1
          rw [q1] at h6
          obtain ⟨k1, rfl, w1⟩ := h6
          have e : fiC B L (sk B L aq) (wE B L (sk B L aq)) (n0, p0, T, ff, false) = .inr (b1, n0, p0, uT T 4 2 v1, ff, true) := by unfold fiC; rw [fiN_5 q1]; rfl
          rw [e]
          exact ⟨k1, MW_fine hW w1⟩
    · have eC : clN B L (sk B L aq) (wE B L (sk B L aq)) (n0, p0, T, ff, fn) = .inl (1, sk B L aq) := by
        unfold clN; rw [if_neg h0, if_neg h1, if_neg h2, if_neg h3]
      rw [eC]
      obtain ⟨rfl, rfl, rfl⟩ := want_no hw4 rfl (by rw [hr3, if_neg h3])
      exact ⟨fun _ => ⟨CSf.mk (f := 1) (by decide) (by decide) hwL, fr10.rf _, fr10.rf _, fr10.rf _, fr10.rf _, fr10.rf _, fr10.rf _, rfl, rfl⟩, fun z => absurd rfl z⟩
  rintro zs2 cl2 hs2 ks2 wa2 ne2 mn2 nu2 nw2 nf2 bf2 bn2 ap2 fs2 ln2 fo2 fa2 ⟨hM, hfr⟩
  unfold clR
  cases q : clN B L (sk B L aq) (wE B L (sk B L aq)) (n0, p0, T, ff, fn) with
  | inl x =>
    rw [q] at hM
    have hM : CSf L x fo2 fa2 ap2 := hM
    exact ⟨fun _ => ⟨hM, hfr⟩, fun z => absurd z hM.ne⟩
  | inr o =>
    obtain ⟨b, t⟩ := o
    rw [q] at hM
    obtain ⟨⟨kb, hfo, hfa, rfl⟩, hW2⟩ := hM
    refine ⟨fun z => absurd hfo z, fun _ => ⟨B, L, b, ⟨hX, rfl, kb⟩, fun r z hz => ?_⟩⟩
    obtain ⟨rfl, hr⟩ := hz
    have hsb := sk_L (B := B) kb
    have hsemi : r = 59 ↔ (sk B L b < L ∧ B (sk B L b) = 59) := by
      rw [i_eq hr (show (59 : Int32).toInt = 59 from rfl)]
      by_cases g : sk B L b < L
      · rw [if_pos g]; exact ⟨fun z => ⟨g, z⟩, fun z => z.2⟩
      · rw [if_neg g]; exact ⟨fun z => absurd z (by decide), fun z => absurd z.1 g⟩
    rw [hsemi]
    refine ⟨fun t => t = (if sk B L b < L ∧ B (sk B L b) = 59 then 1 else 0), ⟨fun h => by rw [if_neg h], fun h => by rw [if_pos h]⟩, fun t0 ht0 => ⟨by decide, fun r2 fo3 fa3 hw => ?_⟩⟩
    by_cases g : sk B L b < L ∧ B (sk B L b) = 59
    · rw [if_pos g] at ht0
      obtain ⟨hr2, hf2, ha2⟩ := want_ok hw hfo (by rw [ht0]; decide)
      have q4 : smR B L b = .inr (sk B L b + 1) := by unfold smR; rw [if_pos g]
      rw [smc_o q4]
      exact ⟨fun z => absurd (hr2.symm.trans z) (by decide), fun _ => ⟨⟨⟨by omega, hf2.trans hfo, ha2.trans hfa, nI_1 _⟩, hW2⟩, hfr⟩⟩
    · rw [if_neg g] at ht0
      obtain ⟨rfl, rfl, rfl⟩ := want_no hw hfo ht0
      have q4 : smR B L b = .inl (1, sk B L b) := by unfold smR; rw [if_neg g]
      rw [smc_f q4]
      exact ⟨fun _ => ⟨CSf.mk (f := 1) (by decide) (by decide) hsb, hfr⟩, fun z => absurd rfl z⟩
theorem k_X8_takeClause (l : Launch) (G : Gt) (m0 m1 m2 m3 m4 m5 m6 m7 m8 m9 m10 m11 m12 m13 m14 : Nat) (sz : Nat) (mw : Nat → Int64) (ik : Nat → Int32) (zs : Nat → Int32) (cl : Nat → Int32) (hs : Nat → Int32) (ks : Nat → Int32) (wa : Nat → Int32) (ne : Nat → Int32) (mn : Nat → Int32) (tx : Nat → Int32) (th : Nat → Int32) (od : Nat → Int32) (bk : Nat → Int32) (bh : Nat → Int32) (fu : Int32) (fd : Int32) (fi : Int32) (nu : Int32) (nw : Int32) (nf : Int32) (bf : Int32) (bn : Int32) (ts : Int32) (ap : Int32) (fs : Int32) (ln : Int32) (fo : Int32) (fa : Int32) (wr : Int32) (B : Nat → Int) (L : Nat) (aq : Nat) (tq : PTn) (hp : MX B L tx ts ∧ CSo L aq fo fa ap ∧ MW tq zs cl hs ks wa ne mn nu nw nf bf bn ∧ tq.1 ≤ 9 ∧ tq.2.1 ≤ 8) : MetV l yX8_takeClause wsX8_takeClause 3 73 G [.ref m0] [(m0, .inr (8, [.ref m1, .ref m2, .ref m3, .ref m4, .ref m5, .ref m6, .ref m7, .ref m8, .ref m9, .int fu, .int fd, .int fi, .int nu, .int nw, .int nf, .int bf, .int bn, .ref m10, .int ts, .int ap, .int fs, .int ln, .int fo, .int fa, .ref m11, .ref m12, .ref m13, .ref m14, .int wr])), aJ G m1 560 mw, aZ G m2 2 ik, aI G m3 20 zs, aI G m4 20 cl, aI G m5 20 hs, aI G m6 20 ks, aI G m7 20 wa, aI G m8 20 ne, aI G m9 4 mn, aI G m10 400 tx, aI G m11 6 th, aI G m12 6 od, aI G m13 30 bk, aI G m14 30 bh] sz (fun (u : (Nat → Int32) × (Nat → Int32) × (Nat → Int32) × (Nat → Int32) × (Nat → Int32) × (Nat → Int32) × (Nat → Int32) × (Int32) × (Int32) × (Int32) × (Int32) × (Int32) × (Int32) × (Int32) × (Int32) × (Int32) × (Int32)) => MP L (clR B L aq tq) u.2.2.2.2.2.2.2.2.2.2.1 u.2.2.2.2.2.2.2.2.2.2.2.1 u.2.2.2.2.2.2.2.1 u.1 u.2.1 u.2.2.1 u.2.2.2.1 u.2.2.2.2.1 u.2.2.2.2.2.1 u.2.2.2.2.2.2.1 u.2.2.2.2.2.2.2.2.2.2.2.2.2.2.1 u.2.2.2.2.2.2.2.2.2.2.2.2.2.2.2.1 u.2.2.2.2.2.2.2.2.2.2.2.2.2.2.2.2 u.2.2.2.2.2.2.2.2.2.2.2.2.1 u.2.2.2.2.2.2.2.2.2.2.2.2.2.1 ∧ fr10 zs u.1 ∧ fr10 cl u.2.1 ∧ fr10 hs u.2.2.1 ∧ fr10 ks u.2.2.2.1 ∧ fr10 wa u.2.2.2.2.1 ∧ fr10 ne u.2.2.2.2.2.1 ∧ fr2 mn u.2.2.2.2.2.2.1) (fun (u : (Nat → Int32) × (Nat → Int32) × (Nat → Int32) × (Nat → Int32) × (Nat → Int32) × (Nat → Int32) × (Nat → Int32) × (Int32) × (Int32) × (Int32) × (Int32) × (Int32) × (Int32) × (Int32) × (Int32) × (Int32) × (Int32)) => [(m0, .inr (8, [.ref m1, .ref m2, .ref m3, .ref m4, .ref m5, .ref m6, .ref m7, .ref m8, .ref m9, .int fu, .int fd, .int fi, .int u.2.2.2.2.2.2.2.2.2.2.2.2.2.2.1, .int u.2.2.2.2.2.2.2.2.2.2.2.2.2.2.2.1, .int u.2.2.2.2.2.2.2.2.2.2.2.2.2.2.2.2, .int u.2.2.2.2.2.2.2.2.2.2.2.2.1, .int u.2.2.2.2.2.2.2.2.2.2.2.2.2.1, .ref m10, .int ts, .int u.2.2.2.2.2.2.2.1, .int u.2.2.2.2.2.2.2.2.1, .int u.2.2.2.2.2.2.2.2.2.1, .int u.2.2.2.2.2.2.2.2.2.2.1, .int u.2.2.2.2.2.2.2.2.2.2.2.1, .ref m11, .ref m12, .ref m13, .ref m14, .int wr])), aJ G m1 560 mw, aZ G m2 2 ik, aI G m3 20 u.1, aI G m4 20 u.2.1, aI G m5 20 u.2.2.1, aI G m6 20 u.2.2.2.1, aI G m7 20 u.2.2.2.2.1, aI G m8 20 u.2.2.2.2.2.1, aI G m9 4 u.2.2.2.2.2.2.1, aI G m10 400 tx, aI G m11 6 th, aI G m12 6 od, aI G m13 30 bk, aI G m14 30 bh]) :=
  c_X8_takeClause l G m0 m1 m2 m3 m4 m5 m6 m7 m8 m9 m10 m11 m12 m13 m14 sz mw ik zs cl hs ks wa ne mn tx th od bk bh fu fd fi nu nw nf bf bn ts ap fs ln fo fa wr B L aq tq (v_X8_takeClause l G m0 m1 m2 m3 m4 m5 m6 m7 m8 m9 m10 m11 m12 m13 m14 sz mw ik zs cl hs ks wa ne mn tx th od bk bh fu fd fi nu nw nf bf bn ts ap fs ln fo fa wr B L aq tq hp)

set_option maxHeartbeats 4000000 in
set_option maxRecDepth 100000 in
theorem c_X8_begin (l : Launch) (G : Gt) (m0 m1 m2 m3 m4 m5 m6 m7 m8 m9 m10 m11 m12 m13 m14 : Nat) (sz : Nat) (mw : Nat → Int64) (ik : Nat → Int32) (zs : Nat → Int32) (cl : Nat → Int32) (hs : Nat → Int32) (ks : Nat → Int32) (wa : Nat → Int32) (ne : Nat → Int32) (mn : Nat → Int32) (tx : Nat → Int32) (th : Nat → Int32) (od : Nat → Int32) (bk : Nat → Int32) (bh : Nat → Int32) (fu : Int32) (fd : Int32) (fi : Int32) (nu : Int32) (nw : Int32) (nf : Int32) (bf : Int32) (bn : Int32) (ts : Int32) (ap : Int32) (fs : Int32) (ln : Int32) (fo : Int32) (fa : Int32) (wr : Int32) (hv : ∀ (y_1 : Int64), (y_1 = (mw 133)) → (∃ (I11_4 : (Nat → Int64) → Int32 → Prop) (μ11_5 : (Nat → Int64) → Int32 → Nat), I11_4 mw 0 ∧ (∀ (fm1_2 : (Nat → Int64)) (x3_3 : Int32), I11_4 fm1_2 x3_3 → (140 ≤ x3_3 → ∃ (I33_11 : (Nat → Int64) → Int32 → Prop) (μ33_12 : (Nat → Int64) → Int32 → Nat), I33_11 fm1_2 0 ∧ (∀ (fm1_9 : (Nat → Int64)) (x3_10 : Int32), I33_11 fm1_9 x3_10 → (10 ≤ x3_10 → ∀ (fm1_16 : (Nat → Int64)), (fm1_16 = (vp_updL fm1_9 133 y_1)) → (MR 0 fm1_16 (bgR hs wa (mw 133).toInt) ∧ MF 0 mw fm1_16)) ∧ (¬ (10 ≤ x3_10) → (vp_in x3_10 20) ∧ ((vp_in x3_10 560) ∧ (∀ (fm1_17 : (Nat → Int64)), (fm1_17 = (vp_updL fm1_9 x3_10.toNatClampNeg ((hs x3_10.toNatClampNeg).toInt64))) → ((vp_in x3_10 20) ∧ ((vp_in (10 + x3_10) 560) ∧ (∀ (fm1_18 : (Nat → Int64)), (fm1_18 = (vp_updL fm1_17 ((10 + x3_10).toNatClampNeg) ((wa x3_10.toNatClampNeg).toInt64))) → ((vp_in (20 + x3_10) 560) ∧ (∀ (fm1_19 : (Nat → Int64)), (fm1_19 = (vp_updL fm1_18 ((20 + x3_10).toNatClampNeg) (-1))) → (I33_11 fm1_19 (x3_10 + 1) ∧ μ33_12 fm1_19 (x3_10 + 1) < μ33_12 fm1_9 x3_10))))))))))) ∧ (¬ (140 ≤ x3_3) → (vp_in x3_3 560) ∧ (∀ (fm1_23 : (Nat → Int64)), (fm1_23 = (vp_updL fm1_2 x3_3.toNatClampNeg 0)) → (I11_4 fm1_23 (x3_3 + 1) ∧ μ11_5 fm1_23 (x3_3 + 1) < μ11_5 fm1_2 x3_3)))))) : MetV l yX8_begin wsX8_begin 0 0 G [.ref m0] [(m0, .inr (8, [.ref m1, .ref m2, .ref m3, .ref m4, .ref m5, .ref m6, .ref m7, .ref m8, .ref m9, .int fu, .int fd, .int fi, .int nu, .int nw, .int nf, .int bf, .int bn, .ref m10, .int ts, .int ap, .int fs, .int ln, .int fo, .int fa, .ref m11, .ref m12, .ref m13, .ref m14, .int wr])), aJ G m1 560 mw, aZ G m2 2 ik, aI G m3 20 zs, aI G m4 20 cl, aI G m5 20 hs, aI G m6 20 ks, aI G m7 20 wa, aI G m8 20 ne, aI G m9 4 mn, aI G m10 400 tx, aI G m11 6 th, aI G m12 6 od, aI G m13 30 bk, aI G m14 30 bh] sz (fun (u : (Nat → Int64)) => MR 0 u (bgR hs wa (mw 133).toInt) ∧ MF 0 mw u) (fun (u : (Nat → Int64)) => [(m0, .inr (8, [.ref m1, .ref m2, .ref m3, .ref m4, .ref m5, .ref m6, .ref m7, .ref m8, .ref m9, .int fu, .int fd, .int fi, .int nu, .int nw, .int nf, .int bf, .int bn, .ref m10, .int ts, .int ap, .int fs, .int ln, .int fo, .int fa, .ref m11, .ref m12, .ref m13, .ref m14, .int wr])), aJ G m1 560 u, aZ G m2 2 ik, aI G m3 20 zs, aI G m4 20 cl, aI G m5 20 hs, aI G m6 20 ks, aI G m7 20 wa, aI G m8 20 ne, aI G m9 4 mn, aI G m10 400 tx, aI G m11 6 th, aI G m12 6 od, aI G m13 30 bk, aI G m14 30 bh]) := by
  refine x_startV (cc := cX8_begin) (maxL := 4) (ret := none) (by decide) rfl (Nat.le_of_ble_eq_true rfl) ?_
  intro p e s m args below meth c A R Q ls hRf hRl hQ C hP hD hS hA hSS hl
  obtain ⟨hx, hb, hr, hml, hown, hts, hlocks, hKK⟩ := C
  have hown : s.vm.findClass RX8 = some m.cls := hown
  have hl : lv_has ls 4 [(0, .ref m0)] := hl
  have hinX8 : ∀ w ∈ u_ws RX8 TX8 29, w ∈ wsX8_begin := by decide +kernel
  have kl152 := hts (.constantLong RX8 152 (-1)) (by decide +kernel)
  have kl24 := hts (.fieldLink RX8 24 "WarmStonesModel" "heats" "[I") (by decide +kernel)
  have kl30 := hts (.fieldLink RX8 30 "WarmStonesModel" "warmths" "[I") (by decide +kernel)
  have kl7 := hts (.fieldLink RX8 7 "WarmStonesModel" "w" "[J") (by decide +kernel)
  refine lv_aload_n hx hb dX8_begin_0 rfl (lv_at hl 0 rfl) ?_
  refine va_get (D := G.1) (ci := 8) (v := .ref m1) (C := RX8) (T := TX8) (N := 29) hx hb hts hinX8 hown hKK.1 hP 0 rfl rfl 0 (by decide) kl7 (fun _ h9 => h9) rfl dX8_begin_1 ?_
  refine lv_sipush (v := 133) hx hb dX8_begin_4 (by decide) ?_
  refine va_lald hx hb hKK.1 hP 1 2 rfl rfl (by unfold vp_in; decide) dX8_begin_7 ?_
  refine lv_topl (fun y_1 ey => ?_)
  have hv := hv y_1 ey
  refine lv_lstore_n (lv' := [(1, .long y_1), (0, .ref m0)]) hx hb dX8_begin_8 rfl hl (by decide) rfl (fun ls hl => ?_)
  refine lv_iconst (v := 0) hx hb dX8_begin_9 (by decide) ?_
  refine lv_istore_n (lv' := [(3, .int 0), (1, .long y_1), (0, .ref m0)]) hx hb dX8_begin_10 rfl hl (by decide) rfl (fun ls hl => ?_)
  obtain ⟨I11_4, μ11_5, hi0, hs_24⟩ := hv
  have Lm_26 : ∀ (n_25 : Nat) (fm1_2 : (Nat → Int64)) (x3_3 : Int32) (H : Heap) (locs : List Loc) (ls : Array Slot), μ11_5 fm1_2 x3_3 < n_25 → I11_4 fm1_2 x3_3 → va_P G.1 vwCl [(m0, .inr (8, [.ref m1, .ref m2, .ref m3, .ref m4, .ref m5, .ref m6, .ref m7, .ref m8, .ref m9, .int fu, .int fd, .int fi, .int nu, .int nw, .int nf, .int bf, .int bn, .ref m10, .int ts, .int ap, .int fs, .int ln, .int fo, .int fa, .ref m11, .ref m12, .ref m13, .ref m14, .int wr])), aJ G m1 560 fm1_2, aZ G m2 2 ik, aI G m3 20 zs, aI G m4 20 cl, aI G m5 20 hs, aI G m6 20 ks, aI G m7 20 wa, aI G m8 20 ne, aI G m9 4 mn, aI G m10 400 tx, aI G m11 6 th, aI G m12 6 od, aI G m13 30 bk, aI G m14 30 bh] H → va_D A [(m0, .inr (8, [.ref m1, .ref m2, .ref m3, .ref m4, .ref m5, .ref m6, .ref m7, .ref m8, .ref m9, .int fu, .int fd, .int fi, .int nu, .int nw, .int nf, .int bf, .int bn, .ref m10, .int ts, .int ap, .int fs, .int ln, .int fo, .int fa, .ref m11, .ref m12, .ref m13, .ref m14, .int wr])), aJ G m1 560 fm1_2, aZ G m2 2 ik, aI G m3 20 zs, aI G m4 20 cl, aI G m5 20 hs, aI G m6 20 ks, aI G m7 20 wa, aI G m8 20 ne, aI G m9 4 mn, aI G m10 400 tx, aI G m11 6 th, aI G m12 6 od, aI G m13 30 bk, aI G m14 30 bh] → va_S A s.heap H locs → lv_has ls 4 [(3, .int x3_3), (1, .long y_1), (0, .ref m0)] → W p l e R s m args below meth c H locs 0 0 Q (F0 m 11 ls []) := by
    intro n_25
    induction n_25 with
    | zero => intro fm1_2 x3_3 H locs ls hm; exact absurd hm (Nat.not_lt_zero _)
    | succ n_25 ih_6 =>
      intro fm1_2 x3_3 H locs ls hI_7 hi hP hD hS hl
      have hv := hs_24 fm1_2 x3_3 hi
      refine lv_iload_n hx hb dX8_begin_11 rfl (lv_at hl 0 rfl) ?_
      refine lv_sipush (v := 140) hx hb dX8_begin_12 (by decide) ?_
      refine lv_icmp_ge (tgt := 31) hx hb dX8_begin_15 (by decide) (fun hc_8 => ?_) (fun hc_8 => ?_)
      · have hv := hv.1 hc_8
        refine lv_iconst (v := 0) hx hb dX8_begin_31 (by decide) ?_
        refine lv_istore_n (lv' := [(3, .int 0), (1, .long y_1), (0, .ref m0)]) hx hb dX8_begin_32 rfl hl (by decide) rfl (fun ls hl => ?_)
        obtain ⟨I33_11, μ33_12, hi0, hs_20⟩ := hv
        have Lm_22 : ∀ (n_21 : Nat) (fm1_9 : (Nat → Int64)) (x3_10 : Int32) (H : Heap) (locs : List Loc) (ls : Array Slot), μ33_12 fm1_9 x3_10 < n_21 → I33_11 fm1_9 x3_10 → va_P G.1 vwCl [(m0, .inr (8, [.ref m1, .ref m2, .ref m3, .ref m4, .ref m5, .ref m6, .ref m7, .ref m8, .ref m9, .int fu, .int fd, .int fi, .int nu, .int nw, .int nf, .int bf, .int bn, .ref m10, .int ts, .int ap, .int fs, .int ln, .int fo, .int fa, .ref m11, .ref m12, .ref m13, .ref m14, .int wr])), aJ G m1 560 fm1_9, aZ G m2 2 ik, aI G m3 20 zs, aI G m4 20 cl, aI G m5 20 hs, aI G m6 20 ks, aI G m7 20 wa, aI G m8 20 ne, aI G m9 4 mn, aI G m10 400 tx, aI G m11 6 th, aI G m12 6 od, aI G m13 30 bk, aI G m14 30 bh] H → va_D A [(m0, .inr (8, [.ref m1, .ref m2, .ref m3, .ref m4, .ref m5, .ref m6, .ref m7, .ref m8, .ref m9, .int fu, .int fd, .int fi, .int nu, .int nw, .int nf, .int bf, .int bn, .ref m10, .int ts, .int ap, .int fs, .int ln, .int fo, .int fa, .ref m11, .ref m12, .ref m13, .ref m14, .int wr])), aJ G m1 560 fm1_9, aZ G m2 2 ik, aI G m3 20 zs, aI G m4 20 cl, aI G m5 20 hs, aI G m6 20 ks, aI G m7 20 wa, aI G m8 20 ne, aI G m9 4 mn, aI G m10 400 tx, aI G m11 6 th, aI G m12 6 od, aI G m13 30 bk, aI G m14 30 bh] → va_S A s.heap H locs → lv_has ls 4 [(3, .int x3_10), (1, .long y_1), (0, .ref m0)] → W p l e R s m args below meth c H locs 0 0 Q (F0 m 33 ls []) := by
          intro n_21
          induction n_21 with
          | zero => intro fm1_9 x3_10 H locs ls hm; exact absurd hm (Nat.not_lt_zero _)
          | succ n_21 ih_13 =>
            intro fm1_9 x3_10 H locs ls hI_14 hi hP hD hS hl
            have hv := hs_20 fm1_9 x3_10 hi
            refine lv_iload_n hx hb dX8_begin_33 rfl (lv_at hl 0 rfl) ?_
            refine lv_bipush (v := 10) hx hb dX8_begin_34 (by decide) ?_
            refine lv_icmp_ge (tgt := 86) hx hb dX8_begin_36 (by decide) (fun hc_15 => ?_) (fun hc_15 => ?_)
            · have hv := hv.1 hc_15
              refine lv_aload_n hx hb dX8_begin_86 rfl (lv_at hl 2 rfl) ?_
              refine va_get (D := G.1) (ci := 8) (v := .ref m1) (C := RX8) (T := TX8) (N := 29) hx hb hts hinX8 hown hKK.1 hP 0 rfl rfl 0 (by decide) kl7 (fun _ h9 => h9) rfl dX8_begin_87 ?_
              refine lv_sipush (v := 133) hx hb dX8_begin_90 (by decide) ?_
              refine lv_lload_n hx hb dX8_begin_93 rfl (lv_at hl 1 rfl) ?_
              refine va_last hx hb hKK.1 hP hD hS 1 2 rfl rfl (by unfold vp_in; decide) dX8_begin_94 (fun H locs hP hD hS => ?_)
              obtain ⟨fm1_16, ef⟩ : ∃ z9_, z9_ = (vp_updL fm1_9 133 y_1) := ⟨_, rfl⟩
              have hP : va_P G.1 vwCl [(m0, .inr (8, [.ref m1, .ref m2, .ref m3, .ref m4, .ref m5, .ref m6, .ref m7, .ref m8, .ref m9, .int fu, .int fd, .int fi, .int nu, .int nw, .int nf, .int bf, .int bn, .ref m10, .int ts, .int ap, .int fs, .int ln, .int fo, .int fa, .ref m11, .ref m12, .ref m13, .ref m14, .int wr])), aJ G m1 560 fm1_16, aZ G m2 2 ik, aI G m3 20 zs, aI G m4 20 cl, aI G m5 20 hs, aI G m6 20 ks, aI G m7 20 wa, aI G m8 20 ne, aI G m9 4 mn, aI G m10 400 tx, aI G m11 6 th, aI G m12 6 od, aI G m13 30 bk, aI G m14 30 bh] H := by rw [ef]; exact hP
              have hD : va_D A [(m0, .inr (8, [.ref m1, .ref m2, .ref m3, .ref m4, .ref m5, .ref m6, .ref m7, .ref m8, .ref m9, .int fu, .int fd, .int fi, .int nu, .int nw, .int nf, .int bf, .int bn, .ref m10, .int ts, .int ap, .int fs, .int ln, .int fo, .int fa, .ref m11, .ref m12, .ref m13, .ref m14, .int wr])), aJ G m1 560 fm1_16, aZ G m2 2 ik, aI G m3 20 zs, aI G m4 20 cl, aI G m5 20 hs, aI G m6 20 ks, aI G m7 20 wa, aI G m8 20 ne, aI G m9 4 mn, aI G m10 400 tx, aI G m11 6 th, aI G m12 6 od, aI G m13 30 bk, aI G m14 30 bh] := by rw [ef]; exact hD
              have hv := hv fm1_16 ef
              exact x_vret fm1_16 hQ hx hb hr hlocks hS dX8_begin_95 hv hP hD
            · have hv := hv.2 hc_15
              refine lv_aload_n hx hb dX8_begin_39 rfl (lv_at hl 2 rfl) ?_
              refine va_get (D := G.1) (ci := 8) (v := .ref m1) (C := RX8) (T := TX8) (N := 29) hx hb hts hinX8 hown hKK.1 hP 0 rfl rfl 0 (by decide) kl7 (fun _ h9 => h9) rfl dX8_begin_40 ?_
              refine lv_iload_n hx hb dX8_begin_43 rfl (lv_at hl 0 rfl) ?_
              refine lv_aload_n hx hb dX8_begin_44 rfl (lv_at hl 2 rfl) ?_
              refine va_get (D := G.1) (ci := 8) (v := .ref m5) (C := RX8) (T := TX8) (N := 29) hx hb hts hinX8 hown hKK.1 hP 0 rfl rfl 4 (by decide) kl24 (fun _ h9 => h9) rfl dX8_begin_45 ?_
              refine lv_iload_n hx hb dX8_begin_48 rfl (lv_at hl 0 rfl) ?_
              obtain ⟨hin, hv⟩ := hv
              refine va_iald hx hb hKK.1 hP 5 0 rfl rfl hin dX8_begin_49 ?_
              refine lv_i2l hx hb dX8_begin_50 rfl ?_
              obtain ⟨hin, hv⟩ := hv
              refine va_last hx hb hKK.1 hP hD hS 1 2 rfl rfl hin dX8_begin_51 (fun H locs hP hD hS => ?_)
              obtain ⟨fm1_17, ef⟩ : ∃ z9_, z9_ = (vp_updL fm1_9 x3_10.toNatClampNeg ((hs x3_10.toNatClampNeg).toInt64)) := ⟨_, rfl⟩
              have hP : va_P G.1 vwCl [(m0, .inr (8, [.ref m1, .ref m2, .ref m3, .ref m4, .ref m5, .ref m6, .ref m7, .ref m8, .ref m9, .int fu, .int fd, .int fi, .int nu, .int nw, .int nf, .int bf, .int bn, .ref m10, .int ts, .int ap, .int fs, .int ln, .int fo, .int fa, .ref m11, .ref m12, .ref m13, .ref m14, .int wr])), aJ G m1 560 fm1_17, aZ G m2 2 ik, aI G m3 20 zs, aI G m4 20 cl, aI G m5 20 hs, aI G m6 20 ks, aI G m7 20 wa, aI G m8 20 ne, aI G m9 4 mn, aI G m10 400 tx, aI G m11 6 th, aI G m12 6 od, aI G m13 30 bk, aI G m14 30 bh] H := by rw [ef]; exact hP
              have hD : va_D A [(m0, .inr (8, [.ref m1, .ref m2, .ref m3, .ref m4, .ref m5, .ref m6, .ref m7, .ref m8, .ref m9, .int fu, .int fd, .int fi, .int nu, .int nw, .int nf, .int bf, .int bn, .ref m10, .int ts, .int ap, .int fs, .int ln, .int fo, .int fa, .ref m11, .ref m12, .ref m13, .ref m14, .int wr])), aJ G m1 560 fm1_17, aZ G m2 2 ik, aI G m3 20 zs, aI G m4 20 cl, aI G m5 20 hs, aI G m6 20 ks, aI G m7 20 wa, aI G m8 20 ne, aI G m9 4 mn, aI G m10 400 tx, aI G m11 6 th, aI G m12 6 od, aI G m13 30 bk, aI G m14 30 bh] := by rw [ef]; exact hD
              have hv := hv fm1_17 ef
              refine lv_aload_n hx hb dX8_begin_52 rfl (lv_at hl 2 rfl) ?_
              refine va_get (D := G.1) (ci := 8) (v := .ref m1) (C := RX8) (T := TX8) (N := 29) hx hb hts hinX8 hown hKK.1 hP 0 rfl rfl 0 (by decide) kl7 (fun _ h9 => h9) rfl dX8_begin_53 ?_
              refine lv_bipush (v := 10) hx hb dX8_begin_56 (by decide) ?_
              refine lv_iload_n hx hb dX8_begin_58 rfl (lv_at hl 0 rfl) ?_
              refine lv_iadd hx hb dX8_begin_59 ?_
              refine lv_aload_n hx hb dX8_begin_60 rfl (lv_at hl 2 rfl) ?_
              refine va_get (D := G.1) (ci := 8) (v := .ref m7) (C := RX8) (T := TX8) (N := 29) hx hb hts hinX8 hown hKK.1 hP 0 rfl rfl 6 (by decide) kl30 (fun _ h9 => h9) rfl dX8_begin_61 ?_
              refine lv_iload_n hx hb dX8_begin_64 rfl (lv_at hl 0 rfl) ?_
              obtain ⟨hin, hv⟩ := hv
              refine va_iald hx hb hKK.1 hP 7 0 rfl rfl hin dX8_begin_65 ?_
              refine lv_i2l hx hb dX8_begin_66 rfl ?_
              obtain ⟨hin, hv⟩ := hv
              refine va_last hx hb hKK.1 hP hD hS 1 2 rfl rfl hin dX8_begin_67 (fun H locs hP hD hS => ?_)
              obtain ⟨fm1_18, ef⟩ : ∃ z9_, z9_ = (vp_updL fm1_17 ((10 + x3_10).toNatClampNeg) ((wa x3_10.toNatClampNeg).toInt64)) := ⟨_, rfl⟩
              have hP : va_P G.1 vwCl [(m0, .inr (8, [.ref m1, .ref m2, .ref m3, .ref m4, .ref m5, .ref m6, .ref m7, .ref m8, .ref m9, .int fu, .int fd, .int fi, .int nu, .int nw, .int nf, .int bf, .int bn, .ref m10, .int ts, .int ap, .int fs, .int ln, .int fo, .int fa, .ref m11, .ref m12, .ref m13, .ref m14, .int wr])), aJ G m1 560 fm1_18, aZ G m2 2 ik, aI G m3 20 zs, aI G m4 20 cl, aI G m5 20 hs, aI G m6 20 ks, aI G m7 20 wa, aI G m8 20 ne, aI G m9 4 mn, aI G m10 400 tx, aI G m11 6 th, aI G m12 6 od, aI G m13 30 bk, aI G m14 30 bh] H := by rw [ef]; exact hP
              have hD : va_D A [(m0, .inr (8, [.ref m1, .ref m2, .ref m3, .ref m4, .ref m5, .ref m6, .ref m7, .ref m8, .ref m9, .int fu, .int fd, .int fi, .int nu, .int nw, .int nf, .int bf, .int bn, .ref m10, .int ts, .int ap, .int fs, .int ln, .int fo, .int fa, .ref m11, .ref m12, .ref m13, .ref m14, .int wr])), aJ G m1 560 fm1_18, aZ G m2 2 ik, aI G m3 20 zs, aI G m4 20 cl, aI G m5 20 hs, aI G m6 20 ks, aI G m7 20 wa, aI G m8 20 ne, aI G m9 4 mn, aI G m10 400 tx, aI G m11 6 th, aI G m12 6 od, aI G m13 30 bk, aI G m14 30 bh] := by rw [ef]; exact hD
              have hv := hv fm1_18 ef
              refine lv_aload_n hx hb dX8_begin_68 rfl (lv_at hl 2 rfl) ?_
              refine va_get (D := G.1) (ci := 8) (v := .ref m1) (C := RX8) (T := TX8) (N := 29) hx hb hts hinX8 hown hKK.1 hP 0 rfl rfl 0 (by decide) kl7 (fun _ h9 => h9) rfl dX8_begin_69 ?_
              refine lv_bipush (v := 20) hx hb dX8_begin_72 (by decide) ?_
              refine lv_iload_n hx hb dX8_begin_74 rfl (lv_at hl 0 rfl) ?_
              refine lv_iadd hx hb dX8_begin_75 ?_
              refine lv_ldc2 (v := (-1)) hx hb hown kl152 dX8_begin_76 ?_
              obtain ⟨hin, hv⟩ := hv
              refine va_last hx hb hKK.1 hP hD hS 1 2 rfl rfl hin dX8_begin_79 (fun H locs hP hD hS => ?_)
              obtain ⟨fm1_19, ef⟩ : ∃ z9_, z9_ = (vp_updL fm1_18 ((20 + x3_10).toNatClampNeg) (-1)) := ⟨_, rfl⟩
              have hP : va_P G.1 vwCl [(m0, .inr (8, [.ref m1, .ref m2, .ref m3, .ref m4, .ref m5, .ref m6, .ref m7, .ref m8, .ref m9, .int fu, .int fd, .int fi, .int nu, .int nw, .int nf, .int bf, .int bn, .ref m10, .int ts, .int ap, .int fs, .int ln, .int fo, .int fa, .ref m11, .ref m12, .ref m13, .ref m14, .int wr])), aJ G m1 560 fm1_19, aZ G m2 2 ik, aI G m3 20 zs, aI G m4 20 cl, aI G m5 20 hs, aI G m6 20 ks, aI G m7 20 wa, aI G m8 20 ne, aI G m9 4 mn, aI G m10 400 tx, aI G m11 6 th, aI G m12 6 od, aI G m13 30 bk, aI G m14 30 bh] H := by rw [ef]; exact hP
              have hD : va_D A [(m0, .inr (8, [.ref m1, .ref m2, .ref m3, .ref m4, .ref m5, .ref m6, .ref m7, .ref m8, .ref m9, .int fu, .int fd, .int fi, .int nu, .int nw, .int nf, .int bf, .int bn, .ref m10, .int ts, .int ap, .int fs, .int ln, .int fo, .int fa, .ref m11, .ref m12, .ref m13, .ref m14, .int wr])), aJ G m1 560 fm1_19, aZ G m2 2 ik, aI G m3 20 zs, aI G m4 20 cl, aI G m5 20 hs, aI G m6 20 ks, aI G m7 20 wa, aI G m8 20 ne, aI G m9 4 mn, aI G m10 400 tx, aI G m11 6 th, aI G m12 6 od, aI G m13 30 bk, aI G m14 30 bh] := by rw [ef]; exact hD
              have hv := hv fm1_19 ef
              refine lv_iinc (v := (x3_10 + 1)) (lv' := [(3, .int (x3_10 + 1)), (1, .long y_1), (0, .ref m0)]) hx hb dX8_begin_80 hl (k := 0) rfl rfl (by decide) rfl (fun ls hl => ?_)
              refine lv_goto (tgt := 33) hx hb dX8_begin_83 (by decide) ?_
              exact ih_13 _ _ _ _ _ (Nat.lt_of_lt_of_le hv.2 (Nat.le_of_lt_succ hI_14)) hv.1 hP hD hS hl
        exact Lm_22 _ _ _ _ _ _ (Nat.lt_succ_self _) hi0 hP hD hS hl
      · have hv := hv.2 hc_8
        refine lv_aload_n hx hb dX8_begin_18 rfl (lv_at hl 2 rfl) ?_
        refine va_get (D := G.1) (ci := 8) (v := .ref m1) (C := RX8) (T := TX8) (N := 29) hx hb hts hinX8 hown hKK.1 hP 0 rfl rfl 0 (by decide) kl7 (fun _ h9 => h9) rfl dX8_begin_19 ?_
        refine lv_iload_n hx hb dX8_begin_22 rfl (lv_at hl 0 rfl) ?_
        refine lv_lconst (v := 0) hx hb dX8_begin_23 (by decide) ?_
        obtain ⟨hin, hv⟩ := hv
        refine va_last hx hb hKK.1 hP hD hS 1 2 rfl rfl hin dX8_begin_24 (fun H locs hP hD hS => ?_)
        obtain ⟨fm1_23, ef⟩ : ∃ z9_, z9_ = (vp_updL fm1_2 x3_3.toNatClampNeg 0) := ⟨_, rfl⟩
        have hP : va_P G.1 vwCl [(m0, .inr (8, [.ref m1, .ref m2, .ref m3, .ref m4, .ref m5, .ref m6, .ref m7, .ref m8, .ref m9, .int fu, .int fd, .int fi, .int nu, .int nw, .int nf, .int bf, .int bn, .ref m10, .int ts, .int ap, .int fs, .int ln, .int fo, .int fa, .ref m11, .ref m12, .ref m13, .ref m14, .int wr])), aJ G m1 560 fm1_23, aZ G m2 2 ik, aI G m3 20 zs, aI G m4 20 cl, aI G m5 20 hs, aI G m6 20 ks, aI G m7 20 wa, aI G m8 20 ne, aI G m9 4 mn, aI G m10 400 tx, aI G m11 6 th, aI G m12 6 od, aI G m13 30 bk, aI G m14 30 bh] H := by rw [ef]; exact hP
        have hD : va_D A [(m0, .inr (8, [.ref m1, .ref m2, .ref m3, .ref m4, .ref m5, .ref m6, .ref m7, .ref m8, .ref m9, .int fu, .int fd, .int fi, .int nu, .int nw, .int nf, .int bf, .int bn, .ref m10, .int ts, .int ap, .int fs, .int ln, .int fo, .int fa, .ref m11, .ref m12, .ref m13, .ref m14, .int wr])), aJ G m1 560 fm1_23, aZ G m2 2 ik, aI G m3 20 zs, aI G m4 20 cl, aI G m5 20 hs, aI G m6 20 ks, aI G m7 20 wa, aI G m8 20 ne, aI G m9 4 mn, aI G m10 400 tx, aI G m11 6 th, aI G m12 6 od, aI G m13 30 bk, aI G m14 30 bh] := by rw [ef]; exact hD
        have hv := hv fm1_23 ef
        refine lv_iinc (v := (x3_3 + 1)) (lv' := [(3, .int (x3_3 + 1)), (1, .long y_1), (0, .ref m0)]) hx hb dX8_begin_25 hl (k := 0) rfl rfl (by decide) rfl (fun ls hl => ?_)
        refine lv_goto (tgt := 11) hx hb dX8_begin_28 (by decide) ?_
        exact ih_6 _ _ _ _ _ (Nat.lt_of_lt_of_le hv.2 (Nat.le_of_lt_succ hI_7)) hv.1 hP hD hS hl
  exact Lm_26 _ _ _ _ _ _ (Nat.lt_succ_self _) hi0 hP hD hS hl
theorem v_X8_begin (l : Launch) (G : Gt) (m0 m1 m2 m3 m4 m5 m6 m7 m8 m9 m10 m11 m12 m13 m14 : Nat) (sz : Nat) (mw : Nat → Int64) (ik : Nat → Int32) (zs : Nat → Int32) (cl : Nat → Int32) (hs : Nat → Int32) (ks : Nat → Int32) (wa : Nat → Int32) (ne : Nat → Int32) (mn : Nat → Int32) (tx : Nat → Int32) (th : Nat → Int32) (od : Nat → Int32) (bk : Nat → Int32) (bh : Nat → Int32) (fu : Int32) (fd : Int32) (fi : Int32) (nu : Int32) (nw : Int32) (nf : Int32) (bf : Int32) (bn : Int32) (ts : Int32) (ap : Int32) (fs : Int32) (ln : Int32) (fo : Int32) (fa : Int32) (wr : Int32) : ∀ (y_1 : Int64), (y_1 = (mw 133)) → (∃ (I11_4 : (Nat → Int64) → Int32 → Prop) (μ11_5 : (Nat → Int64) → Int32 → Nat), I11_4 mw 0 ∧ (∀ (fm1_2 : (Nat → Int64)) (x3_3 : Int32), I11_4 fm1_2 x3_3 → (140 ≤ x3_3 → ∃ (I33_11 : (Nat → Int64) → Int32 → Prop) (μ33_12 : (Nat → Int64) → Int32 → Nat), I33_11 fm1_2 0 ∧ (∀ (fm1_9 : (Nat → Int64)) (x3_10 : Int32), I33_11 fm1_9 x3_10 → (10 ≤ x3_10 → ∀ (fm1_16 : (Nat → Int64)), (fm1_16 = (vp_updL fm1_9 133 y_1)) → (MR 0 fm1_16 (bgR hs wa (mw 133).toInt) ∧ MF 0 mw fm1_16)) ∧ (¬ (10 ≤ x3_10) → (vp_in x3_10 20) ∧ ((vp_in x3_10 560) ∧ (∀ (fm1_17 : (Nat → Int64)), (fm1_17 = (vp_updL fm1_9 x3_10.toNatClampNeg ((hs x3_10.toNatClampNeg).toInt64))) → ((vp_in x3_10 20) ∧ ((vp_in (10 + x3_10) 560) ∧ (∀ (fm1_18 : (Nat → Int64)), (fm1_18 = (vp_updL fm1_17 ((10 + x3_10).toNatClampNeg) ((wa x3_10.toNatClampNeg).toInt64))) → ((vp_in (20 + x3_10) 560) ∧ (∀ (fm1_19 : (Nat → Int64)), (fm1_19 = (vp_updL fm1_18 ((20 + x3_10).toNatClampNeg) (-1))) → (I33_11 fm1_19 (x3_10 + 1) ∧ μ33_12 fm1_19 (x3_10 + 1) < μ33_12 fm1_9 x3_10))))))))))) ∧ (¬ (140 ≤ x3_3) → (vp_in x3_3 560) ∧ (∀ (fm1_23 : (Nat → Int64)), (fm1_23 = (vp_updL fm1_2 x3_3.toNatClampNeg 0)) → (I11_4 fm1_23 (x3_3 + 1) ∧ μ11_5 fm1_23 (x3_3 + 1) < μ11_5 fm1_2 x3_3))))) := by
  intro y0 ey0
  refine ⟨fun w z => ∃ i, i ≤ 140 ∧ z = nI i ∧ (∀ j, j < i → w j = 0) ∧ ∀ j, 140 ≤ j → w j = mw j, fun _ z => 141 - z.toNatClampNeg, ⟨0, by omega, rfl, fun j hj => absurd hj (Nat.not_lt_zero _), fun _ _ => rfl⟩, ?_⟩
  rintro w z ⟨i, hi, rfl, hw, hF⟩
  have ei : (nI i).toNatClampNeg = i := nI_clamp (by omega)
  have ei1 : nI i + 1 = nI (i + 1) := nI_1 i
  have ei2 : (nI (i + 1)).toNatClampNeg = i + 1 := nI_clamp (by omega)
  have hle : 140 ≤ nI i ↔ 140 ≤ i := nI_leI (a := 140) (by omega) (by omega)
  simp only [ei, ei1, ei2, hle]
  refine ⟨fun q => ?_, fun q => ⟨vp_in_nI (by omega) (by omega), fun w2 ew2 => ⟨⟨i + 1, by omega, rfl, fun j hj => ?_, fun j hj => ?_⟩, by omega⟩⟩⟩
  · have e : i = 140 := by omega
    subst e
    refine ⟨fun w z => ∃ k, k ≤ 10 ∧ z = nI k ∧ (∀ j, j < k → (w j).toInt = (hs j).toInt ∧ (w (10 + j)).toInt = (wa j).toInt ∧ (w (20 + j)).toInt = -1) ∧ (∀ j, 30 ≤ j → j < 140 → w j = 0) ∧ ∀ j, 140 ≤ j → w j = mw j, fun _ z => 11 - z.toNatClampNeg, ⟨0, by omega, rfl, fun j hj => absurd hj (Nat.not_lt_zero _), fun j _ h2 => hw j h2, hF⟩, ?_⟩
    rintro w1 z ⟨k, hk, rfl, h1, h2, h3⟩
    have ek : (nI k).toNatClampNeg = k := nI_clamp (by omega)
    have ek1 : nI k + 1 = nI (k + 1) := nI_1 k
    have ek2 : (nI (k + 1)).toNatClampNeg = k + 1 := nI_clamp (by omega)
    have e10 : 10 + nI k = nI (10 + k) := ix1 10 k
    have c10 : (nI (10 + k)).toNatClampNeg = 10 + k := nI_clamp (by omega)
    have e20 : 20 + nI k = nI (20 + k) := ix1 20 k
    have c20 : (nI (20 + k)).toNatClampNeg = 20 + k := nI_clamp (by omega)
    have hk10 : 10 ≤ nI k ↔ 10 ≤ k := nI_leI (a := 10) (by omega) (by omega)
    simp only [ek, ek1, ek2, e10, c10, e20, c20, hk10]
    refine ⟨fun q w2 ew2 => ?_, fun q => ⟨vp_in_nI (by omega) (by omega), vp_in_nI (by omega) (by omega), fun w2 ew2 => ⟨vp_in_nI (by omega) (by omega), vp_in_nI (by omega) (by omega), fun w3 ew3 => ⟨vp_in_nI (by omega) (by omega), fun w4 ew4 => ⟨⟨k + 1, by omega, rfl, fun j hj => ?_, fun j g1 g2 => ?_, fun j g1 => ?_⟩, by omega⟩⟩⟩⟩⟩
    · have e : k = 10 := by omega
      subst e
      refine ⟨fun j hj => ?_, fun j hj => ?_⟩
      · rw [Nat.zero_add, ew2]
        unfold bgR
        by_cases a : j = 133
        · subst a; rw [vp_updL, if_pos rfl, ey0, if_neg (by omega), if_neg (by omega), if_neg (by omega), if_pos rfl]
        · rw [vp_updL, if_neg a]
          by_cases b : j < 10
          · rw [if_pos b]; exact (h1 j b).1
          · rw [if_neg b]
            by_cases c : j < 20
            · rw [if_pos c]
              have := (h1 (j - 10) (by omega)).2.1
              rw [show 10 + (j - 10) = j by omega] at this
              exact this
            · rw [if_neg c]
              by_cases d : j < 30
              · rw [if_pos d]
                have := (h1 (j - 20) (by omega)).2.2
                rw [show 20 + (j - 20) = j by omega] at this
                exact this
              · rw [if_neg d, if_neg a, h2 j (by omega) hj]; rfl
      · rw [ew2, vp_updL, if_neg (by omega)]
        exact h3 j (by omega)
    · have w4v : ∀ m, w4 m = if m = 20 + k then -1 else if m = 10 + k then (wa k).toInt64 else if m = k then (hs k).toInt64 else w1 m := fun m => by
        rw [ew4, ew3, ew2]; rfl
      rw [w4v j, w4v (10 + j), w4v (20 + j)]
      by_cases e : j = k
      · subst e
        rw [if_neg (by omega), if_neg (by omega), if_pos rfl, if_neg (by omega), if_pos rfl, if_pos rfl]
        exact ⟨i_l rfl, i_l rfl, rfl⟩
      · rw [if_neg (by omega), if_neg (by omega), if_neg (by omega), if_neg (by omega), if_neg (by omega), if_neg (by omega), if_neg (by omega), if_neg (by omega), if_neg (by omega)]
        exact h1 j (by omega)
    · rw [ew4, ew3, ew2, vp_updL, if_neg (by omega), vp_updL, if_neg (by omega), vp_updL, if_neg (by omega)]
      exact h2 j g1 g2
    · rw [ew4, ew3, ew2, vp_updL, if_neg (by omega), vp_updL, if_neg (by omega), vp_updL, if_neg (by omega)]
      exact h3 j g1
  · rw [ew2, vp_updL]
    by_cases e : j = i
    · rw [if_pos e]
    · rw [if_neg e]; exact hw j (by omega)
  · rw [ew2, vp_updL, if_neg (by omega)]
    exact hF j hj
theorem k_X8_begin (l : Launch) (G : Gt) (m0 m1 m2 m3 m4 m5 m6 m7 m8 m9 m10 m11 m12 m13 m14 : Nat) (sz : Nat) (mw : Nat → Int64) (ik : Nat → Int32) (zs : Nat → Int32) (cl : Nat → Int32) (hs : Nat → Int32) (ks : Nat → Int32) (wa : Nat → Int32) (ne : Nat → Int32) (mn : Nat → Int32) (tx : Nat → Int32) (th : Nat → Int32) (od : Nat → Int32) (bk : Nat → Int32) (bh : Nat → Int32) (fu : Int32) (fd : Int32) (fi : Int32) (nu : Int32) (nw : Int32) (nf : Int32) (bf : Int32) (bn : Int32) (ts : Int32) (ap : Int32) (fs : Int32) (ln : Int32) (fo : Int32) (fa : Int32) (wr : Int32) : MetV l yX8_begin wsX8_begin 0 0 G [.ref m0] [(m0, .inr (8, [.ref m1, .ref m2, .ref m3, .ref m4, .ref m5, .ref m6, .ref m7, .ref m8, .ref m9, .int fu, .int fd, .int fi, .int nu, .int nw, .int nf, .int bf, .int bn, .ref m10, .int ts, .int ap, .int fs, .int ln, .int fo, .int fa, .ref m11, .ref m12, .ref m13, .ref m14, .int wr])), aJ G m1 560 mw, aZ G m2 2 ik, aI G m3 20 zs, aI G m4 20 cl, aI G m5 20 hs, aI G m6 20 ks, aI G m7 20 wa, aI G m8 20 ne, aI G m9 4 mn, aI G m10 400 tx, aI G m11 6 th, aI G m12 6 od, aI G m13 30 bk, aI G m14 30 bh] sz (fun (u : (Nat → Int64)) => MR 0 u (bgR hs wa (mw 133).toInt) ∧ MF 0 mw u) (fun (u : (Nat → Int64)) => [(m0, .inr (8, [.ref m1, .ref m2, .ref m3, .ref m4, .ref m5, .ref m6, .ref m7, .ref m8, .ref m9, .int fu, .int fd, .int fi, .int nu, .int nw, .int nf, .int bf, .int bn, .ref m10, .int ts, .int ap, .int fs, .int ln, .int fo, .int fa, .ref m11, .ref m12, .ref m13, .ref m14, .int wr])), aJ G m1 560 u, aZ G m2 2 ik, aI G m3 20 zs, aI G m4 20 cl, aI G m5 20 hs, aI G m6 20 ks, aI G m7 20 wa, aI G m8 20 ne, aI G m9 4 mn, aI G m10 400 tx, aI G m11 6 th, aI G m12 6 od, aI G m13 30 bk, aI G m14 30 bh]) :=
  c_X8_begin l G m0 m1 m2 m3 m4 m5 m6 m7 m8 m9 m10 m11 m12 m13 m14 sz mw ik zs cl hs ks wa ne mn tx th od bk bh fu fd fi nu nw nf bf bn ts ap fs ln fo fa wr (v_X8_begin l G m0 m1 m2 m3 m4 m5 m6 m7 m8 m9 m10 m11 m12 m13 m14 sz mw ik zs cl hs ks wa ne mn tx th od bk bh fu fd fi nu nw nf bf bn ts ap fs ln fo fa wr)

set_option maxHeartbeats 4000000 in
set_option maxRecDepth 100000 in
theorem c_X8_town (l : Launch) (G : Gt) (m0 m1 m2 m3 m4 m5 m6 m7 m8 m9 m10 m11 m12 m13 m14 : Nat) (sz : Nat) (mw : Nat → Int64) (ik : Nat → Int32) (zs : Nat → Int32) (cl : Nat → Int32) (hs : Nat → Int32) (ks : Nat → Int32) (wa : Nat → Int32) (ne : Nat → Int32) (mn : Nat → Int32) (tx : Nat → Int32) (th : Nat → Int32) (od : Nat → Int32) (bk : Nat → Int32) (bh : Nat → Int32) (fu : Int32) (fd : Int32) (fi : Int32) (nu : Int32) (nw : Int32) (nf : Int32) (bf : Int32) (bn : Int32) (ts : Int32) (ap : Int32) (fs : Int32) (ln : Int32) (fo : Int32) (fa : Int32) (wr : Int32) (B : Nat → Int) (L : Nat) (hv : ∀ (fm9_1 : (Nat → Int32)), (fm9_1 = (upd mn 2 0)) → (∀ (fm9_2 : (Nat → Int32)), (fm9_2 = (upd fm9_1 3 0)) → (∃ (I54_20 : (Nat → Int32) → (Nat → Int32) → (Nat → Int32) → (Nat → Int32) → (Nat → Int32) → (Nat → Int32) → (Nat → Int32) → Int32 → Int32 → Int32 → Int32 → Int32 → Int32 → Int32 → Int32 → Int32 → Int32 → Prop) (μ54_21 : (Nat → Int32) → (Nat → Int32) → (Nat → Int32) → (Nat → Int32) → (Nat → Int32) → (Nat → Int32) → (Nat → Int32) → Int32 → Int32 → Int32 → Int32 → Int32 → Int32 → Int32 → Int32 → Int32 → Int32 → Nat), I54_20 zs cl hs ks wa ne fm9_2 3 1 0 0 0 0 fs ln 0 (-1) ∧ (∀ (fm3_3 : (Nat → Int32)) (fm4_4 : (Nat → Int32)) (fm5_5 : (Nat → Int32)) (fm6_6 : (Nat → Int32)) (fm7_7 : (Nat → Int32)) (fm8_8 : (Nat → Int32)) (fm9_9 : (Nat → Int32)) (gm012_10 : Int32) (gm013_11 : Int32) (gm014_12 : Int32) (gm015_13 : Int32) (gm016_14 : Int32) (gm019_15 : Int32) (gm020_16 : Int32) (gm021_17 : Int32) (gm022_18 : Int32) (gm023_19 : Int32), I54_20 fm3_3 fm4_4 fm5_5 fm6_6 fm7_7 fm8_8 fm9_9 gm012_10 gm013_11 gm014_12 gm015_13 gm016_14 gm019_15 gm020_16 gm021_17 gm022_18 gm023_19 → (¬ gm022_18 = 0 → (gm022_18 ≤ 0 → ∀ (fm9_26 : (Nat → Int32)), (fm9_26 = (upd fm9_9 0 (fm9_9 2))) → (∀ (fm9_27 : (Nat → Int32)), (fm9_27 = (upd fm9_26 1 (fm9_26 3))) → (∃ (I145_35 : (Nat → Int32) → (Nat → Int32) → (Nat → Int32) → (Nat → Int32) → (Nat → Int32) → (Nat → Int32) → Int32 → Prop) (μ145_36 : (Nat → Int32) → (Nat → Int32) → (Nat → Int32) → (Nat → Int32) → (Nat → Int32) → (Nat → Int32) → Int32 → Nat), I145_35 fm3_3 fm4_4 fm5_5 fm6_6 fm7_7 fm8_8 0 ∧ (∀ (fm3_28 : (Nat → Int32)) (fm4_29 : (Nat → Int32)) (fm5_30 : (Nat → Int32)) (fm6_31 : (Nat → Int32)) (fm7_32 : (Nat → Int32)) (fm8_33 : (Nat → Int32)) (x1_34 : Int32), I145_35 fm3_28 fm4_29 fm5_30 fm6_31 fm7_32 fm8_33 x1_34 → (10 ≤ x1_34 → ∀ (mw2_41 : Nat → Int64), (MR 0 mw2_41 (bgR fm5_30 fm7_32 (mw 133).toInt) ∧ MF 0 mw mw2_41) → (∀ (fm2_42 : (Nat → Int32)), (fm2_42 = (upd ik 0 (vp_nar .boolean 0))) → (∀ (fm2_43 : (Nat → Int32)), (fm2_43 = (upd fm2_42 1 (vp_nar .boolean 0))) → (((0 : Int32) = 0 ∧ ((∃ f, paT B L = .inl f ∧ (fm9_27 0) = -10 - nI f.1 ∧ gm023_19 = nI f.2 ∧ mw2_41 = mw ∧ fm2_43 = ik ∧ gm012_10 = fu ∧ gm013_11 = fd ∧ gm014_12 = fi ∧ (0 : Int32) = wr ∧ fr2 mn fm9_27 ∧ fr10 zs fm3_28 ∧ fr10 cl fm4_29 ∧ fr10 ks fm6_31 ∧ fr10 ne fm8_33) ∨ (∃ z_, paT B L = .inr z_ ∧ (fm9_27 0) = nI z_.1 ∧ gm023_19 = -1 ∧ MT z_.2.2.1 z_.1 z_.2.1 gm012_10 gm013_11 gm014_12 fm3_28 fm4_29 fm6_31 fm8_33 fm9_27 ∧ (∃ u_, MR 0 mw2_41 u_ ∧ agr z_.1 z_.2.1 (zBeg z_.2.2.1 (mw 133).toInt) u_) ∧ (0 : Int32) = 0 ∧ fm2_43 0 = 0 ∧ fm2_43 1 = 0))))))) ∧ (¬ (10 ≤ x1_34) → (vp_in (10 + x1_34) 20) ∧ ((vp_in x1_34 20) ∧ (∀ (fm3_44 : (Nat → Int32)), (fm3_44 = (upd fm3_28 x1_34.toNatClampNeg (fm3_28 (10 + x1_34).toNatClampNeg))) → ((vp_in (10 + x1_34) 20) ∧ ((vp_in x1_34 20) ∧ (∀ (fm4_45 : (Nat → Int32)), (fm4_45 = (upd fm4_29 x1_34.toNatClampNeg (fm4_29 (10 + x1_34).toNatClampNeg))) → ((vp_in (10 + x1_34) 20) ∧ ((vp_in x1_34 20) ∧ (∀ (fm5_46 : (Nat → Int32)), (fm5_46 = (upd fm5_30 x1_34.toNatClampNeg (fm5_30 (10 + x1_34).toNatClampNeg))) → ((vp_in (10 + x1_34) 20) ∧ ((vp_in x1_34 20) ∧ (∀ (fm6_47 : (Nat → Int32)), (fm6_47 = (upd fm6_31 x1_34.toNatClampNeg (fm6_31 (10 + x1_34).toNatClampNeg))) → ((vp_in (10 + x1_34) 20) ∧ ((vp_in x1_34 20) ∧ (∀ (fm7_48 : (Nat → Int32)), (fm7_48 = (upd fm7_32 x1_34.toNatClampNeg (fm7_32 (10 + x1_34).toNatClampNeg))) → ((vp_in (10 + x1_34) 20) ∧ ((vp_in x1_34 20) ∧ (∀ (fm8_49 : (Nat → Int32)), (fm8_49 = (upd fm8_33 x1_34.toNatClampNeg (fm8_33 (10 + x1_34).toNatClampNeg))) → (I145_35 fm3_44 fm4_45 fm5_46 fm6_47 fm7_48 fm8_49 (x1_34 + 1) ∧ μ145_36 fm3_44 fm4_45 fm5_46 fm6_47 fm7_48 fm8_49 (x1_34 + 1) < μ145_36 fm3_28 fm4_29 fm5_30 fm6_31 fm7_32 fm8_33 x1_34))))))))))))))))))))))) ∧ (¬ (gm022_18 ≤ 0) → ((0 : Int32) = 0 ∧ ((∃ f, paT B L = .inl f ∧ ((-10) - gm022_18) = -10 - nI f.1 ∧ gm023_19 = nI f.2 ∧ mw = mw ∧ ik = ik ∧ fu = fu ∧ fd = fd ∧ fi = fi ∧ wr = wr ∧ fr2 mn fm9_9 ∧ fr10 zs fm3_3 ∧ fr10 cl fm4_4 ∧ fr10 ks fm6_6 ∧ fr10 ne fm8_8) ∨ (∃ z_, paT B L = .inr z_ ∧ ((-10) - gm022_18) = nI z_.1 ∧ gm023_19 = -1 ∧ MT z_.2.2.1 z_.1 z_.2.1 fu fd fi fm3_3 fm4_4 fm6_6 fm8_8 fm9_9 ∧ (∃ u_, MR 0 mw u_ ∧ agr z_.1 z_.2.1 (zBeg z_.2.2.1 (mw 133).toInt) u_) ∧ wr = 0 ∧ ik 0 = 0 ∧ ik 1 = 0))))) ∧ (gm022_18 = 0 → ∃ (gB_53 : Nat → Int) (gL_54 : Nat) (gaq_55 : Nat), ((MX gB_53 gL_54 tx ts ∧ gm019_15 = nI gaq_55 ∧ gaq_55 ≤ gL_54) ∧ (∀ (r_56 : Int32) (ap2_57 : Int32), (ap2_57 = nI (sk gB_53 gL_54 gaq_55) ∧ r_56.toInt = (if sk gB_53 gL_54 gaq_55 < gL_54 then gB_53 (sk gB_53 gL_54 gaq_55) else -1)) → ((r_56 < 0 → (gm022_18 ≤ 0 → ∀ (fm9_60 : (Nat → Int32)), (fm9_60 = (upd fm9_9 0 (fm9_9 2))) → (∀ (fm9_61 : (Nat → Int32)), (fm9_61 = (upd fm9_60 1 (fm9_60 3))) → (∃ (I145_69 : (Nat → Int32) → (Nat → Int32) → (Nat → Int32) → (Nat → Int32) → (Nat → Int32) → (Nat → Int32) → Int32 → Prop) (μ145_70 : (Nat → Int32) → (Nat → Int32) → (Nat → Int32) → (Nat → Int32) → (Nat → Int32) → (Nat → Int32) → Int32 → Nat), I145_69 fm3_3 fm4_4 fm5_5 fm6_6 fm7_7 fm8_8 0 ∧ (∀ (fm3_62 : (Nat → Int32)) (fm4_63 : (Nat → Int32)) (fm5_64 : (Nat → Int32)) (fm6_65 : (Nat → Int32)) (fm7_66 : (Nat → Int32)) (fm8_67 : (Nat → Int32)) (x1_68 : Int32), I145_69 fm3_62 fm4_63 fm5_64 fm6_65 fm7_66 fm8_67 x1_68 → (10 ≤ x1_68 → ∀ (mw2_75 : Nat → Int64), (MR 0 mw2_75 (bgR fm5_64 fm7_66 (mw 133).toInt) ∧ MF 0 mw mw2_75) → (∀ (fm2_76 : (Nat → Int32)), (fm2_76 = (upd ik 0 (vp_nar .boolean 0))) → (∀ (fm2_77 : (Nat → Int32)), (fm2_77 = (upd fm2_76 1 (vp_nar .boolean 0))) → (((0 : Int32) = 0 ∧ ((∃ f, paT B L = .inl f ∧ (fm9_61 0) = -10 - nI f.1 ∧ gm023_19 = nI f.2 ∧ mw2_75 = mw ∧ fm2_77 = ik ∧ gm012_10 = fu ∧ gm013_11 = fd ∧ gm014_12 = fi ∧ (0 : Int32) = wr ∧ fr2 mn fm9_61 ∧ fr10 zs fm3_62 ∧ fr10 cl fm4_63 ∧ fr10 ks fm6_65 ∧ fr10 ne fm8_67) ∨ (∃ z_, paT B L = .inr z_ ∧ (fm9_61 0) = nI z_.1 ∧ gm023_19 = -1 ∧ MT z_.2.2.1 z_.1 z_.2.1 gm012_10 gm013_11 gm014_12 fm3_62 fm4_63 fm6_65 fm8_67 fm9_61 ∧ (∃ u_, MR 0 mw2_75 u_ ∧ agr z_.1 z_.2.1 (zBeg z_.2.2.1 (mw 133).toInt) u_) ∧ (0 : Int32) = 0 ∧ fm2_77 0 = 0 ∧ fm2_77 1 = 0))))))) ∧ (¬ (10 ≤ x1_68) → (vp_in (10 + x1_68) 20) ∧ ((vp_in x1_68 20) ∧ (∀ (fm3_78 : (Nat → Int32)), (fm3_78 = (upd fm3_62 x1_68.toNatClampNeg (fm3_62 (10 + x1_68).toNatClampNeg))) → ((vp_in (10 + x1_68) 20) ∧ ((vp_in x1_68 20) ∧ (∀ (fm4_79 : (Nat → Int32)), (fm4_79 = (upd fm4_63 x1_68.toNatClampNeg (fm4_63 (10 + x1_68).toNatClampNeg))) → ((vp_in (10 + x1_68) 20) ∧ ((vp_in x1_68 20) ∧ (∀ (fm5_80 : (Nat → Int32)), (fm5_80 = (upd fm5_64 x1_68.toNatClampNeg (fm5_64 (10 + x1_68).toNatClampNeg))) → ((vp_in (10 + x1_68) 20) ∧ ((vp_in x1_68 20) ∧ (∀ (fm6_81 : (Nat → Int32)), (fm6_81 = (upd fm6_65 x1_68.toNatClampNeg (fm6_65 (10 + x1_68).toNatClampNeg))) → ((vp_in (10 + x1_68) 20) ∧ ((vp_in x1_68 20) ∧ (∀ (fm7_82 : (Nat → Int32)), (fm7_82 = (upd fm7_66 x1_68.toNatClampNeg (fm7_66 (10 + x1_68).toNatClampNeg))) → ((vp_in (10 + x1_68) 20) ∧ ((vp_in x1_68 20) ∧ (∀ (fm8_83 : (Nat → Int32)), (fm8_83 = (upd fm8_67 x1_68.toNatClampNeg (fm8_67 (10 + x1_68).toNatClampNeg))) → (I145_69 fm3_78 fm4_79 fm5_80 fm6_81 fm7_82 fm8_83 (x1_68 + 1) ∧ μ145_70 fm3_78 fm4_79 fm5_80 fm6_81 fm7_82 fm8_83 (x1_68 + 1) < μ145_70 fm3_62 fm4_63 fm5_64 fm6_65 fm7_66 fm8_67 x1_68))))))))))))))))))))))) ∧ (¬ (gm022_18 ≤ 0) → ((0 : Int32) = 0 ∧ ((∃ f, paT B L = .inl f ∧ ((-10) - gm022_18) = -10 - nI f.1 ∧ gm023_19 = nI f.2 ∧ mw = mw ∧ ik = ik ∧ fu = fu ∧ fd = fd ∧ fi = fi ∧ wr = wr ∧ fr2 mn fm9_9 ∧ fr10 zs fm3_3 ∧ fr10 cl fm4_4 ∧ fr10 ks fm6_6 ∧ fr10 ne fm8_8) ∨ (∃ z_, paT B L = .inr z_ ∧ ((-10) - gm022_18) = nI z_.1 ∧ gm023_19 = -1 ∧ MT z_.2.2.1 z_.1 z_.2.1 fu fd fi fm3_3 fm4_4 fm6_6 fm8_8 fm9_9 ∧ (∃ u_, MR 0 mw u_ ∧ agr z_.1 z_.2.1 (zBeg z_.2.2.1 (mw 133).toInt) u_) ∧ wr = 0 ∧ ik 0 = 0 ∧ ik 1 = 0))))) ∧ (¬ (r_56 < 0) → ∃ (gB_87 : Nat → Int) (gL_88 : Nat) (gaq_89 : Nat) (gtq_90 : PTn), ((MX gB_87 gL_88 tx ts ∧ CSo gL_88 gaq_89 gm022_18 gm023_19 ap2_57 ∧ MW gtq_90 fm3_3 fm4_4 fm5_5 fm6_6 fm7_7 fm8_8 fm9_9 gm012_10 gm013_11 gm014_12 gm015_13 gm016_14 ∧ gtq_90.1 ≤ 9 ∧ gtq_90.2.1 ≤ 8) ∧ (∀ (zs2_92 : Nat → Int32) (cl2_93 : Nat → Int32) (hs2_94 : Nat → Int32) (ks2_95 : Nat → Int32) (wa2_96 : Nat → Int32) (ne2_97 : Nat → Int32) (mn2_98 : Nat → Int32) (ap2_99 : Int32) (fs2_100 : Int32) (ln2_101 : Int32) (fo2_102 : Int32) (fa2_103 : Int32) (bf2_104 : Int32) (bn2_105 : Int32) (nu2_106 : Int32) (nw2_107 : Int32) (nf2_108 : Int32), (MP gL_88 (clR gB_87 gL_88 gaq_89 gtq_90) fo2_102 fa2_103 ap2_99 zs2_92 cl2_93 hs2_94 ks2_95 wa2_96 ne2_97 mn2_98 nu2_106 nw2_107 nf2_108 bf2_104 bn2_105 ∧ fr10 fm3_3 zs2_92 ∧ fr10 fm4_4 cl2_93 ∧ fr10 fm5_5 hs2_94 ∧ fr10 fm6_6 ks2_95 ∧ fr10 fm7_7 wa2_96 ∧ fr10 fm8_8 ne2_97 ∧ fr2 fm9_9 mn2_98) → (I54_20 zs2_92 cl2_93 hs2_94 ks2_95 wa2_96 ne2_97 mn2_98 nu2_106 nw2_107 nf2_108 bf2_104 bn2_105 ap2_99 fs2_100 ln2_101 fo2_102 fa2_103 ∧ μ54_21 zs2_92 cl2_93 hs2_94 ks2_95 wa2_96 ne2_97 mn2_98 nu2_106 nw2_107 nf2_108 bf2_104 bn2_105 ap2_99 fs2_100 ln2_101 fo2_102 fa2_103 < μ54_21 fm3_3 fm4_4 fm5_5 fm6_6 fm7_7 fm8_8 fm9_9 gm012_10 gm013_11 gm014_12 gm015_13 gm016_14 gm019_15 gm020_16 gm021_17 gm022_18 gm023_19)))))))))))) : MetI l yX8_town wsX8_town 4 94 G [.ref m0] [(m0, .inr (8, [.ref m1, .ref m2, .ref m3, .ref m4, .ref m5, .ref m6, .ref m7, .ref m8, .ref m9, .int fu, .int fd, .int fi, .int nu, .int nw, .int nf, .int bf, .int bn, .ref m10, .int ts, .int ap, .int fs, .int ln, .int fo, .int fa, .ref m11, .ref m12, .ref m13, .ref m14, .int wr])), aJ G m1 560 mw, aZ G m2 2 ik, aI G m3 20 zs, aI G m4 20 cl, aI G m5 20 hs, aI G m6 20 ks, aI G m7 20 wa, aI G m8 20 ne, aI G m9 4 mn, aI G m10 400 tx, aI G m11 6 th, aI G m12 6 od, aI G m13 30 bk, aI G m14 30 bh] sz (fun (r : Int32) (u : (Nat → Int64) × (Nat → Int32) × (Nat → Int32) × (Nat → Int32) × (Nat → Int32) × (Nat → Int32) × (Nat → Int32) × (Nat → Int32) × (Nat → Int32) × (Int32) × (Int32) × (Int32) × (Int32) × (Int32) × (Int32) × (Int32) × (Int32) × (Int32) × (Int32) × (Int32) × (Int32) × (Int32) × (Int32) × (Int32)) => (u.2.2.2.2.2.2.2.2.2.2.2.2.2.2.2.2.2.1 = 0 ∧ ((∃ f, paT B L = .inl f ∧ r = -10 - nI f.1 ∧ u.2.2.2.2.2.2.2.2.2.2.2.2.2.2.2.2.2.2.2.2.2.2.1 = nI f.2 ∧ u.1 = mw ∧ u.2.1 = ik ∧ u.2.2.2.2.2.2.2.2.2.1 = fu ∧ u.2.2.2.2.2.2.2.2.2.2.1 = fd ∧ u.2.2.2.2.2.2.2.2.2.2.2.1 = fi ∧ u.2.2.2.2.2.2.2.2.2.2.2.2.2.2.2.2.2.2.2.2.2.2.2 = wr ∧ fr2 mn u.2.2.2.2.2.2.2.2.1 ∧ fr10 zs u.2.2.1 ∧ fr10 cl u.2.2.2.1 ∧ fr10 ks u.2.2.2.2.2.1 ∧ fr10 ne u.2.2.2.2.2.2.2.1) ∨ (∃ z_, paT B L = .inr z_ ∧ r = nI z_.1 ∧ u.2.2.2.2.2.2.2.2.2.2.2.2.2.2.2.2.2.2.2.2.2.2.1 = -1 ∧ MT z_.2.2.1 z_.1 z_.2.1 u.2.2.2.2.2.2.2.2.2.1 u.2.2.2.2.2.2.2.2.2.2.1 u.2.2.2.2.2.2.2.2.2.2.2.1 u.2.2.1 u.2.2.2.1 u.2.2.2.2.2.1 u.2.2.2.2.2.2.2.1 u.2.2.2.2.2.2.2.2.1 ∧ (∃ u_, MR 0 u.1 u_ ∧ agr z_.1 z_.2.1 (zBeg z_.2.2.1 (mw 133).toInt) u_) ∧ u.2.2.2.2.2.2.2.2.2.2.2.2.2.2.2.2.2.2.2.2.2.2.2 = 0 ∧ u.2.1 0 = 0 ∧ u.2.1 1 = 0)))) (fun (u : (Nat → Int64) × (Nat → Int32) × (Nat → Int32) × (Nat → Int32) × (Nat → Int32) × (Nat → Int32) × (Nat → Int32) × (Nat → Int32) × (Nat → Int32) × (Int32) × (Int32) × (Int32) × (Int32) × (Int32) × (Int32) × (Int32) × (Int32) × (Int32) × (Int32) × (Int32) × (Int32) × (Int32) × (Int32) × (Int32)) => [(m0, .inr (8, [.ref m1, .ref m2, .ref m3, .ref m4, .ref m5, .ref m6, .ref m7, .ref m8, .ref m9, .int u.2.2.2.2.2.2.2.2.2.1, .int u.2.2.2.2.2.2.2.2.2.2.1, .int u.2.2.2.2.2.2.2.2.2.2.2.1, .int u.2.2.2.2.2.2.2.2.2.2.2.2.1, .int u.2.2.2.2.2.2.2.2.2.2.2.2.2.1, .int u.2.2.2.2.2.2.2.2.2.2.2.2.2.2.1, .int u.2.2.2.2.2.2.2.2.2.2.2.2.2.2.2.1, .int u.2.2.2.2.2.2.2.2.2.2.2.2.2.2.2.2.1, .ref m10, .int u.2.2.2.2.2.2.2.2.2.2.2.2.2.2.2.2.2.1, .int u.2.2.2.2.2.2.2.2.2.2.2.2.2.2.2.2.2.2.1, .int u.2.2.2.2.2.2.2.2.2.2.2.2.2.2.2.2.2.2.2.1, .int u.2.2.2.2.2.2.2.2.2.2.2.2.2.2.2.2.2.2.2.2.1, .int u.2.2.2.2.2.2.2.2.2.2.2.2.2.2.2.2.2.2.2.2.2.1, .int u.2.2.2.2.2.2.2.2.2.2.2.2.2.2.2.2.2.2.2.2.2.2.1, .ref m11, .ref m12, .ref m13, .ref m14, .int u.2.2.2.2.2.2.2.2.2.2.2.2.2.2.2.2.2.2.2.2.2.2.2])), aJ G m1 560 u.1, aZ G m2 2 u.2.1, aI G m3 20 u.2.2.1, aI G m4 20 u.2.2.2.1, aI G m5 20 u.2.2.2.2.1, aI G m6 20 u.2.2.2.2.2.1, aI G m7 20 u.2.2.2.2.2.2.1, aI G m8 20 u.2.2.2.2.2.2.2.1, aI G m9 4 u.2.2.2.2.2.2.2.2.1, aI G m10 400 tx, aI G m11 6 th, aI G m12 6 od, aI G m13 30 bk, aI G m14 30 bh]) := by
  refine x_startI (cc := cX8_town) (maxL := 2) (ret := (some .int)) (by decide) rfl (Nat.le_of_ble_eq_true rfl) ?_
  intro p e s m args below meth c A R Q ls hRf hRl hQ C hP hD hS hA hSS hl
  obtain ⟨hx, hb, hr, hml, hown, hts, hlocks, hKK⟩ := C
  have hown : s.vm.findClass RX8 = some m.cls := hown
  have hl : lv_has ls 2 [(0, .ref m0)] := hl
  have hinX8 : ∀ w ∈ u_ws RX8 TX8 29, w ∈ wsX8_town := by decide +kernel
  have kl127 := hts (.fieldLink RX8 127 "WarmStonesModel" "isFrost" "Z") (by decide +kernel)
  have kl13 := hts (.fieldLink RX8 13 "WarmStonesModel" "isKept" "[Z") (by decide +kernel)
  have kl131 := hts (.fieldLink RX8 131 "WarmStonesModel" "newUp" "I") (by decide +kernel)
  have kl134 := hts (.fieldLink RX8 134 "WarmStonesModel" "newDown" "I") (by decide +kernel)
  have kl137 := hts (.fieldLink RX8 137 "WarmStonesModel" "isFine" "Z") (by decide +kernel)
  have kl140 := hts (.fieldLink RX8 140 "WarmStonesModel" "newFine" "I") (by decide +kernel)
  have kl146 := hts (.fieldLink RX8 146 "WarmStonesModel" "fine" "I") (by decide +kernel)
  have kl149 := hts (.fieldLink RX8 149 "WarmStonesModel" "written" "I") (by decide +kernel)
  have kl17 := hts (.fieldLink RX8 17 "WarmStonesModel" "sizes" "[I") (by decide +kernel)
  have kl21 := hts (.fieldLink RX8 21 "WarmStonesModel" "coolings" "[I") (by decide +kernel)
  have kl24 := hts (.fieldLink RX8 24 "WarmStonesModel" "heats" "[I") (by decide +kernel)
  have kl27 := hts (.fieldLink RX8 27 "WarmStonesModel" "kinds" "[I") (by decide +kernel)
  have kl30 := hts (.fieldLink RX8 30 "WarmStonesModel" "warmths" "[I") (by decide +kernel)
  have kl33 := hts (.fieldLink RX8 33 "WarmStonesModel" "needs" "[I") (by decide +kernel)
  have kl36 := hts (.fieldLink RX8 36 "WarmStonesModel" "many" "[I") (by decide +kernel)
  have kl39 := hts (.fieldLink RX8 39 "WarmStonesModel" "frostUp" "I") (by decide +kernel)
  have kl43 := hts (.fieldLink RX8 43 "WarmStonesModel" "frostDown" "I") (by decide +kernel)
  have kl49 := hts (.fieldLink RX8 49 "WarmStonesModel" "fault" "I") (by decide +kernel)
  have kl74 := hts (.fieldLink RX8 74 "WarmStonesModel" "textSize" "I") (by decide +kernel)
  have kl80 := hts (.fieldLink RX8 80 "WarmStonesModel" "at" "I") (by decide +kernel)
  have kl83 := hts (.fieldLink RX8 83 "WarmStonesModel" "faultOf" "I") (by decide +kernel)
  refine lv_aload_n hx hb dX8_town_0 rfl (lv_at hl 0 rfl) ?_
  refine lv_iconst (v := 0) hx hb dX8_town_1 (by decide) ?_
  refine va_put (D := G.1) (ci := 8) (v := .int 0) (ty := .int) (C := RX8) (T := TX8) (N := 29) hx hb hts hinX8 tyX8 tyX8_ok nmX8 hown hKK.1 hP hD hS 0 rfl rfl 19 (by decide) kl80 (fun _ h9 => h9) rfl (by decide +kernel) rfl rfl (Nat.le_of_ble_eq_true rfl) dX8_town_2 (fun H locs hP hD hS => ?_)
  have hP : va_P G.1 vwCl [(m0, .inr (8, [.ref m1, .ref m2, .ref m3, .ref m4, .ref m5, .ref m6, .ref m7, .ref m8, .ref m9, .int fu, .int fd, .int fi, .int nu, .int nw, .int nf, .int bf, .int bn, .ref m10, .int ts, .int 0, .int fs, .int ln, .int fo, .int fa, .ref m11, .ref m12, .ref m13, .ref m14, .int wr])), aJ G m1 560 mw, aZ G m2 2 ik, aI G m3 20 zs, aI G m4 20 cl, aI G m5 20 hs, aI G m6 20 ks, aI G m7 20 wa, aI G m8 20 ne, aI G m9 4 mn, aI G m10 400 tx, aI G m11 6 th, aI G m12 6 od, aI G m13 30 bk, aI G m14 30 bh] H := hP
  have hD : va_D A [(m0, .inr (8, [.ref m1, .ref m2, .ref m3, .ref m4, .ref m5, .ref m6, .ref m7, .ref m8, .ref m9, .int fu, .int fd, .int fi, .int nu, .int nw, .int nf, .int bf, .int bn, .ref m10, .int ts, .int 0, .int fs, .int ln, .int fo, .int fa, .ref m11, .ref m12, .ref m13, .ref m14, .int wr])), aJ G m1 560 mw, aZ G m2 2 ik, aI G m3 20 zs, aI G m4 20 cl, aI G m5 20 hs, aI G m6 20 ks, aI G m7 20 wa, aI G m8 20 ne, aI G m9 4 mn, aI G m10 400 tx, aI G m11 6 th, aI G m12 6 od, aI G m13 30 bk, aI G m14 30 bh] := hD
  refine lv_aload_n hx hb dX8_town_5 rfl (lv_at hl 0 rfl) ?_
  refine lv_iconst (v := 0) hx hb dX8_town_6 (by decide) ?_
  refine va_put (D := G.1) (ci := 8) (v := .int 0) (ty := .int) (C := RX8) (T := TX8) (N := 29) hx hb hts hinX8 tyX8 tyX8_ok nmX8 hown hKK.1 hP hD hS 0 rfl rfl 22 (by decide) kl83 (fun _ h9 => h9) rfl (by decide +kernel) rfl rfl (Nat.le_of_ble_eq_true rfl) dX8_town_7 (fun H locs hP hD hS => ?_)
  have hP : va_P G.1 vwCl [(m0, .inr (8, [.ref m1, .ref m2, .ref m3, .ref m4, .ref m5, .ref m6, .ref m7, .ref m8, .ref m9, .int fu, .int fd, .int fi, .int nu, .int nw, .int nf, .int bf, .int bn, .ref m10, .int ts, .int 0, .int fs, .int ln, .int 0, .int fa, .ref m11, .ref m12, .ref m13, .ref m14, .int wr])), aJ G m1 560 mw, aZ G m2 2 ik, aI G m3 20 zs, aI G m4 20 cl, aI G m5 20 hs, aI G m6 20 ks, aI G m7 20 wa, aI G m8 20 ne, aI G m9 4 mn, aI G m10 400 tx, aI G m11 6 th, aI G m12 6 od, aI G m13 30 bk, aI G m14 30 bh] H := hP
  have hD : va_D A [(m0, .inr (8, [.ref m1, .ref m2, .ref m3, .ref m4, .ref m5, .ref m6, .ref m7, .ref m8, .ref m9, .int fu, .int fd, .int fi, .int nu, .int nw, .int nf, .int bf, .int bn, .ref m10, .int ts, .int 0, .int fs, .int ln, .int 0, .int fa, .ref m11, .ref m12, .ref m13, .ref m14, .int wr])), aJ G m1 560 mw, aZ G m2 2 ik, aI G m3 20 zs, aI G m4 20 cl, aI G m5 20 hs, aI G m6 20 ks, aI G m7 20 wa, aI G m8 20 ne, aI G m9 4 mn, aI G m10 400 tx, aI G m11 6 th, aI G m12 6 od, aI G m13 30 bk, aI G m14 30 bh] := hD
  refine lv_aload_n hx hb dX8_town_10 rfl (lv_at hl 0 rfl) ?_
  refine lv_iconst (v := (-1)) hx hb dX8_town_11 (by decide) ?_
  refine va_put (D := G.1) (ci := 8) (v := .int (-1)) (ty := .int) (C := RX8) (T := TX8) (N := 29) hx hb hts hinX8 tyX8 tyX8_ok nmX8 hown hKK.1 hP hD hS 0 rfl rfl 23 (by decide) kl49 (fun _ h9 => h9) rfl (by decide +kernel) rfl rfl (Nat.le_of_ble_eq_true rfl) dX8_town_12 (fun H locs hP hD hS => ?_)
  have hP : va_P G.1 vwCl [(m0, .inr (8, [.ref m1, .ref m2, .ref m3, .ref m4, .ref m5, .ref m6, .ref m7, .ref m8, .ref m9, .int fu, .int fd, .int fi, .int nu, .int nw, .int nf, .int bf, .int bn, .ref m10, .int ts, .int 0, .int fs, .int ln, .int 0, .int (-1), .ref m11, .ref m12, .ref m13, .ref m14, .int wr])), aJ G m1 560 mw, aZ G m2 2 ik, aI G m3 20 zs, aI G m4 20 cl, aI G m5 20 hs, aI G m6 20 ks, aI G m7 20 wa, aI G m8 20 ne, aI G m9 4 mn, aI G m10 400 tx, aI G m11 6 th, aI G m12 6 od, aI G m13 30 bk, aI G m14 30 bh] H := hP
  have hD : va_D A [(m0, .inr (8, [.ref m1, .ref m2, .ref m3, .ref m4, .ref m5, .ref m6, .ref m7, .ref m8, .ref m9, .int fu, .int fd, .int fi, .int nu, .int nw, .int nf, .int bf, .int bn, .ref m10, .int ts, .int 0, .int fs, .int ln, .int 0, .int (-1), .ref m11, .ref m12, .ref m13, .ref m14, .int wr])), aJ G m1 560 mw, aZ G m2 2 ik, aI G m3 20 zs, aI G m4 20 cl, aI G m5 20 hs, aI G m6 20 ks, aI G m7 20 wa, aI G m8 20 ne, aI G m9 4 mn, aI G m10 400 tx, aI G m11 6 th, aI G m12 6 od, aI G m13 30 bk, aI G m14 30 bh] := hD
  refine lv_aload_n hx hb dX8_town_15 rfl (lv_at hl 0 rfl) ?_
  refine va_get (D := G.1) (ci := 8) (v := .ref m9) (C := RX8) (T := TX8) (N := 29) hx hb hts hinX8 hown hKK.1 hP 0 rfl rfl 8 (by decide) kl36 (fun _ h9 => h9) rfl dX8_town_16 ?_
  refine lv_iconst (v := 2) hx hb dX8_town_19 (by decide) ?_
  refine lv_iconst (v := 0) hx hb dX8_town_20 (by decide) ?_
  refine va_iast hx hb hKK.1 hP hD hS 9 0 rfl rfl (by unfold vp_in; decide) dX8_town_21 (fun H locs hP hD hS => ?_)
  obtain ⟨fm9_1, ef⟩ : ∃ z9_, z9_ = (upd mn 2 0) := ⟨_, rfl⟩
  have hP : va_P G.1 vwCl [(m0, .inr (8, [.ref m1, .ref m2, .ref m3, .ref m4, .ref m5, .ref m6, .ref m7, .ref m8, .ref m9, .int fu, .int fd, .int fi, .int nu, .int nw, .int nf, .int bf, .int bn, .ref m10, .int ts, .int 0, .int fs, .int ln, .int 0, .int (-1), .ref m11, .ref m12, .ref m13, .ref m14, .int wr])), aJ G m1 560 mw, aZ G m2 2 ik, aI G m3 20 zs, aI G m4 20 cl, aI G m5 20 hs, aI G m6 20 ks, aI G m7 20 wa, aI G m8 20 ne, aI G m9 4 fm9_1, aI G m10 400 tx, aI G m11 6 th, aI G m12 6 od, aI G m13 30 bk, aI G m14 30 bh] H := by rw [ef]; exact hP
  have hD : va_D A [(m0, .inr (8, [.ref m1, .ref m2, .ref m3, .ref m4, .ref m5, .ref m6, .ref m7, .ref m8, .ref m9, .int fu, .int fd, .int fi, .int nu, .int nw, .int nf, .int bf, .int bn, .ref m10, .int ts, .int 0, .int fs, .int ln, .int 0, .int (-1), .ref m11, .ref m12, .ref m13, .ref m14, .int wr])), aJ G m1 560 mw, aZ G m2 2 ik, aI G m3 20 zs, aI G m4 20 cl, aI G m5 20 hs, aI G m6 20 ks, aI G m7 20 wa, aI G m8 20 ne, aI G m9 4 fm9_1, aI G m10 400 tx, aI G m11 6 th, aI G m12 6 od, aI G m13 30 bk, aI G m14 30 bh] := by rw [ef]; exact hD
  have hv := hv fm9_1 ef
  refine lv_aload_n hx hb dX8_town_22 rfl (lv_at hl 0 rfl) ?_
  refine va_get (D := G.1) (ci := 8) (v := .ref m9) (C := RX8) (T := TX8) (N := 29) hx hb hts hinX8 hown hKK.1 hP 0 rfl rfl 8 (by decide) kl36 (fun _ h9 => h9) rfl dX8_town_23 ?_
  refine lv_iconst (v := 3) hx hb dX8_town_26 (by decide) ?_
  refine lv_iconst (v := 0) hx hb dX8_town_27 (by decide) ?_
  refine va_iast hx hb hKK.1 hP hD hS 9 0 rfl rfl (by unfold vp_in; decide) dX8_town_28 (fun H locs hP hD hS => ?_)
  obtain ⟨fm9_2, ef⟩ : ∃ z9_, z9_ = (upd fm9_1 3 0) := ⟨_, rfl⟩
  have hP : va_P G.1 vwCl [(m0, .inr (8, [.ref m1, .ref m2, .ref m3, .ref m4, .ref m5, .ref m6, .ref m7, .ref m8, .ref m9, .int fu, .int fd, .int fi, .int nu, .int nw, .int nf, .int bf, .int bn, .ref m10, .int ts, .int 0, .int fs, .int ln, .int 0, .int (-1), .ref m11, .ref m12, .ref m13, .ref m14, .int wr])), aJ G m1 560 mw, aZ G m2 2 ik, aI G m3 20 zs, aI G m4 20 cl, aI G m5 20 hs, aI G m6 20 ks, aI G m7 20 wa, aI G m8 20 ne, aI G m9 4 fm9_2, aI G m10 400 tx, aI G m11 6 th, aI G m12 6 od, aI G m13 30 bk, aI G m14 30 bh] H := by rw [ef]; exact hP
  have hD : va_D A [(m0, .inr (8, [.ref m1, .ref m2, .ref m3, .ref m4, .ref m5, .ref m6, .ref m7, .ref m8, .ref m9, .int fu, .int fd, .int fi, .int nu, .int nw, .int nf, .int bf, .int bn, .ref m10, .int ts, .int 0, .int fs, .int ln, .int 0, .int (-1), .ref m11, .ref m12, .ref m13, .ref m14, .int wr])), aJ G m1 560 mw, aZ G m2 2 ik, aI G m3 20 zs, aI G m4 20 cl, aI G m5 20 hs, aI G m6 20 ks, aI G m7 20 wa, aI G m8 20 ne, aI G m9 4 fm9_2, aI G m10 400 tx, aI G m11 6 th, aI G m12 6 od, aI G m13 30 bk, aI G m14 30 bh] := by rw [ef]; exact hD
  have hv := hv fm9_2 ef
  refine lv_aload_n hx hb dX8_town_29 rfl (lv_at hl 0 rfl) ?_
  refine lv_iconst (v := 0) hx hb dX8_town_30 (by decide) ?_
  refine va_put (D := G.1) (ci := 8) (v := .int 0) (ty := .boolean) (C := RX8) (T := TX8) (N := 29) hx hb hts hinX8 tyX8 tyX8_ok nmX8 hown hKK.1 hP hD hS 0 rfl rfl 15 (by decide) kl127 (fun _ h9 => h9) rfl (by decide +kernel) rfl rfl (Nat.le_of_ble_eq_true rfl) dX8_town_31 (fun H locs hP hD hS => ?_)
  have hP : va_P G.1 vwCl [(m0, .inr (8, [.ref m1, .ref m2, .ref m3, .ref m4, .ref m5, .ref m6, .ref m7, .ref m8, .ref m9, .int fu, .int fd, .int fi, .int nu, .int nw, .int nf, .int 0, .int bn, .ref m10, .int ts, .int 0, .int fs, .int ln, .int 0, .int (-1), .ref m11, .ref m12, .ref m13, .ref m14, .int wr])), aJ G m1 560 mw, aZ G m2 2 ik, aI G m3 20 zs, aI G m4 20 cl, aI G m5 20 hs, aI G m6 20 ks, aI G m7 20 wa, aI G m8 20 ne, aI G m9 4 fm9_2, aI G m10 400 tx, aI G m11 6 th, aI G m12 6 od, aI G m13 30 bk, aI G m14 30 bh] H := hP
  have hD : va_D A [(m0, .inr (8, [.ref m1, .ref m2, .ref m3, .ref m4, .ref m5, .ref m6, .ref m7, .ref m8, .ref m9, .int fu, .int fd, .int fi, .int nu, .int nw, .int nf, .int 0, .int bn, .ref m10, .int ts, .int 0, .int fs, .int ln, .int 0, .int (-1), .ref m11, .ref m12, .ref m13, .ref m14, .int wr])), aJ G m1 560 mw, aZ G m2 2 ik, aI G m3 20 zs, aI G m4 20 cl, aI G m5 20 hs, aI G m6 20 ks, aI G m7 20 wa, aI G m8 20 ne, aI G m9 4 fm9_2, aI G m10 400 tx, aI G m11 6 th, aI G m12 6 od, aI G m13 30 bk, aI G m14 30 bh] := hD
  refine lv_aload_n hx hb dX8_town_34 rfl (lv_at hl 0 rfl) ?_
  refine lv_iconst (v := 0) hx hb dX8_town_35 (by decide) ?_
  refine va_put (D := G.1) (ci := 8) (v := .int 0) (ty := .boolean) (C := RX8) (T := TX8) (N := 29) hx hb hts hinX8 tyX8 tyX8_ok nmX8 hown hKK.1 hP hD hS 0 rfl rfl 16 (by decide) kl137 (fun _ h9 => h9) rfl (by decide +kernel) rfl rfl (Nat.le_of_ble_eq_true rfl) dX8_town_36 (fun H locs hP hD hS => ?_)
  have hP : va_P G.1 vwCl [(m0, .inr (8, [.ref m1, .ref m2, .ref m3, .ref m4, .ref m5, .ref m6, .ref m7, .ref m8, .ref m9, .int fu, .int fd, .int fi, .int nu, .int nw, .int nf, .int 0, .int 0, .ref m10, .int ts, .int 0, .int fs, .int ln, .int 0, .int (-1), .ref m11, .ref m12, .ref m13, .ref m14, .int wr])), aJ G m1 560 mw, aZ G m2 2 ik, aI G m3 20 zs, aI G m4 20 cl, aI G m5 20 hs, aI G m6 20 ks, aI G m7 20 wa, aI G m8 20 ne, aI G m9 4 fm9_2, aI G m10 400 tx, aI G m11 6 th, aI G m12 6 od, aI G m13 30 bk, aI G m14 30 bh] H := hP
  have hD : va_D A [(m0, .inr (8, [.ref m1, .ref m2, .ref m3, .ref m4, .ref m5, .ref m6, .ref m7, .ref m8, .ref m9, .int fu, .int fd, .int fi, .int nu, .int nw, .int nf, .int 0, .int 0, .ref m10, .int ts, .int 0, .int fs, .int ln, .int 0, .int (-1), .ref m11, .ref m12, .ref m13, .ref m14, .int wr])), aJ G m1 560 mw, aZ G m2 2 ik, aI G m3 20 zs, aI G m4 20 cl, aI G m5 20 hs, aI G m6 20 ks, aI G m7 20 wa, aI G m8 20 ne, aI G m9 4 fm9_2, aI G m10 400 tx, aI G m11 6 th, aI G m12 6 od, aI G m13 30 bk, aI G m14 30 bh] := hD
  refine lv_aload_n hx hb dX8_town_39 rfl (lv_at hl 0 rfl) ?_
  refine lv_iconst (v := 3) hx hb dX8_town_40 (by decide) ?_
  refine va_put (D := G.1) (ci := 8) (v := .int 3) (ty := .int) (C := RX8) (T := TX8) (N := 29) hx hb hts hinX8 tyX8 tyX8_ok nmX8 hown hKK.1 hP hD hS 0 rfl rfl 12 (by decide) kl131 (fun _ h9 => h9) rfl (by decide +kernel) rfl rfl (Nat.le_of_ble_eq_true rfl) dX8_town_41 (fun H locs hP hD hS => ?_)
  have hP : va_P G.1 vwCl [(m0, .inr (8, [.ref m1, .ref m2, .ref m3, .ref m4, .ref m5, .ref m6, .ref m7, .ref m8, .ref m9, .int fu, .int fd, .int fi, .int 3, .int nw, .int nf, .int 0, .int 0, .ref m10, .int ts, .int 0, .int fs, .int ln, .int 0, .int (-1), .ref m11, .ref m12, .ref m13, .ref m14, .int wr])), aJ G m1 560 mw, aZ G m2 2 ik, aI G m3 20 zs, aI G m4 20 cl, aI G m5 20 hs, aI G m6 20 ks, aI G m7 20 wa, aI G m8 20 ne, aI G m9 4 fm9_2, aI G m10 400 tx, aI G m11 6 th, aI G m12 6 od, aI G m13 30 bk, aI G m14 30 bh] H := hP
  have hD : va_D A [(m0, .inr (8, [.ref m1, .ref m2, .ref m3, .ref m4, .ref m5, .ref m6, .ref m7, .ref m8, .ref m9, .int fu, .int fd, .int fi, .int 3, .int nw, .int nf, .int 0, .int 0, .ref m10, .int ts, .int 0, .int fs, .int ln, .int 0, .int (-1), .ref m11, .ref m12, .ref m13, .ref m14, .int wr])), aJ G m1 560 mw, aZ G m2 2 ik, aI G m3 20 zs, aI G m4 20 cl, aI G m5 20 hs, aI G m6 20 ks, aI G m7 20 wa, aI G m8 20 ne, aI G m9 4 fm9_2, aI G m10 400 tx, aI G m11 6 th, aI G m12 6 od, aI G m13 30 bk, aI G m14 30 bh] := hD
  refine lv_aload_n hx hb dX8_town_44 rfl (lv_at hl 0 rfl) ?_
  refine lv_iconst (v := 1) hx hb dX8_town_45 (by decide) ?_
  refine va_put (D := G.1) (ci := 8) (v := .int 1) (ty := .int) (C := RX8) (T := TX8) (N := 29) hx hb hts hinX8 tyX8 tyX8_ok nmX8 hown hKK.1 hP hD hS 0 rfl rfl 13 (by decide) kl134 (fun _ h9 => h9) rfl (by decide +kernel) rfl rfl (Nat.le_of_ble_eq_true rfl) dX8_town_46 (fun H locs hP hD hS => ?_)
  have hP : va_P G.1 vwCl [(m0, .inr (8, [.ref m1, .ref m2, .ref m3, .ref m4, .ref m5, .ref m6, .ref m7, .ref m8, .ref m9, .int fu, .int fd, .int fi, .int 3, .int 1, .int nf, .int 0, .int 0, .ref m10, .int ts, .int 0, .int fs, .int ln, .int 0, .int (-1), .ref m11, .ref m12, .ref m13, .ref m14, .int wr])), aJ G m1 560 mw, aZ G m2 2 ik, aI G m3 20 zs, aI G m4 20 cl, aI G m5 20 hs, aI G m6 20 ks, aI G m7 20 wa, aI G m8 20 ne, aI G m9 4 fm9_2, aI G m10 400 tx, aI G m11 6 th, aI G m12 6 od, aI G m13 30 bk, aI G m14 30 bh] H := hP
  have hD : va_D A [(m0, .inr (8, [.ref m1, .ref m2, .ref m3, .ref m4, .ref m5, .ref m6, .ref m7, .ref m8, .ref m9, .int fu, .int fd, .int fi, .int 3, .int 1, .int nf, .int 0, .int 0, .ref m10, .int ts, .int 0, .int fs, .int ln, .int 0, .int (-1), .ref m11, .ref m12, .ref m13, .ref m14, .int wr])), aJ G m1 560 mw, aZ G m2 2 ik, aI G m3 20 zs, aI G m4 20 cl, aI G m5 20 hs, aI G m6 20 ks, aI G m7 20 wa, aI G m8 20 ne, aI G m9 4 fm9_2, aI G m10 400 tx, aI G m11 6 th, aI G m12 6 od, aI G m13 30 bk, aI G m14 30 bh] := hD
  refine lv_aload_n hx hb dX8_town_49 rfl (lv_at hl 0 rfl) ?_
  refine lv_iconst (v := 0) hx hb dX8_town_50 (by decide) ?_
  refine va_put (D := G.1) (ci := 8) (v := .int 0) (ty := .int) (C := RX8) (T := TX8) (N := 29) hx hb hts hinX8 tyX8 tyX8_ok nmX8 hown hKK.1 hP hD hS 0 rfl rfl 14 (by decide) kl140 (fun _ h9 => h9) rfl (by decide +kernel) rfl rfl (Nat.le_of_ble_eq_true rfl) dX8_town_51 (fun H locs hP hD hS => ?_)
  have hP : va_P G.1 vwCl [(m0, .inr (8, [.ref m1, .ref m2, .ref m3, .ref m4, .ref m5, .ref m6, .ref m7, .ref m8, .ref m9, .int fu, .int fd, .int fi, .int 3, .int 1, .int 0, .int 0, .int 0, .ref m10, .int ts, .int 0, .int fs, .int ln, .int 0, .int (-1), .ref m11, .ref m12, .ref m13, .ref m14, .int wr])), aJ G m1 560 mw, aZ G m2 2 ik, aI G m3 20 zs, aI G m4 20 cl, aI G m5 20 hs, aI G m6 20 ks, aI G m7 20 wa, aI G m8 20 ne, aI G m9 4 fm9_2, aI G m10 400 tx, aI G m11 6 th, aI G m12 6 od, aI G m13 30 bk, aI G m14 30 bh] H := hP
  have hD : va_D A [(m0, .inr (8, [.ref m1, .ref m2, .ref m3, .ref m4, .ref m5, .ref m6, .ref m7, .ref m8, .ref m9, .int fu, .int fd, .int fi, .int 3, .int 1, .int 0, .int 0, .int 0, .ref m10, .int ts, .int 0, .int fs, .int ln, .int 0, .int (-1), .ref m11, .ref m12, .ref m13, .ref m14, .int wr])), aJ G m1 560 mw, aZ G m2 2 ik, aI G m3 20 zs, aI G m4 20 cl, aI G m5 20 hs, aI G m6 20 ks, aI G m7 20 wa, aI G m8 20 ne, aI G m9 4 fm9_2, aI G m10 400 tx, aI G m11 6 th, aI G m12 6 od, aI G m13 30 bk, aI G m14 30 bh] := hD
  obtain ⟨I54_20, μ54_21, hi0, hs_109⟩ := hv
  have Lm_111 : ∀ (n_110 : Nat) (fm3_3 : (Nat → Int32)) (fm4_4 : (Nat → Int32)) (fm5_5 : (Nat → Int32)) (fm6_6 : (Nat → Int32)) (fm7_7 : (Nat → Int32)) (fm8_8 : (Nat → Int32)) (fm9_9 : (Nat → Int32)) (gm012_10 : Int32) (gm013_11 : Int32) (gm014_12 : Int32) (gm015_13 : Int32) (gm016_14 : Int32) (gm019_15 : Int32) (gm020_16 : Int32) (gm021_17 : Int32) (gm022_18 : Int32) (gm023_19 : Int32) (H : Heap) (locs : List Loc) (ls : Array Slot), μ54_21 fm3_3 fm4_4 fm5_5 fm6_6 fm7_7 fm8_8 fm9_9 gm012_10 gm013_11 gm014_12 gm015_13 gm016_14 gm019_15 gm020_16 gm021_17 gm022_18 gm023_19 < n_110 → I54_20 fm3_3 fm4_4 fm5_5 fm6_6 fm7_7 fm8_8 fm9_9 gm012_10 gm013_11 gm014_12 gm015_13 gm016_14 gm019_15 gm020_16 gm021_17 gm022_18 gm023_19 → va_P G.1 vwCl [(m0, .inr (8, [.ref m1, .ref m2, .ref m3, .ref m4, .ref m5, .ref m6, .ref m7, .ref m8, .ref m9, .int fu, .int fd, .int fi, .int gm012_10, .int gm013_11, .int gm014_12, .int gm015_13, .int gm016_14, .ref m10, .int ts, .int gm019_15, .int gm020_16, .int gm021_17, .int gm022_18, .int gm023_19, .ref m11, .ref m12, .ref m13, .ref m14, .int wr])), aJ G m1 560 mw, aZ G m2 2 ik, aI G m3 20 fm3_3, aI G m4 20 fm4_4, aI G m5 20 fm5_5, aI G m6 20 fm6_6, aI G m7 20 fm7_7, aI G m8 20 fm8_8, aI G m9 4 fm9_9, aI G m10 400 tx, aI G m11 6 th, aI G m12 6 od, aI G m13 30 bk, aI G m14 30 bh] H → va_D A [(m0, .inr (8, [.ref m1, .ref m2, .ref m3, .ref m4, .ref m5, .ref m6, .ref m7, .ref m8, .ref m9, .int fu, .int fd, .int fi, .int gm012_10, .int gm013_11, .int gm014_12, .int gm015_13, .int gm016_14, .ref m10, .int ts, .int gm019_15, .int gm020_16, .int gm021_17, .int gm022_18, .int gm023_19, .ref m11, .ref m12, .ref m13, .ref m14, .int wr])), aJ G m1 560 mw, aZ G m2 2 ik, aI G m3 20 fm3_3, aI G m4 20 fm4_4, aI G m5 20 fm5_5, aI G m6 20 fm6_6, aI G m7 20 fm7_7, aI G m8 20 fm8_8, aI G m9 4 fm9_9, aI G m10 400 tx, aI G m11 6 th, aI G m12 6 od, aI G m13 30 bk, aI G m14 30 bh] → va_S A s.heap H locs → lv_has ls 2 [(0, .ref m0)] → W p l e R s m args below meth c H locs 0 0 Q (F0 m 54 ls []) := by
    intro n_110
    induction n_110 with
    | zero => intro fm3_3 fm4_4 fm5_5 fm6_6 fm7_7 fm8_8 fm9_9 gm012_10 gm013_11 gm014_12 gm015_13 gm016_14 gm019_15 gm020_16 gm021_17 gm022_18 gm023_19 H locs ls hm; exact absurd hm (Nat.not_lt_zero _)
    | succ n_110 ih_22 =>
      intro fm3_3 fm4_4 fm5_5 fm6_6 fm7_7 fm8_8 fm9_9 gm012_10 gm013_11 gm014_12 gm015_13 gm016_14 gm019_15 gm020_16 gm021_17 gm022_18 gm023_19 H locs ls hI_23 hi hP hD hS hl
      have hv := hs_109 fm3_3 fm4_4 fm5_5 fm6_6 fm7_7 fm8_8 fm9_9 gm012_10 gm013_11 gm014_12 gm015_13 gm016_14 gm019_15 gm020_16 gm021_17 gm022_18 gm023_19 hi
      refine lv_aload_n hx hb dX8_town_54 rfl (lv_at hl 0 rfl) ?_
      refine va_get (D := G.1) (ci := 8) (v := .int gm022_18) (C := RX8) (T := TX8) (N := 29) hx hb hts hinX8 hown hKK.1 hP 0 rfl rfl 22 (by decide) kl83 (fun _ h9 => h9) rfl dX8_town_55 ?_
      refine lv_if_ne (tgt := 75) hx hb dX8_town_58 (by decide) (fun hc_24 => ?_) (fun hc_24 => ?_)
      · have hv := hv.1 hc_24
        refine lv_aload_n hx hb dX8_town_75 rfl (lv_at hl 0 rfl) ?_
        refine lv_iconst (v := 0) hx hb dX8_town_76 (by decide) ?_
        refine va_put (D := G.1) (ci := 8) (v := .int 0) (ty := .int) (C := RX8) (T := TX8) (N := 29) hx hb hts hinX8 tyX8 tyX8_ok nmX8 hown hKK.1 hP hD hS 0 rfl rfl 18 (by decide) kl74 (fun _ h9 => h9) rfl (by decide +kernel) rfl rfl (Nat.le_of_ble_eq_true rfl) dX8_town_77 (fun H locs hP hD hS => ?_)
        have hP : va_P G.1 vwCl [(m0, .inr (8, [.ref m1, .ref m2, .ref m3, .ref m4, .ref m5, .ref m6, .ref m7, .ref m8, .ref m9, .int fu, .int fd, .int fi, .int gm012_10, .int gm013_11, .int gm014_12, .int gm015_13, .int gm016_14, .ref m10, .int 0, .int gm019_15, .int gm020_16, .int gm021_17, .int gm022_18, .int gm023_19, .ref m11, .ref m12, .ref m13, .ref m14, .int wr])), aJ G m1 560 mw, aZ G m2 2 ik, aI G m3 20 fm3_3, aI G m4 20 fm4_4, aI G m5 20 fm5_5, aI G m6 20 fm6_6, aI G m7 20 fm7_7, aI G m8 20 fm8_8, aI G m9 4 fm9_9, aI G m10 400 tx, aI G m11 6 th, aI G m12 6 od, aI G m13 30 bk, aI G m14 30 bh] H := hP
        have hD : va_D A [(m0, .inr (8, [.ref m1, .ref m2, .ref m3, .ref m4, .ref m5, .ref m6, .ref m7, .ref m8, .ref m9, .int fu, .int fd, .int fi, .int gm012_10, .int gm013_11, .int gm014_12, .int gm015_13, .int gm016_14, .ref m10, .int 0, .int gm019_15, .int gm020_16, .int gm021_17, .int gm022_18, .int gm023_19, .ref m11, .ref m12, .ref m13, .ref m14, .int wr])), aJ G m1 560 mw, aZ G m2 2 ik, aI G m3 20 fm3_3, aI G m4 20 fm4_4, aI G m5 20 fm5_5, aI G m6 20 fm6_6, aI G m7 20 fm7_7, aI G m8 20 fm8_8, aI G m9 4 fm9_9, aI G m10 400 tx, aI G m11 6 th, aI G m12 6 od, aI G m13 30 bk, aI G m14 30 bh] := hD
        refine lv_aload_n hx hb dX8_town_80 rfl (lv_at hl 0 rfl) ?_
        refine va_get (D := G.1) (ci := 8) (v := .int gm022_18) (C := RX8) (T := TX8) (N := 29) hx hb hts hinX8 hown hKK.1 hP 0 rfl rfl 22 (by decide) kl83 (fun _ h9 => h9) rfl dX8_town_81 ?_
        refine lv_if_le (tgt := 95) hx hb dX8_town_84 (by decide) (fun hc_25 => ?_) (fun hc_25 => ?_)
        · have hv := hv.1 hc_25
          refine lv_aload_n hx hb dX8_town_95 rfl (lv_at hl 0 rfl) ?_
          refine va_get (D := G.1) (ci := 8) (v := .ref m9) (C := RX8) (T := TX8) (N := 29) hx hb hts hinX8 hown hKK.1 hP 0 rfl rfl 8 (by decide) kl36 (fun _ h9 => h9) rfl dX8_town_96 ?_
          refine lv_iconst (v := 0) hx hb dX8_town_99 (by decide) ?_
          refine lv_aload_n hx hb dX8_town_100 rfl (lv_at hl 0 rfl) ?_
          refine va_get (D := G.1) (ci := 8) (v := .ref m9) (C := RX8) (T := TX8) (N := 29) hx hb hts hinX8 hown hKK.1 hP 0 rfl rfl 8 (by decide) kl36 (fun _ h9 => h9) rfl dX8_town_101 ?_
          refine lv_iconst (v := 2) hx hb dX8_town_104 (by decide) ?_
          refine va_iald hx hb hKK.1 hP 9 0 rfl rfl (by unfold vp_in; decide) dX8_town_105 ?_
          refine va_iast hx hb hKK.1 hP hD hS 9 0 rfl rfl (by unfold vp_in; decide) dX8_town_106 (fun H locs hP hD hS => ?_)
          obtain ⟨fm9_26, ef⟩ : ∃ z9_, z9_ = (upd fm9_9 0 (fm9_9 2)) := ⟨_, rfl⟩
          have hP : va_P G.1 vwCl [(m0, .inr (8, [.ref m1, .ref m2, .ref m3, .ref m4, .ref m5, .ref m6, .ref m7, .ref m8, .ref m9, .int fu, .int fd, .int fi, .int gm012_10, .int gm013_11, .int gm014_12, .int gm015_13, .int gm016_14, .ref m10, .int 0, .int gm019_15, .int gm020_16, .int gm021_17, .int gm022_18, .int gm023_19, .ref m11, .ref m12, .ref m13, .ref m14, .int wr])), aJ G m1 560 mw, aZ G m2 2 ik, aI G m3 20 fm3_3, aI G m4 20 fm4_4, aI G m5 20 fm5_5, aI G m6 20 fm6_6, aI G m7 20 fm7_7, aI G m8 20 fm8_8, aI G m9 4 fm9_26, aI G m10 400 tx, aI G m11 6 th, aI G m12 6 od, aI G m13 30 bk, aI G m14 30 bh] H := by rw [ef]; exact hP
          have hD : va_D A [(m0, .inr (8, [.ref m1, .ref m2, .ref m3, .ref m4, .ref m5, .ref m6, .ref m7, .ref m8, .ref m9, .int fu, .int fd, .int fi, .int gm012_10, .int gm013_11, .int gm014_12, .int gm015_13, .int gm016_14, .ref m10, .int 0, .int gm019_15, .int gm020_16, .int gm021_17, .int gm022_18, .int gm023_19, .ref m11, .ref m12, .ref m13, .ref m14, .int wr])), aJ G m1 560 mw, aZ G m2 2 ik, aI G m3 20 fm3_3, aI G m4 20 fm4_4, aI G m5 20 fm5_5, aI G m6 20 fm6_6, aI G m7 20 fm7_7, aI G m8 20 fm8_8, aI G m9 4 fm9_26, aI G m10 400 tx, aI G m11 6 th, aI G m12 6 od, aI G m13 30 bk, aI G m14 30 bh] := by rw [ef]; exact hD
          have hv := hv fm9_26 ef
          refine lv_aload_n hx hb dX8_town_107 rfl (lv_at hl 0 rfl) ?_
          refine va_get (D := G.1) (ci := 8) (v := .ref m9) (C := RX8) (T := TX8) (N := 29) hx hb hts hinX8 hown hKK.1 hP 0 rfl rfl 8 (by decide) kl36 (fun _ h9 => h9) rfl dX8_town_108 ?_
          refine lv_iconst (v := 1) hx hb dX8_town_111 (by decide) ?_
          refine lv_aload_n hx hb dX8_town_112 rfl (lv_at hl 0 rfl) ?_
          refine va_get (D := G.1) (ci := 8) (v := .ref m9) (C := RX8) (T := TX8) (N := 29) hx hb hts hinX8 hown hKK.1 hP 0 rfl rfl 8 (by decide) kl36 (fun _ h9 => h9) rfl dX8_town_113 ?_
          refine lv_iconst (v := 3) hx hb dX8_town_116 (by decide) ?_
          refine va_iald hx hb hKK.1 hP 9 0 rfl rfl (by unfold vp_in; decide) dX8_town_117 ?_
          refine va_iast hx hb hKK.1 hP hD hS 9 0 rfl rfl (by unfold vp_in; decide) dX8_town_118 (fun H locs hP hD hS => ?_)
          obtain ⟨fm9_27, ef⟩ : ∃ z9_, z9_ = (upd fm9_26 1 (fm9_26 3)) := ⟨_, rfl⟩
          have hP : va_P G.1 vwCl [(m0, .inr (8, [.ref m1, .ref m2, .ref m3, .ref m4, .ref m5, .ref m6, .ref m7, .ref m8, .ref m9, .int fu, .int fd, .int fi, .int gm012_10, .int gm013_11, .int gm014_12, .int gm015_13, .int gm016_14, .ref m10, .int 0, .int gm019_15, .int gm020_16, .int gm021_17, .int gm022_18, .int gm023_19, .ref m11, .ref m12, .ref m13, .ref m14, .int wr])), aJ G m1 560 mw, aZ G m2 2 ik, aI G m3 20 fm3_3, aI G m4 20 fm4_4, aI G m5 20 fm5_5, aI G m6 20 fm6_6, aI G m7 20 fm7_7, aI G m8 20 fm8_8, aI G m9 4 fm9_27, aI G m10 400 tx, aI G m11 6 th, aI G m12 6 od, aI G m13 30 bk, aI G m14 30 bh] H := by rw [ef]; exact hP
          have hD : va_D A [(m0, .inr (8, [.ref m1, .ref m2, .ref m3, .ref m4, .ref m5, .ref m6, .ref m7, .ref m8, .ref m9, .int fu, .int fd, .int fi, .int gm012_10, .int gm013_11, .int gm014_12, .int gm015_13, .int gm016_14, .ref m10, .int 0, .int gm019_15, .int gm020_16, .int gm021_17, .int gm022_18, .int gm023_19, .ref m11, .ref m12, .ref m13, .ref m14, .int wr])), aJ G m1 560 mw, aZ G m2 2 ik, aI G m3 20 fm3_3, aI G m4 20 fm4_4, aI G m5 20 fm5_5, aI G m6 20 fm6_6, aI G m7 20 fm7_7, aI G m8 20 fm8_8, aI G m9 4 fm9_27, aI G m10 400 tx, aI G m11 6 th, aI G m12 6 od, aI G m13 30 bk, aI G m14 30 bh] := by rw [ef]; exact hD
          have hv := hv fm9_27 ef
          refine lv_aload_n hx hb dX8_town_119 rfl (lv_at hl 0 rfl) ?_
          refine lv_aload_n hx hb dX8_town_120 rfl (lv_at hl 0 rfl) ?_
          refine va_get (D := G.1) (ci := 8) (v := .int gm012_10) (C := RX8) (T := TX8) (N := 29) hx hb hts hinX8 hown hKK.1 hP 0 rfl rfl 12 (by decide) kl131 (fun _ h9 => h9) rfl dX8_town_121 ?_
          refine va_put (D := G.1) (ci := 8) (v := .int gm012_10) (ty := .int) (C := RX8) (T := TX8) (N := 29) hx hb hts hinX8 tyX8 tyX8_ok nmX8 hown hKK.1 hP hD hS 0 rfl rfl 9 (by decide) kl39 (fun _ h9 => h9) rfl (by decide +kernel) rfl rfl (Nat.le_of_ble_eq_true rfl) dX8_town_124 (fun H locs hP hD hS => ?_)
          have hP : va_P G.1 vwCl [(m0, .inr (8, [.ref m1, .ref m2, .ref m3, .ref m4, .ref m5, .ref m6, .ref m7, .ref m8, .ref m9, .int gm012_10, .int fd, .int fi, .int gm012_10, .int gm013_11, .int gm014_12, .int gm015_13, .int gm016_14, .ref m10, .int 0, .int gm019_15, .int gm020_16, .int gm021_17, .int gm022_18, .int gm023_19, .ref m11, .ref m12, .ref m13, .ref m14, .int wr])), aJ G m1 560 mw, aZ G m2 2 ik, aI G m3 20 fm3_3, aI G m4 20 fm4_4, aI G m5 20 fm5_5, aI G m6 20 fm6_6, aI G m7 20 fm7_7, aI G m8 20 fm8_8, aI G m9 4 fm9_27, aI G m10 400 tx, aI G m11 6 th, aI G m12 6 od, aI G m13 30 bk, aI G m14 30 bh] H := hP
          have hD : va_D A [(m0, .inr (8, [.ref m1, .ref m2, .ref m3, .ref m4, .ref m5, .ref m6, .ref m7, .ref m8, .ref m9, .int gm012_10, .int fd, .int fi, .int gm012_10, .int gm013_11, .int gm014_12, .int gm015_13, .int gm016_14, .ref m10, .int 0, .int gm019_15, .int gm020_16, .int gm021_17, .int gm022_18, .int gm023_19, .ref m11, .ref m12, .ref m13, .ref m14, .int wr])), aJ G m1 560 mw, aZ G m2 2 ik, aI G m3 20 fm3_3, aI G m4 20 fm4_4, aI G m5 20 fm5_5, aI G m6 20 fm6_6, aI G m7 20 fm7_7, aI G m8 20 fm8_8, aI G m9 4 fm9_27, aI G m10 400 tx, aI G m11 6 th, aI G m12 6 od, aI G m13 30 bk, aI G m14 30 bh] := hD
          refine lv_aload_n hx hb dX8_town_127 rfl (lv_at hl 0 rfl) ?_
          refine lv_aload_n hx hb dX8_town_128 rfl (lv_at hl 0 rfl) ?_
          refine va_get (D := G.1) (ci := 8) (v := .int gm013_11) (C := RX8) (T := TX8) (N := 29) hx hb hts hinX8 hown hKK.1 hP 0 rfl rfl 13 (by decide) kl134 (fun _ h9 => h9) rfl dX8_town_129 ?_
          refine va_put (D := G.1) (ci := 8) (v := .int gm013_11) (ty := .int) (C := RX8) (T := TX8) (N := 29) hx hb hts hinX8 tyX8 tyX8_ok nmX8 hown hKK.1 hP hD hS 0 rfl rfl 10 (by decide) kl43 (fun _ h9 => h9) rfl (by decide +kernel) rfl rfl (Nat.le_of_ble_eq_true rfl) dX8_town_132 (fun H locs hP hD hS => ?_)
          have hP : va_P G.1 vwCl [(m0, .inr (8, [.ref m1, .ref m2, .ref m3, .ref m4, .ref m5, .ref m6, .ref m7, .ref m8, .ref m9, .int gm012_10, .int gm013_11, .int fi, .int gm012_10, .int gm013_11, .int gm014_12, .int gm015_13, .int gm016_14, .ref m10, .int 0, .int gm019_15, .int gm020_16, .int gm021_17, .int gm022_18, .int gm023_19, .ref m11, .ref m12, .ref m13, .ref m14, .int wr])), aJ G m1 560 mw, aZ G m2 2 ik, aI G m3 20 fm3_3, aI G m4 20 fm4_4, aI G m5 20 fm5_5, aI G m6 20 fm6_6, aI G m7 20 fm7_7, aI G m8 20 fm8_8, aI G m9 4 fm9_27, aI G m10 400 tx, aI G m11 6 th, aI G m12 6 od, aI G m13 30 bk, aI G m14 30 bh] H := hP
          have hD : va_D A [(m0, .inr (8, [.ref m1, .ref m2, .ref m3, .ref m4, .ref m5, .ref m6, .ref m7, .ref m8, .ref m9, .int gm012_10, .int gm013_11, .int fi, .int gm012_10, .int gm013_11, .int gm014_12, .int gm015_13, .int gm016_14, .ref m10, .int 0, .int gm019_15, .int gm020_16, .int gm021_17, .int gm022_18, .int gm023_19, .ref m11, .ref m12, .ref m13, .ref m14, .int wr])), aJ G m1 560 mw, aZ G m2 2 ik, aI G m3 20 fm3_3, aI G m4 20 fm4_4, aI G m5 20 fm5_5, aI G m6 20 fm6_6, aI G m7 20 fm7_7, aI G m8 20 fm8_8, aI G m9 4 fm9_27, aI G m10 400 tx, aI G m11 6 th, aI G m12 6 od, aI G m13 30 bk, aI G m14 30 bh] := hD
          refine lv_aload_n hx hb dX8_town_135 rfl (lv_at hl 0 rfl) ?_
          refine lv_aload_n hx hb dX8_town_136 rfl (lv_at hl 0 rfl) ?_
          refine va_get (D := G.1) (ci := 8) (v := .int gm014_12) (C := RX8) (T := TX8) (N := 29) hx hb hts hinX8 hown hKK.1 hP 0 rfl rfl 14 (by decide) kl140 (fun _ h9 => h9) rfl dX8_town_137 ?_
          refine va_put (D := G.1) (ci := 8) (v := .int gm014_12) (ty := .int) (C := RX8) (T := TX8) (N := 29) hx hb hts hinX8 tyX8 tyX8_ok nmX8 hown hKK.1 hP hD hS 0 rfl rfl 11 (by decide) kl146 (fun _ h9 => h9) rfl (by decide +kernel) rfl rfl (Nat.le_of_ble_eq_true rfl) dX8_town_140 (fun H locs hP hD hS => ?_)
          have hP : va_P G.1 vwCl [(m0, .inr (8, [.ref m1, .ref m2, .ref m3, .ref m4, .ref m5, .ref m6, .ref m7, .ref m8, .ref m9, .int gm012_10, .int gm013_11, .int gm014_12, .int gm012_10, .int gm013_11, .int gm014_12, .int gm015_13, .int gm016_14, .ref m10, .int 0, .int gm019_15, .int gm020_16, .int gm021_17, .int gm022_18, .int gm023_19, .ref m11, .ref m12, .ref m13, .ref m14, .int wr])), aJ G m1 560 mw, aZ G m2 2 ik, aI G m3 20 fm3_3, aI G m4 20 fm4_4, aI G m5 20 fm5_5, aI G m6 20 fm6_6, aI G m7 20 fm7_7, aI G m8 20 fm8_8, aI G m9 4 fm9_27, aI G m10 400 tx, aI G m11 6 th, aI G m12 6 od, aI G m13 30 bk, aI G m14 30 bh] H := hP
          have hD : va_D A [(m0, .inr (8, [.ref m1, .ref m2, .ref m3, .ref m4, .ref m5, .ref m6, .ref m7, .ref m8, .ref m9, .int gm012_10, .int gm013_11, .int gm014_12, .int gm012_10, .int gm013_11, .int gm014_12, .int gm015_13, .int gm016_14, .ref m10, .int 0, .int gm019_15, .int gm020_16, .int gm021_17, .int gm022_18, .int gm023_19, .ref m11, .ref m12, .ref m13, .ref m14, .int wr])), aJ G m1 560 mw, aZ G m2 2 ik, aI G m3 20 fm3_3, aI G m4 20 fm4_4, aI G m5 20 fm5_5, aI G m6 20 fm6_6, aI G m7 20 fm7_7, aI G m8 20 fm8_8, aI G m9 4 fm9_27, aI G m10 400 tx, aI G m11 6 th, aI G m12 6 od, aI G m13 30 bk, aI G m14 30 bh] := hD
          refine lv_iconst (v := 0) hx hb dX8_town_143 (by decide) ?_
          refine lv_istore_n (lv' := [(1, .int 0), (0, .ref m0)]) hx hb dX8_town_144 rfl hl (by decide) rfl (fun ls hl => ?_)
          obtain ⟨I145_35, μ145_36, hi0, hs_50⟩ := hv
          have Lm_52 : ∀ (n_51 : Nat) (fm3_28 : (Nat → Int32)) (fm4_29 : (Nat → Int32)) (fm5_30 : (Nat → Int32)) (fm6_31 : (Nat → Int32)) (fm7_32 : (Nat → Int32)) (fm8_33 : (Nat → Int32)) (x1_34 : Int32) (H : Heap) (locs : List Loc) (ls : Array Slot), μ145_36 fm3_28 fm4_29 fm5_30 fm6_31 fm7_32 fm8_33 x1_34 < n_51 → I145_35 fm3_28 fm4_29 fm5_30 fm6_31 fm7_32 fm8_33 x1_34 → va_P G.1 vwCl [(m0, .inr (8, [.ref m1, .ref m2, .ref m3, .ref m4, .ref m5, .ref m6, .ref m7, .ref m8, .ref m9, .int gm012_10, .int gm013_11, .int gm014_12, .int gm012_10, .int gm013_11, .int gm014_12, .int gm015_13, .int gm016_14, .ref m10, .int 0, .int gm019_15, .int gm020_16, .int gm021_17, .int gm022_18, .int gm023_19, .ref m11, .ref m12, .ref m13, .ref m14, .int wr])), aJ G m1 560 mw, aZ G m2 2 ik, aI G m3 20 fm3_28, aI G m4 20 fm4_29, aI G m5 20 fm5_30, aI G m6 20 fm6_31, aI G m7 20 fm7_32, aI G m8 20 fm8_33, aI G m9 4 fm9_27, aI G m10 400 tx, aI G m11 6 th, aI G m12 6 od, aI G m13 30 bk, aI G m14 30 bh] H → va_D A [(m0, .inr (8, [.ref m1, .ref m2, .ref m3, .ref m4, .ref m5, .ref m6, .ref m7, .ref m8, .ref m9, .int gm012_10, .int gm013_11, .int gm014_12, .int gm012_10, .int gm013_11, .int gm014_12, .int gm015_13, .int gm016_14, .ref m10, .int 0, .int gm019_15, .int gm020_16, .int gm021_17, .int gm022_18, .int gm023_19, .ref m11, .ref m12, .ref m13, .ref m14, .int wr])), aJ G m1 560 mw, aZ G m2 2 ik, aI G m3 20 fm3_28, aI G m4 20 fm4_29, aI G m5 20 fm5_30, aI G m6 20 fm6_31, aI G m7 20 fm7_32, aI G m8 20 fm8_33, aI G m9 4 fm9_27, aI G m10 400 tx, aI G m11 6 th, aI G m12 6 od, aI G m13 30 bk, aI G m14 30 bh] → va_S A s.heap H locs → lv_has ls 2 [(1, .int x1_34), (0, .ref m0)] → W p l e R s m args below meth c H locs 0 0 Q (F0 m 145 ls []) := by
            intro n_51
            induction n_51 with
            | zero => intro fm3_28 fm4_29 fm5_30 fm6_31 fm7_32 fm8_33 x1_34 H locs ls hm; exact absurd hm (Nat.not_lt_zero _)
            | succ n_51 ih_37 =>
              intro fm3_28 fm4_29 fm5_30 fm6_31 fm7_32 fm8_33 x1_34 H locs ls hI_38 hi hP hD hS hl
              have hv := hs_50 fm3_28 fm4_29 fm5_30 fm6_31 fm7_32 fm8_33 x1_34 hi
              refine lv_iload_n hx hb dX8_town_145 rfl (lv_at hl 0 rfl) ?_
              refine lv_bipush (v := 10) hx hb dX8_town_146 (by decide) ?_
              refine lv_icmp_ge (tgt := 247) hx hb dX8_town_148 (by decide) (fun hc_39 => ?_) (fun hc_39 => ?_)
              · have hv := hv.1 hc_39
                refine lv_aload_n hx hb dX8_town_247 rfl (lv_at hl 1 rfl) ?_
                refine x_callv (wr := []) (w' := fun (u : (Nat → Int64)) => [(m0, .inr (8, [.ref m1, .ref m2, .ref m3, .ref m4, .ref m5, .ref m6, .ref m7, .ref m8, .ref m9, .int gm012_10, .int gm013_11, .int gm014_12, .int gm012_10, .int gm013_11, .int gm014_12, .int gm015_13, .int gm016_14, .ref m10, .int 0, .int gm019_15, .int gm020_16, .int gm021_17, .int gm022_18, .int gm023_19, .ref m11, .ref m12, .ref m13, .ref m14, .int wr])), aJ G m1 560 u, aZ G m2 2 ik, aI G m3 20 fm3_28, aI G m4 20 fm4_29, aI G m5 20 fm5_30, aI G m6 20 fm6_31, aI G m7 20 fm7_32, aI G m8 20 fm8_33, aI G m9 4 fm9_27, aI G m10 400 tx, aI G m11 6 th, aI G m12 6 od, aI G m13 30 bk, aI G m14 30 bh]) (x_runV (As := []) (rest := []) (n := 0) (C := RX8) (ci := 8) ⟨hx, hb, hml, hown, hts⟩ (k_X8_begin l G m0 m1 m2 m3 m4 m5 m6 m7 m8 m9 m10 m11 m12 m13 m14 _ mw ik fm3_28 fm4_29 fm5_30 fm6_31 fm7_32 fm8_33 fm9_27 tx th od bk bh gm012_10 gm013_11 gm014_12 gm012_10 gm013_11 gm014_12 gm015_13 gm016_14 0 gm019_15 gm020_16 gm021_17 gm022_18 gm023_19 wr) gX8_town_X8_begin rfl (by decide +kernel) ⟨Nat.le_trans (Nat.le_of_ble_eq_true rfl) hRf, Nat.le_trans (Nat.le_of_ble_eq_true rfl) hRl⟩ hKK hSS hS hA hP hD [0, 1, 2, 3, 4, 5, 6, 7, 8, 9, 10, 11, 12, 13, 14] (by decide) rfl rfl rfl 0 rfl rfl hl.1 rfl (Nat.le_of_ble_eq_true rfl) dX8_town_248) hP hD hS hA [0, 1, 2, 3, 4, 5, 6, 7, 8, 9, 10, 11, 12, 13, 14] [] [0, 1, 2, 3, 4, 5, 6, 7, 8, 9, 10, 11, 12, 13, 14] rfl rfl (by decide) (by decide) (by decide) (fun _ => rfl) (fun  u H locs hw hP hD hS => ?_)
                obtain ⟨mw2_41, rfl⟩ : ∃ z9_, z9_ = u := ⟨_, rfl⟩
                have hP : va_P G.1 vwCl [(m0, .inr (8, [.ref m1, .ref m2, .ref m3, .ref m4, .ref m5, .ref m6, .ref m7, .ref m8, .ref m9, .int gm012_10, .int gm013_11, .int gm014_12, .int gm012_10, .int gm013_11, .int gm014_12, .int gm015_13, .int gm016_14, .ref m10, .int 0, .int gm019_15, .int gm020_16, .int gm021_17, .int gm022_18, .int gm023_19, .ref m11, .ref m12, .ref m13, .ref m14, .int wr])), aJ G m1 560 mw2_41, aZ G m2 2 ik, aI G m3 20 fm3_28, aI G m4 20 fm4_29, aI G m5 20 fm5_30, aI G m6 20 fm6_31, aI G m7 20 fm7_32, aI G m8 20 fm8_33, aI G m9 4 fm9_27, aI G m10 400 tx, aI G m11 6 th, aI G m12 6 od, aI G m13 30 bk, aI G m14 30 bh] H := hP
                have hD : va_D A [(m0, .inr (8, [.ref m1, .ref m2, .ref m3, .ref m4, .ref m5, .ref m6, .ref m7, .ref m8, .ref m9, .int gm012_10, .int gm013_11, .int gm014_12, .int gm012_10, .int gm013_11, .int gm014_12, .int gm015_13, .int gm016_14, .ref m10, .int 0, .int gm019_15, .int gm020_16, .int gm021_17, .int gm022_18, .int gm023_19, .ref m11, .ref m12, .ref m13, .ref m14, .int wr])), aJ G m1 560 mw2_41, aZ G m2 2 ik, aI G m3 20 fm3_28, aI G m4 20 fm4_29, aI G m5 20 fm5_30, aI G m6 20 fm6_31, aI G m7 20 fm7_32, aI G m8 20 fm8_33, aI G m9 4 fm9_27, aI G m10 400 tx, aI G m11 6 th, aI G m12 6 od, aI G m13 30 bk, aI G m14 30 bh] := hD
                have hv := hv mw2_41 hw
                refine lv_aload_n hx hb dX8_town_251 rfl (lv_at hl 1 rfl) ?_
                refine lv_iconst (v := 0) hx hb dX8_town_252 (by decide) ?_
                refine va_put (D := G.1) (ci := 8) (v := .int 0) (ty := .int) (C := RX8) (T := TX8) (N := 29) hx hb hts hinX8 tyX8 tyX8_ok nmX8 hown hKK.1 hP hD hS 0 rfl rfl 28 (by decide) kl149 (fun _ h9 => h9) rfl (by decide +kernel) rfl rfl (Nat.le_of_ble_eq_true rfl) dX8_town_253 (fun H locs hP hD hS => ?_)
                have hP : va_P G.1 vwCl [(m0, .inr (8, [.ref m1, .ref m2, .ref m3, .ref m4, .ref m5, .ref m6, .ref m7, .ref m8, .ref m9, .int gm012_10, .int gm013_11, .int gm014_12, .int gm012_10, .int gm013_11, .int gm014_12, .int gm015_13, .int gm016_14, .ref m10, .int 0, .int gm019_15, .int gm020_16, .int gm021_17, .int gm022_18, .int gm023_19, .ref m11, .ref m12, .ref m13, .ref m14, .int 0])), aJ G m1 560 mw2_41, aZ G m2 2 ik, aI G m3 20 fm3_28, aI G m4 20 fm4_29, aI G m5 20 fm5_30, aI G m6 20 fm6_31, aI G m7 20 fm7_32, aI G m8 20 fm8_33, aI G m9 4 fm9_27, aI G m10 400 tx, aI G m11 6 th, aI G m12 6 od, aI G m13 30 bk, aI G m14 30 bh] H := hP
                have hD : va_D A [(m0, .inr (8, [.ref m1, .ref m2, .ref m3, .ref m4, .ref m5, .ref m6, .ref m7, .ref m8, .ref m9, .int gm012_10, .int gm013_11, .int gm014_12, .int gm012_10, .int gm013_11, .int gm014_12, .int gm015_13, .int gm016_14, .ref m10, .int 0, .int gm019_15, .int gm020_16, .int gm021_17, .int gm022_18, .int gm023_19, .ref m11, .ref m12, .ref m13, .ref m14, .int 0])), aJ G m1 560 mw2_41, aZ G m2 2 ik, aI G m3 20 fm3_28, aI G m4 20 fm4_29, aI G m5 20 fm5_30, aI G m6 20 fm6_31, aI G m7 20 fm7_32, aI G m8 20 fm8_33, aI G m9 4 fm9_27, aI G m10 400 tx, aI G m11 6 th, aI G m12 6 od, aI G m13 30 bk, aI G m14 30 bh] := hD
                refine lv_aload_n hx hb dX8_town_256 rfl (lv_at hl 1 rfl) ?_
                refine va_get (D := G.1) (ci := 8) (v := .ref m2) (C := RX8) (T := TX8) (N := 29) hx hb hts hinX8 hown hKK.1 hP 0 rfl rfl 1 (by decide) kl13 (fun _ h9 => h9) rfl dX8_town_257 ?_
                refine lv_iconst (v := 0) hx hb dX8_town_260 (by decide) ?_
                refine lv_iconst (v := 0) hx hb dX8_town_261 (by decide) ?_
                refine va_zast hx hb hKK.1 hP hD hS 2 3 rfl rfl (by unfold vp_in; decide) dX8_town_262 (fun H locs hP hD hS => ?_)
                obtain ⟨fm2_42, ef⟩ : ∃ z9_, z9_ = (upd ik 0 (vp_nar .boolean 0)) := ⟨_, rfl⟩
                have hP : va_P G.1 vwCl [(m0, .inr (8, [.ref m1, .ref m2, .ref m3, .ref m4, .ref m5, .ref m6, .ref m7, .ref m8, .ref m9, .int gm012_10, .int gm013_11, .int gm014_12, .int gm012_10, .int gm013_11, .int gm014_12, .int gm015_13, .int gm016_14, .ref m10, .int 0, .int gm019_15, .int gm020_16, .int gm021_17, .int gm022_18, .int gm023_19, .ref m11, .ref m12, .ref m13, .ref m14, .int 0])), aJ G m1 560 mw2_41, aZ G m2 2 fm2_42, aI G m3 20 fm3_28, aI G m4 20 fm4_29, aI G m5 20 fm5_30, aI G m6 20 fm6_31, aI G m7 20 fm7_32, aI G m8 20 fm8_33, aI G m9 4 fm9_27, aI G m10 400 tx, aI G m11 6 th, aI G m12 6 od, aI G m13 30 bk, aI G m14 30 bh] H := by rw [ef]; exact hP
                have hD : va_D A [(m0, .inr (8, [.ref m1, .ref m2, .ref m3, .ref m4, .ref m5, .ref m6, .ref m7, .ref m8, .ref m9, .int gm012_10, .int gm013_11, .int gm014_12, .int gm012_10, .int gm013_11, .int gm014_12, .int gm015_13, .int gm016_14, .ref m10, .int 0, .int gm019_15, .int gm020_16, .int gm021_17, .int gm022_18, .int gm023_19, .ref m11, .ref m12, .ref m13, .ref m14, .int 0])), aJ G m1 560 mw2_41, aZ G m2 2 fm2_42, aI G m3 20 fm3_28, aI G m4 20 fm4_29, aI G m5 20 fm5_30, aI G m6 20 fm6_31, aI G m7 20 fm7_32, aI G m8 20 fm8_33, aI G m9 4 fm9_27, aI G m10 400 tx, aI G m11 6 th, aI G m12 6 od, aI G m13 30 bk, aI G m14 30 bh] := by rw [ef]; exact hD
                have hv := hv fm2_42 ef
                refine lv_aload_n hx hb dX8_town_263 rfl (lv_at hl 1 rfl) ?_
                refine va_get (D := G.1) (ci := 8) (v := .ref m2) (C := RX8) (T := TX8) (N := 29) hx hb hts hinX8 hown hKK.1 hP 0 rfl rfl 1 (by decide) kl13 (fun _ h9 => h9) rfl dX8_town_264 ?_
                refine lv_iconst (v := 1) hx hb dX8_town_267 (by decide) ?_
                refine lv_iconst (v := 0) hx hb dX8_town_268 (by decide) ?_
                refine va_zast hx hb hKK.1 hP hD hS 2 3 rfl rfl (by unfold vp_in; decide) dX8_town_269 (fun H locs hP hD hS => ?_)
                obtain ⟨fm2_43, ef⟩ : ∃ z9_, z9_ = (upd fm2_42 1 (vp_nar .boolean 0)) := ⟨_, rfl⟩
                have hP : va_P G.1 vwCl [(m0, .inr (8, [.ref m1, .ref m2, .ref m3, .ref m4, .ref m5, .ref m6, .ref m7, .ref m8, .ref m9, .int gm012_10, .int gm013_11, .int gm014_12, .int gm012_10, .int gm013_11, .int gm014_12, .int gm015_13, .int gm016_14, .ref m10, .int 0, .int gm019_15, .int gm020_16, .int gm021_17, .int gm022_18, .int gm023_19, .ref m11, .ref m12, .ref m13, .ref m14, .int 0])), aJ G m1 560 mw2_41, aZ G m2 2 fm2_43, aI G m3 20 fm3_28, aI G m4 20 fm4_29, aI G m5 20 fm5_30, aI G m6 20 fm6_31, aI G m7 20 fm7_32, aI G m8 20 fm8_33, aI G m9 4 fm9_27, aI G m10 400 tx, aI G m11 6 th, aI G m12 6 od, aI G m13 30 bk, aI G m14 30 bh] H := by rw [ef]; exact hP
                have hD : va_D A [(m0, .inr (8, [.ref m1, .ref m2, .ref m3, .ref m4, .ref m5, .ref m6, .ref m7, .ref m8, .ref m9, .int gm012_10, .int gm013_11, .int gm014_12, .int gm012_10, .int gm013_11, .int gm014_12, .int gm015_13, .int gm016_14, .ref m10, .int 0, .int gm019_15, .int gm020_16, .int gm021_17, .int gm022_18, .int gm023_19, .ref m11, .ref m12, .ref m13, .ref m14, .int 0])), aJ G m1 560 mw2_41, aZ G m2 2 fm2_43, aI G m3 20 fm3_28, aI G m4 20 fm4_29, aI G m5 20 fm5_30, aI G m6 20 fm6_31, aI G m7 20 fm7_32, aI G m8 20 fm8_33, aI G m9 4 fm9_27, aI G m10 400 tx, aI G m11 6 th, aI G m12 6 od, aI G m13 30 bk, aI G m14 30 bh] := by rw [ef]; exact hD
                have hv := hv fm2_43 ef
                refine lv_aload_n hx hb dX8_town_270 rfl (lv_at hl 1 rfl) ?_
                refine va_get (D := G.1) (ci := 8) (v := .ref m9) (C := RX8) (T := TX8) (N := 29) hx hb hts hinX8 hown hKK.1 hP 0 rfl rfl 8 (by decide) kl36 (fun _ h9 => h9) rfl dX8_town_271 ?_
                refine lv_iconst (v := 0) hx hb dX8_town_274 (by decide) ?_
                refine va_iald hx hb hKK.1 hP 9 0 rfl rfl (by unfold vp_in; decide) dX8_town_275 ?_
                exact x_iret (v := (fm9_27 0)) (mw2_41, fm2_43, fm3_28, fm4_29, fm5_30, fm6_31, fm7_32, fm8_33, fm9_27, gm012_10, gm013_11, gm014_12, gm012_10, gm013_11, gm014_12, gm015_13, gm016_14, 0, gm019_15, gm020_16, gm021_17, gm022_18, gm023_19, 0) hQ hx hb hr hlocks hS dX8_town_276 hv hP hD
              · have hv := hv.2 hc_39
                refine lv_aload_n hx hb dX8_town_151 rfl (lv_at hl 1 rfl) ?_
                refine va_get (D := G.1) (ci := 8) (v := .ref m3) (C := RX8) (T := TX8) (N := 29) hx hb hts hinX8 hown hKK.1 hP 0 rfl rfl 2 (by decide) kl17 (fun _ h9 => h9) rfl dX8_town_152 ?_
                refine lv_iload_n hx hb dX8_town_155 rfl (lv_at hl 0 rfl) ?_
                refine lv_aload_n hx hb dX8_town_156 rfl (lv_at hl 1 rfl) ?_
                refine va_get (D := G.1) (ci := 8) (v := .ref m3) (C := RX8) (T := TX8) (N := 29) hx hb hts hinX8 hown hKK.1 hP 0 rfl rfl 2 (by decide) kl17 (fun _ h9 => h9) rfl dX8_town_157 ?_
                refine lv_bipush (v := 10) hx hb dX8_town_160 (by decide) ?_
                refine lv_iload_n hx hb dX8_town_162 rfl (lv_at hl 0 rfl) ?_
                refine lv_iadd hx hb dX8_town_163 ?_
                obtain ⟨hin, hv⟩ := hv
                refine va_iald hx hb hKK.1 hP 3 0 rfl rfl hin dX8_town_164 ?_
                obtain ⟨hin, hv⟩ := hv
                refine va_iast hx hb hKK.1 hP hD hS 3 0 rfl rfl hin dX8_town_165 (fun H locs hP hD hS => ?_)
                obtain ⟨fm3_44, ef⟩ : ∃ z9_, z9_ = (upd fm3_28 x1_34.toNatClampNeg (fm3_28 (10 + x1_34).toNatClampNeg)) := ⟨_, rfl⟩
                have hP : va_P G.1 vwCl [(m0, .inr (8, [.ref m1, .ref m2, .ref m3, .ref m4, .ref m5, .ref m6, .ref m7, .ref m8, .ref m9, .int gm012_10, .int gm013_11, .int gm014_12, .int gm012_10, .int gm013_11, .int gm014_12, .int gm015_13, .int gm016_14, .ref m10, .int 0, .int gm019_15, .int gm020_16, .int gm021_17, .int gm022_18, .int gm023_19, .ref m11, .ref m12, .ref m13, .ref m14, .int wr])), aJ G m1 560 mw, aZ G m2 2 ik, aI G m3 20 fm3_44, aI G m4 20 fm4_29, aI G m5 20 fm5_30, aI G m6 20 fm6_31, aI G m7 20 fm7_32, aI G m8 20 fm8_33, aI G m9 4 fm9_27, aI G m10 400 tx, aI G m11 6 th, aI G m12 6 od, aI G m13 30 bk, aI G m14 30 bh] H := by rw [ef]; exact hP
                have hD : va_D A [(m0, .inr (8, [.ref m1, .ref m2, .ref m3, .ref m4, .ref m5, .ref m6, .ref m7, .ref m8, .ref m9, .int gm012_10, .int gm013_11, .int gm014_12, .int gm012_10, .int gm013_11, .int gm014_12, .int gm015_13, .int gm016_14, .ref m10, .int 0, .int gm019_15, .int gm020_16, .int gm021_17, .int gm022_18, .int gm023_19, .ref m11, .ref m12, .ref m13, .ref m14, .int wr])), aJ G m1 560 mw, aZ G m2 2 ik, aI G m3 20 fm3_44, aI G m4 20 fm4_29, aI G m5 20 fm5_30, aI G m6 20 fm6_31, aI G m7 20 fm7_32, aI G m8 20 fm8_33, aI G m9 4 fm9_27, aI G m10 400 tx, aI G m11 6 th, aI G m12 6 od, aI G m13 30 bk, aI G m14 30 bh] := by rw [ef]; exact hD
                have hv := hv fm3_44 ef
                refine lv_aload_n hx hb dX8_town_166 rfl (lv_at hl 1 rfl) ?_
                refine va_get (D := G.1) (ci := 8) (v := .ref m4) (C := RX8) (T := TX8) (N := 29) hx hb hts hinX8 hown hKK.1 hP 0 rfl rfl 3 (by decide) kl21 (fun _ h9 => h9) rfl dX8_town_167 ?_
                refine lv_iload_n hx hb dX8_town_170 rfl (lv_at hl 0 rfl) ?_
                refine lv_aload_n hx hb dX8_town_171 rfl (lv_at hl 1 rfl) ?_
                refine va_get (D := G.1) (ci := 8) (v := .ref m4) (C := RX8) (T := TX8) (N := 29) hx hb hts hinX8 hown hKK.1 hP 0 rfl rfl 3 (by decide) kl21 (fun _ h9 => h9) rfl dX8_town_172 ?_
                refine lv_bipush (v := 10) hx hb dX8_town_175 (by decide) ?_
                refine lv_iload_n hx hb dX8_town_177 rfl (lv_at hl 0 rfl) ?_
                refine lv_iadd hx hb dX8_town_178 ?_
                obtain ⟨hin, hv⟩ := hv
                refine va_iald hx hb hKK.1 hP 4 0 rfl rfl hin dX8_town_179 ?_
                obtain ⟨hin, hv⟩ := hv
                refine va_iast hx hb hKK.1 hP hD hS 4 0 rfl rfl hin dX8_town_180 (fun H locs hP hD hS => ?_)
                obtain ⟨fm4_45, ef⟩ : ∃ z9_, z9_ = (upd fm4_29 x1_34.toNatClampNeg (fm4_29 (10 + x1_34).toNatClampNeg)) := ⟨_, rfl⟩
                have hP : va_P G.1 vwCl [(m0, .inr (8, [.ref m1, .ref m2, .ref m3, .ref m4, .ref m5, .ref m6, .ref m7, .ref m8, .ref m9, .int gm012_10, .int gm013_11, .int gm014_12, .int gm012_10, .int gm013_11, .int gm014_12, .int gm015_13, .int gm016_14, .ref m10, .int 0, .int gm019_15, .int gm020_16, .int gm021_17, .int gm022_18, .int gm023_19, .ref m11, .ref m12, .ref m13, .ref m14, .int wr])), aJ G m1 560 mw, aZ G m2 2 ik, aI G m3 20 fm3_44, aI G m4 20 fm4_45, aI G m5 20 fm5_30, aI G m6 20 fm6_31, aI G m7 20 fm7_32, aI G m8 20 fm8_33, aI G m9 4 fm9_27, aI G m10 400 tx, aI G m11 6 th, aI G m12 6 od, aI G m13 30 bk, aI G m14 30 bh] H := by rw [ef]; exact hP
                have hD : va_D A [(m0, .inr (8, [.ref m1, .ref m2, .ref m3, .ref m4, .ref m5, .ref m6, .ref m7, .ref m8, .ref m9, .int gm012_10, .int gm013_11, .int gm014_12, .int gm012_10, .int gm013_11, .int gm014_12, .int gm015_13, .int gm016_14, .ref m10, .int 0, .int gm019_15, .int gm020_16, .int gm021_17, .int gm022_18, .int gm023_19, .ref m11, .ref m12, .ref m13, .ref m14, .int wr])), aJ G m1 560 mw, aZ G m2 2 ik, aI G m3 20 fm3_44, aI G m4 20 fm4_45, aI G m5 20 fm5_30, aI G m6 20 fm6_31, aI G m7 20 fm7_32, aI G m8 20 fm8_33, aI G m9 4 fm9_27, aI G m10 400 tx, aI G m11 6 th, aI G m12 6 od, aI G m13 30 bk, aI G m14 30 bh] := by rw [ef]; exact hD
                have hv := hv fm4_45 ef
                refine lv_aload_n hx hb dX8_town_181 rfl (lv_at hl 1 rfl) ?_
                refine va_get (D := G.1) (ci := 8) (v := .ref m5) (C := RX8) (T := TX8) (N := 29) hx hb hts hinX8 hown hKK.1 hP 0 rfl rfl 4 (by decide) kl24 (fun _ h9 => h9) rfl dX8_town_182 ?_
                refine lv_iload_n hx hb dX8_town_185 rfl (lv_at hl 0 rfl) ?_
                refine lv_aload_n hx hb dX8_town_186 rfl (lv_at hl 1 rfl) ?_
                refine va_get (D := G.1) (ci := 8) (v := .ref m5) (C := RX8) (T := TX8) (N := 29) hx hb hts hinX8 hown hKK.1 hP 0 rfl rfl 4 (by decide) kl24 (fun _ h9 => h9) rfl dX8_town_187 ?_
                refine lv_bipush (v := 10) hx hb dX8_town_190 (by decide) ?_
                refine lv_iload_n hx hb dX8_town_192 rfl (lv_at hl 0 rfl) ?_
                refine lv_iadd hx hb dX8_town_193 ?_
                obtain ⟨hin, hv⟩ := hv
                refine va_iald hx hb hKK.1 hP 5 0 rfl rfl hin dX8_town_194 ?_
                obtain ⟨hin, hv⟩ := hv
                refine va_iast hx hb hKK.1 hP hD hS 5 0 rfl rfl hin dX8_town_195 (fun H locs hP hD hS => ?_)
                obtain ⟨fm5_46, ef⟩ : ∃ z9_, z9_ = (upd fm5_30 x1_34.toNatClampNeg (fm5_30 (10 + x1_34).toNatClampNeg)) := ⟨_, rfl⟩
                have hP : va_P G.1 vwCl [(m0, .inr (8, [.ref m1, .ref m2, .ref m3, .ref m4, .ref m5, .ref m6, .ref m7, .ref m8, .ref m9, .int gm012_10, .int gm013_11, .int gm014_12, .int gm012_10, .int gm013_11, .int gm014_12, .int gm015_13, .int gm016_14, .ref m10, .int 0, .int gm019_15, .int gm020_16, .int gm021_17, .int gm022_18, .int gm023_19, .ref m11, .ref m12, .ref m13, .ref m14, .int wr])), aJ G m1 560 mw, aZ G m2 2 ik, aI G m3 20 fm3_44, aI G m4 20 fm4_45, aI G m5 20 fm5_46, aI G m6 20 fm6_31, aI G m7 20 fm7_32, aI G m8 20 fm8_33, aI G m9 4 fm9_27, aI G m10 400 tx, aI G m11 6 th, aI G m12 6 od, aI G m13 30 bk, aI G m14 30 bh] H := by rw [ef]; exact hP
                have hD : va_D A [(m0, .inr (8, [.ref m1, .ref m2, .ref m3, .ref m4, .ref m5, .ref m6, .ref m7, .ref m8, .ref m9, .int gm012_10, .int gm013_11, .int gm014_12, .int gm012_10, .int gm013_11, .int gm014_12, .int gm015_13, .int gm016_14, .ref m10, .int 0, .int gm019_15, .int gm020_16, .int gm021_17, .int gm022_18, .int gm023_19, .ref m11, .ref m12, .ref m13, .ref m14, .int wr])), aJ G m1 560 mw, aZ G m2 2 ik, aI G m3 20 fm3_44, aI G m4 20 fm4_45, aI G m5 20 fm5_46, aI G m6 20 fm6_31, aI G m7 20 fm7_32, aI G m8 20 fm8_33, aI G m9 4 fm9_27, aI G m10 400 tx, aI G m11 6 th, aI G m12 6 od, aI G m13 30 bk, aI G m14 30 bh] := by rw [ef]; exact hD
                have hv := hv fm5_46 ef
                refine lv_aload_n hx hb dX8_town_196 rfl (lv_at hl 1 rfl) ?_
                refine va_get (D := G.1) (ci := 8) (v := .ref m6) (C := RX8) (T := TX8) (N := 29) hx hb hts hinX8 hown hKK.1 hP 0 rfl rfl 5 (by decide) kl27 (fun _ h9 => h9) rfl dX8_town_197 ?_
                refine lv_iload_n hx hb dX8_town_200 rfl (lv_at hl 0 rfl) ?_
                refine lv_aload_n hx hb dX8_town_201 rfl (lv_at hl 1 rfl) ?_
                refine va_get (D := G.1) (ci := 8) (v := .ref m6) (C := RX8) (T := TX8) (N := 29) hx hb hts hinX8 hown hKK.1 hP 0 rfl rfl 5 (by decide) kl27 (fun _ h9 => h9) rfl dX8_town_202 ?_
                refine lv_bipush (v := 10) hx hb dX8_town_205 (by decide) ?_
                refine lv_iload_n hx hb dX8_town_207 rfl (lv_at hl 0 rfl) ?_
                refine lv_iadd hx hb dX8_town_208 ?_
                obtain ⟨hin, hv⟩ := hv
                refine va_iald hx hb hKK.1 hP 6 0 rfl rfl hin dX8_town_209 ?_
                obtain ⟨hin, hv⟩ := hv
                refine va_iast hx hb hKK.1 hP hD hS 6 0 rfl rfl hin dX8_town_210 (fun H locs hP hD hS => ?_)
                obtain ⟨fm6_47, ef⟩ : ∃ z9_, z9_ = (upd fm6_31 x1_34.toNatClampNeg (fm6_31 (10 + x1_34).toNatClampNeg)) := ⟨_, rfl⟩
                have hP : va_P G.1 vwCl [(m0, .inr (8, [.ref m1, .ref m2, .ref m3, .ref m4, .ref m5, .ref m6, .ref m7, .ref m8, .ref m9, .int gm012_10, .int gm013_11, .int gm014_12, .int gm012_10, .int gm013_11, .int gm014_12, .int gm015_13, .int gm016_14, .ref m10, .int 0, .int gm019_15, .int gm020_16, .int gm021_17, .int gm022_18, .int gm023_19, .ref m11, .ref m12, .ref m13, .ref m14, .int wr])), aJ G m1 560 mw, aZ G m2 2 ik, aI G m3 20 fm3_44, aI G m4 20 fm4_45, aI G m5 20 fm5_46, aI G m6 20 fm6_47, aI G m7 20 fm7_32, aI G m8 20 fm8_33, aI G m9 4 fm9_27, aI G m10 400 tx, aI G m11 6 th, aI G m12 6 od, aI G m13 30 bk, aI G m14 30 bh] H := by rw [ef]; exact hP
                have hD : va_D A [(m0, .inr (8, [.ref m1, .ref m2, .ref m3, .ref m4, .ref m5, .ref m6, .ref m7, .ref m8, .ref m9, .int gm012_10, .int gm013_11, .int gm014_12, .int gm012_10, .int gm013_11, .int gm014_12, .int gm015_13, .int gm016_14, .ref m10, .int 0, .int gm019_15, .int gm020_16, .int gm021_17, .int gm022_18, .int gm023_19, .ref m11, .ref m12, .ref m13, .ref m14, .int wr])), aJ G m1 560 mw, aZ G m2 2 ik, aI G m3 20 fm3_44, aI G m4 20 fm4_45, aI G m5 20 fm5_46, aI G m6 20 fm6_47, aI G m7 20 fm7_32, aI G m8 20 fm8_33, aI G m9 4 fm9_27, aI G m10 400 tx, aI G m11 6 th, aI G m12 6 od, aI G m13 30 bk, aI G m14 30 bh] := by rw [ef]; exact hD
                have hv := hv fm6_47 ef
                refine lv_aload_n hx hb dX8_town_211 rfl (lv_at hl 1 rfl) ?_
                refine va_get (D := G.1) (ci := 8) (v := .ref m7) (C := RX8) (T := TX8) (N := 29) hx hb hts hinX8 hown hKK.1 hP 0 rfl rfl 6 (by decide) kl30 (fun _ h9 => h9) rfl dX8_town_212 ?_
                refine lv_iload_n hx hb dX8_town_215 rfl (lv_at hl 0 rfl) ?_
                refine lv_aload_n hx hb dX8_town_216 rfl (lv_at hl 1 rfl) ?_
                refine va_get (D := G.1) (ci := 8) (v := .ref m7) (C := RX8) (T := TX8) (N := 29) hx hb hts hinX8 hown hKK.1 hP 0 rfl rfl 6 (by decide) kl30 (fun _ h9 => h9) rfl dX8_town_217 ?_
                refine lv_bipush (v := 10) hx hb dX8_town_220 (by decide) ?_
                refine lv_iload_n hx hb dX8_town_222 rfl (lv_at hl 0 rfl) ?_
                refine lv_iadd hx hb dX8_town_223 ?_
                obtain ⟨hin, hv⟩ := hv
                refine va_iald hx hb hKK.1 hP 7 0 rfl rfl hin dX8_town_224 ?_
                obtain ⟨hin, hv⟩ := hv
                refine va_iast hx hb hKK.1 hP hD hS 7 0 rfl rfl hin dX8_town_225 (fun H locs hP hD hS => ?_)
                obtain ⟨fm7_48, ef⟩ : ∃ z9_, z9_ = (upd fm7_32 x1_34.toNatClampNeg (fm7_32 (10 + x1_34).toNatClampNeg)) := ⟨_, rfl⟩
                have hP : va_P G.1 vwCl [(m0, .inr (8, [.ref m1, .ref m2, .ref m3, .ref m4, .ref m5, .ref m6, .ref m7, .ref m8, .ref m9, .int gm012_10, .int gm013_11, .int gm014_12, .int gm012_10, .int gm013_11, .int gm014_12, .int gm015_13, .int gm016_14, .ref m10, .int 0, .int gm019_15, .int gm020_16, .int gm021_17, .int gm022_18, .int gm023_19, .ref m11, .ref m12, .ref m13, .ref m14, .int wr])), aJ G m1 560 mw, aZ G m2 2 ik, aI G m3 20 fm3_44, aI G m4 20 fm4_45, aI G m5 20 fm5_46, aI G m6 20 fm6_47, aI G m7 20 fm7_48, aI G m8 20 fm8_33, aI G m9 4 fm9_27, aI G m10 400 tx, aI G m11 6 th, aI G m12 6 od, aI G m13 30 bk, aI G m14 30 bh] H := by rw [ef]; exact hP
                have hD : va_D A [(m0, .inr (8, [.ref m1, .ref m2, .ref m3, .ref m4, .ref m5, .ref m6, .ref m7, .ref m8, .ref m9, .int gm012_10, .int gm013_11, .int gm014_12, .int gm012_10, .int gm013_11, .int gm014_12, .int gm015_13, .int gm016_14, .ref m10, .int 0, .int gm019_15, .int gm020_16, .int gm021_17, .int gm022_18, .int gm023_19, .ref m11, .ref m12, .ref m13, .ref m14, .int wr])), aJ G m1 560 mw, aZ G m2 2 ik, aI G m3 20 fm3_44, aI G m4 20 fm4_45, aI G m5 20 fm5_46, aI G m6 20 fm6_47, aI G m7 20 fm7_48, aI G m8 20 fm8_33, aI G m9 4 fm9_27, aI G m10 400 tx, aI G m11 6 th, aI G m12 6 od, aI G m13 30 bk, aI G m14 30 bh] := by rw [ef]; exact hD
                have hv := hv fm7_48 ef
                refine lv_aload_n hx hb dX8_town_226 rfl (lv_at hl 1 rfl) ?_
                refine va_get (D := G.1) (ci := 8) (v := .ref m8) (C := RX8) (T := TX8) (N := 29) hx hb hts hinX8 hown hKK.1 hP 0 rfl rfl 7 (by decide) kl33 (fun _ h9 => h9) rfl dX8_town_227 ?_
                refine lv_iload_n hx hb dX8_town_230 rfl (lv_at hl 0 rfl) ?_
                refine lv_aload_n hx hb dX8_town_231 rfl (lv_at hl 1 rfl) ?_
                refine va_get (D := G.1) (ci := 8) (v := .ref m8) (C := RX8) (T := TX8) (N := 29) hx hb hts hinX8 hown hKK.1 hP 0 rfl rfl 7 (by decide) kl33 (fun _ h9 => h9) rfl dX8_town_232 ?_
                refine lv_bipush (v := 10) hx hb dX8_town_235 (by decide) ?_
                refine lv_iload_n hx hb dX8_town_237 rfl (lv_at hl 0 rfl) ?_
                refine lv_iadd hx hb dX8_town_238 ?_
                obtain ⟨hin, hv⟩ := hv
                refine va_iald hx hb hKK.1 hP 8 0 rfl rfl hin dX8_town_239 ?_
                obtain ⟨hin, hv⟩ := hv
                refine va_iast hx hb hKK.1 hP hD hS 8 0 rfl rfl hin dX8_town_240 (fun H locs hP hD hS => ?_)
                obtain ⟨fm8_49, ef⟩ : ∃ z9_, z9_ = (upd fm8_33 x1_34.toNatClampNeg (fm8_33 (10 + x1_34).toNatClampNeg)) := ⟨_, rfl⟩
                have hP : va_P G.1 vwCl [(m0, .inr (8, [.ref m1, .ref m2, .ref m3, .ref m4, .ref m5, .ref m6, .ref m7, .ref m8, .ref m9, .int gm012_10, .int gm013_11, .int gm014_12, .int gm012_10, .int gm013_11, .int gm014_12, .int gm015_13, .int gm016_14, .ref m10, .int 0, .int gm019_15, .int gm020_16, .int gm021_17, .int gm022_18, .int gm023_19, .ref m11, .ref m12, .ref m13, .ref m14, .int wr])), aJ G m1 560 mw, aZ G m2 2 ik, aI G m3 20 fm3_44, aI G m4 20 fm4_45, aI G m5 20 fm5_46, aI G m6 20 fm6_47, aI G m7 20 fm7_48, aI G m8 20 fm8_49, aI G m9 4 fm9_27, aI G m10 400 tx, aI G m11 6 th, aI G m12 6 od, aI G m13 30 bk, aI G m14 30 bh] H := by rw [ef]; exact hP
                have hD : va_D A [(m0, .inr (8, [.ref m1, .ref m2, .ref m3, .ref m4, .ref m5, .ref m6, .ref m7, .ref m8, .ref m9, .int gm012_10, .int gm013_11, .int gm014_12, .int gm012_10, .int gm013_11, .int gm014_12, .int gm015_13, .int gm016_14, .ref m10, .int 0, .int gm019_15, .int gm020_16, .int gm021_17, .int gm022_18, .int gm023_19, .ref m11, .ref m12, .ref m13, .ref m14, .int wr])), aJ G m1 560 mw, aZ G m2 2 ik, aI G m3 20 fm3_44, aI G m4 20 fm4_45, aI G m5 20 fm5_46, aI G m6 20 fm6_47, aI G m7 20 fm7_48, aI G m8 20 fm8_49, aI G m9 4 fm9_27, aI G m10 400 tx, aI G m11 6 th, aI G m12 6 od, aI G m13 30 bk, aI G m14 30 bh] := by rw [ef]; exact hD
                have hv := hv fm8_49 ef
                refine lv_iinc (v := (x1_34 + 1)) (lv' := [(1, .int (x1_34 + 1)), (0, .ref m0)]) hx hb dX8_town_241 hl (k := 0) rfl rfl (by decide) rfl (fun ls hl => ?_)
                refine lv_goto (tgt := 145) hx hb dX8_town_244 (by decide) ?_
                exact ih_37 _ _ _ _ _ _ _ _ _ _ (Nat.lt_of_lt_of_le hv.2 (Nat.le_of_lt_succ hI_38)) hv.1 hP hD hS hl
          exact Lm_52 _ _ _ _ _ _ _ _ _ _ _ (Nat.lt_succ_self _) hi0 hP hD hS hl
        · have hv := hv.2 hc_25
          refine lv_bipush (v := (-10)) hx hb dX8_town_87 (by decide) ?_
          refine lv_aload_n hx hb dX8_town_89 rfl (lv_at hl 0 rfl) ?_
          refine va_get (D := G.1) (ci := 8) (v := .int gm022_18) (C := RX8) (T := TX8) (N := 29) hx hb hts hinX8 hown hKK.1 hP 0 rfl rfl 22 (by decide) kl83 (fun _ h9 => h9) rfl dX8_town_90 ?_
          refine lv_isub hx hb dX8_town_93 ?_
          exact x_iret (v := ((-10) - gm022_18)) (mw, ik, fm3_3, fm4_4, fm5_5, fm6_6, fm7_7, fm8_8, fm9_9, fu, fd, fi, gm012_10, gm013_11, gm014_12, gm015_13, gm016_14, 0, gm019_15, gm020_16, gm021_17, gm022_18, gm023_19, wr) hQ hx hb hr hlocks hS dX8_town_94 hv hP hD
      · have hv := hv.2 hc_24
        refine lv_aload_n hx hb dX8_town_61 rfl (lv_at hl 0 rfl) ?_
        obtain ⟨gB_53, gL_54, gaq_55, hv⟩ := hv
        obtain ⟨hp, hv⟩ := hv
        refine x_calli (wr := []) (w' := fun (u : (Int32)) => [(m0, .inr (8, [.ref m1, .ref m2, .ref m3, .ref m4, .ref m5, .ref m6, .ref m7, .ref m8, .ref m9, .int fu, .int fd, .int fi, .int gm012_10, .int gm013_11, .int gm014_12, .int gm015_13, .int gm016_14, .ref m10, .int ts, .int u, .int gm020_16, .int gm021_17, .int gm022_18, .int gm023_19, .ref m11, .ref m12, .ref m13, .ref m14, .int wr])), aJ G m1 560 mw, aZ G m2 2 ik, aI G m3 20 fm3_3, aI G m4 20 fm4_4, aI G m5 20 fm5_5, aI G m6 20 fm6_6, aI G m7 20 fm7_7, aI G m8 20 fm8_8, aI G m9 4 fm9_9, aI G m10 400 tx, aI G m11 6 th, aI G m12 6 od, aI G m13 30 bk, aI G m14 30 bh]) (x_runV (As := []) (rest := []) (n := 0) (C := RX8) (ci := 8) ⟨hx, hb, hml, hown, hts⟩ (k_X8_here l G m0 m1 m2 m3 m4 m5 m6 m7 m8 m9 m10 m11 m12 m13 m14 _ mw ik fm3_3 fm4_4 fm5_5 fm6_6 fm7_7 fm8_8 fm9_9 tx th od bk bh fu fd fi gm012_10 gm013_11 gm014_12 gm015_13 gm016_14 ts gm019_15 gm020_16 gm021_17 gm022_18 gm023_19 wr gB_53 gL_54 gaq_55 hp) gX8_town_X8_here rfl (by decide +kernel) ⟨Nat.le_trans (Nat.le_of_ble_eq_true rfl) hRf, Nat.le_trans (Nat.le_of_ble_eq_true rfl) hRl⟩ hKK hSS hS hA hP hD [0, 1, 2, 3, 4, 5, 6, 7, 8, 9, 10, 11, 12, 13, 14] (by decide) rfl rfl rfl 0 rfl rfl hl.1 rfl (Nat.le_of_ble_eq_true rfl) dX8_town_62) hP hD hS hA [0, 1, 2, 3, 4, 5, 6, 7, 8, 9, 10, 11, 12, 13, 14] [] [0, 1, 2, 3, 4, 5, 6, 7, 8, 9, 10, 11, 12, 13, 14] rfl rfl (by decide) (by decide) (by decide) (fun _ => rfl) (fun r_56 u H locs hw hP hD hS => ?_)
        obtain ⟨ap2_57, rfl⟩ : ∃ z9_, z9_ = u := ⟨_, rfl⟩
        have hP : va_P G.1 vwCl [(m0, .inr (8, [.ref m1, .ref m2, .ref m3, .ref m4, .ref m5, .ref m6, .ref m7, .ref m8, .ref m9, .int fu, .int fd, .int fi, .int gm012_10, .int gm013_11, .int gm014_12, .int gm015_13, .int gm016_14, .ref m10, .int ts, .int ap2_57, .int gm020_16, .int gm021_17, .int gm022_18, .int gm023_19, .ref m11, .ref m12, .ref m13, .ref m14, .int wr])), aJ G m1 560 mw, aZ G m2 2 ik, aI G m3 20 fm3_3, aI G m4 20 fm4_4, aI G m5 20 fm5_5, aI G m6 20 fm6_6, aI G m7 20 fm7_7, aI G m8 20 fm8_8, aI G m9 4 fm9_9, aI G m10 400 tx, aI G m11 6 th, aI G m12 6 od, aI G m13 30 bk, aI G m14 30 bh] H := hP
        have hD : va_D A [(m0, .inr (8, [.ref m1, .ref m2, .ref m3, .ref m4, .ref m5, .ref m6, .ref m7, .ref m8, .ref m9, .int fu, .int fd, .int fi, .int gm012_10, .int gm013_11, .int gm014_12, .int gm015_13, .int gm016_14, .ref m10, .int ts, .int ap2_57, .int gm020_16, .int gm021_17, .int gm022_18, .int gm023_19, .ref m11, .ref m12, .ref m13, .ref m14, .int wr])), aJ G m1 560 mw, aZ G m2 2 ik, aI G m3 20 fm3_3, aI G m4 20 fm4_4, aI G m5 20 fm5_5, aI G m6 20 fm6_6, aI G m7 20 fm7_7, aI G m8 20 fm8_8, aI G m9 4 fm9_9, aI G m10 400 tx, aI G m11 6 th, aI G m12 6 od, aI G m13 30 bk, aI G m14 30 bh] := hD
        have hv := hv r_56 ap2_57 hw
        refine lv_if_lt (tgt := 75) hx hb dX8_town_65 (by decide) (fun hc_58 => ?_) (fun hc_58 => ?_)
        · have hv := hv.1 hc_58
          refine lv_aload_n hx hb dX8_town_75 rfl (lv_at hl 0 rfl) ?_
          refine lv_iconst (v := 0) hx hb dX8_town_76 (by decide) ?_
          refine va_put (D := G.1) (ci := 8) (v := .int 0) (ty := .int) (C := RX8) (T := TX8) (N := 29) hx hb hts hinX8 tyX8 tyX8_ok nmX8 hown hKK.1 hP hD hS 0 rfl rfl 18 (by decide) kl74 (fun _ h9 => h9) rfl (by decide +kernel) rfl rfl (Nat.le_of_ble_eq_true rfl) dX8_town_77 (fun H locs hP hD hS => ?_)
          have hP : va_P G.1 vwCl [(m0, .inr (8, [.ref m1, .ref m2, .ref m3, .ref m4, .ref m5, .ref m6, .ref m7, .ref m8, .ref m9, .int fu, .int fd, .int fi, .int gm012_10, .int gm013_11, .int gm014_12, .int gm015_13, .int gm016_14, .ref m10, .int 0, .int ap2_57, .int gm020_16, .int gm021_17, .int gm022_18, .int gm023_19, .ref m11, .ref m12, .ref m13, .ref m14, .int wr])), aJ G m1 560 mw, aZ G m2 2 ik, aI G m3 20 fm3_3, aI G m4 20 fm4_4, aI G m5 20 fm5_5, aI G m6 20 fm6_6, aI G m7 20 fm7_7, aI G m8 20 fm8_8, aI G m9 4 fm9_9, aI G m10 400 tx, aI G m11 6 th, aI G m12 6 od, aI G m13 30 bk, aI G m14 30 bh] H := hP
          have hD : va_D A [(m0, .inr (8, [.ref m1, .ref m2, .ref m3, .ref m4, .ref m5, .ref m6, .ref m7, .ref m8, .ref m9, .int fu, .int fd, .int fi, .int gm012_10, .int gm013_11, .int gm014_12, .int gm015_13, .int gm016_14, .ref m10, .int 0, .int ap2_57, .int gm020_16, .int gm021_17, .int gm022_18, .int gm023_19, .ref m11, .ref m12, .ref m13, .ref m14, .int wr])), aJ G m1 560 mw, aZ G m2 2 ik, aI G m3 20 fm3_3, aI G m4 20 fm4_4, aI G m5 20 fm5_5, aI G m6 20 fm6_6, aI G m7 20 fm7_7, aI G m8 20 fm8_8, aI G m9 4 fm9_9, aI G m10 400 tx, aI G m11 6 th, aI G m12 6 od, aI G m13 30 bk, aI G m14 30 bh] := hD
          refine lv_aload_n hx hb dX8_town_80 rfl (lv_at hl 0 rfl) ?_
          refine va_get (D := G.1) (ci := 8) (v := .int gm022_18) (C := RX8) (T := TX8) (N := 29) hx hb hts hinX8 hown hKK.1 hP 0 rfl rfl 22 (by decide) kl83 (fun _ h9 => h9) rfl dX8_town_81 ?_
          refine lv_if_le (tgt := 95) hx hb dX8_town_84 (by decide) (fun hc_59 => ?_) (fun hc_59 => ?_)
          · have hv := hv.1 hc_59
            refine lv_aload_n hx hb dX8_town_95 rfl (lv_at hl 0 rfl) ?_
            refine va_get (D := G.1) (ci := 8) (v := .ref m9) (C := RX8) (T := TX8) (N := 29) hx hb hts hinX8 hown hKK.1 hP 0 rfl rfl 8 (by decide) kl36 (fun _ h9 => h9) rfl dX8_town_96 ?_
            refine lv_iconst (v := 0) hx hb dX8_town_99 (by decide) ?_
            refine lv_aload_n hx hb dX8_town_100 rfl (lv_at hl 0 rfl) ?_
            refine va_get (D := G.1) (ci := 8) (v := .ref m9) (C := RX8) (T := TX8) (N := 29) hx hb hts hinX8 hown hKK.1 hP 0 rfl rfl 8 (by decide) kl36 (fun _ h9 => h9) rfl dX8_town_101 ?_
            refine lv_iconst (v := 2) hx hb dX8_town_104 (by decide) ?_
            refine va_iald hx hb hKK.1 hP 9 0 rfl rfl (by unfold vp_in; decide) dX8_town_105 ?_
            refine va_iast hx hb hKK.1 hP hD hS 9 0 rfl rfl (by unfold vp_in; decide) dX8_town_106 (fun H locs hP hD hS => ?_)
            obtain ⟨fm9_60, ef⟩ : ∃ z9_, z9_ = (upd fm9_9 0 (fm9_9 2)) := ⟨_, rfl⟩
            have hP : va_P G.1 vwCl [(m0, .inr (8, [.ref m1, .ref m2, .ref m3, .ref m4, .ref m5, .ref m6, .ref m7, .ref m8, .ref m9, .int fu, .int fd, .int fi, .int gm012_10, .int gm013_11, .int gm014_12, .int gm015_13, .int gm016_14, .ref m10, .int 0, .int ap2_57, .int gm020_16, .int gm021_17, .int gm022_18, .int gm023_19, .ref m11, .ref m12, .ref m13, .ref m14, .int wr])), aJ G m1 560 mw, aZ G m2 2 ik, aI G m3 20 fm3_3, aI G m4 20 fm4_4, aI G m5 20 fm5_5, aI G m6 20 fm6_6, aI G m7 20 fm7_7, aI G m8 20 fm8_8, aI G m9 4 fm9_60, aI G m10 400 tx, aI G m11 6 th, aI G m12 6 od, aI G m13 30 bk, aI G m14 30 bh] H := by rw [ef]; exact hP
            have hD : va_D A [(m0, .inr (8, [.ref m1, .ref m2, .ref m3, .ref m4, .ref m5, .ref m6, .ref m7, .ref m8, .ref m9, .int fu, .int fd, .int fi, .int gm012_10, .int gm013_11, .int gm014_12, .int gm015_13, .int gm016_14, .ref m10, .int 0, .int ap2_57, .int gm020_16, .int gm021_17, .int gm022_18, .int gm023_19, .ref m11, .ref m12, .ref m13, .ref m14, .int wr])), aJ G m1 560 mw, aZ G m2 2 ik, aI G m3 20 fm3_3, aI G m4 20 fm4_4, aI G m5 20 fm5_5, aI G m6 20 fm6_6, aI G m7 20 fm7_7, aI G m8 20 fm8_8, aI G m9 4 fm9_60, aI G m10 400 tx, aI G m11 6 th, aI G m12 6 od, aI G m13 30 bk, aI G m14 30 bh] := by rw [ef]; exact hD
            have hv := hv fm9_60 ef
            refine lv_aload_n hx hb dX8_town_107 rfl (lv_at hl 0 rfl) ?_
            refine va_get (D := G.1) (ci := 8) (v := .ref m9) (C := RX8) (T := TX8) (N := 29) hx hb hts hinX8 hown hKK.1 hP 0 rfl rfl 8 (by decide) kl36 (fun _ h9 => h9) rfl dX8_town_108 ?_
            refine lv_iconst (v := 1) hx hb dX8_town_111 (by decide) ?_
            refine lv_aload_n hx hb dX8_town_112 rfl (lv_at hl 0 rfl) ?_
            refine va_get (D := G.1) (ci := 8) (v := .ref m9) (C := RX8) (T := TX8) (N := 29) hx hb hts hinX8 hown hKK.1 hP 0 rfl rfl 8 (by decide) kl36 (fun _ h9 => h9) rfl dX8_town_113 ?_
            refine lv_iconst (v := 3) hx hb dX8_town_116 (by decide) ?_
            refine va_iald hx hb hKK.1 hP 9 0 rfl rfl (by unfold vp_in; decide) dX8_town_117 ?_
            refine va_iast hx hb hKK.1 hP hD hS 9 0 rfl rfl (by unfold vp_in; decide) dX8_town_118 (fun H locs hP hD hS => ?_)
            obtain ⟨fm9_61, ef⟩ : ∃ z9_, z9_ = (upd fm9_60 1 (fm9_60 3)) := ⟨_, rfl⟩
            have hP : va_P G.1 vwCl [(m0, .inr (8, [.ref m1, .ref m2, .ref m3, .ref m4, .ref m5, .ref m6, .ref m7, .ref m8, .ref m9, .int fu, .int fd, .int fi, .int gm012_10, .int gm013_11, .int gm014_12, .int gm015_13, .int gm016_14, .ref m10, .int 0, .int ap2_57, .int gm020_16, .int gm021_17, .int gm022_18, .int gm023_19, .ref m11, .ref m12, .ref m13, .ref m14, .int wr])), aJ G m1 560 mw, aZ G m2 2 ik, aI G m3 20 fm3_3, aI G m4 20 fm4_4, aI G m5 20 fm5_5, aI G m6 20 fm6_6, aI G m7 20 fm7_7, aI G m8 20 fm8_8, aI G m9 4 fm9_61, aI G m10 400 tx, aI G m11 6 th, aI G m12 6 od, aI G m13 30 bk, aI G m14 30 bh] H := by rw [ef]; exact hP
            have hD : va_D A [(m0, .inr (8, [.ref m1, .ref m2, .ref m3, .ref m4, .ref m5, .ref m6, .ref m7, .ref m8, .ref m9, .int fu, .int fd, .int fi, .int gm012_10, .int gm013_11, .int gm014_12, .int gm015_13, .int gm016_14, .ref m10, .int 0, .int ap2_57, .int gm020_16, .int gm021_17, .int gm022_18, .int gm023_19, .ref m11, .ref m12, .ref m13, .ref m14, .int wr])), aJ G m1 560 mw, aZ G m2 2 ik, aI G m3 20 fm3_3, aI G m4 20 fm4_4, aI G m5 20 fm5_5, aI G m6 20 fm6_6, aI G m7 20 fm7_7, aI G m8 20 fm8_8, aI G m9 4 fm9_61, aI G m10 400 tx, aI G m11 6 th, aI G m12 6 od, aI G m13 30 bk, aI G m14 30 bh] := by rw [ef]; exact hD
            have hv := hv fm9_61 ef
            refine lv_aload_n hx hb dX8_town_119 rfl (lv_at hl 0 rfl) ?_
            refine lv_aload_n hx hb dX8_town_120 rfl (lv_at hl 0 rfl) ?_
            refine va_get (D := G.1) (ci := 8) (v := .int gm012_10) (C := RX8) (T := TX8) (N := 29) hx hb hts hinX8 hown hKK.1 hP 0 rfl rfl 12 (by decide) kl131 (fun _ h9 => h9) rfl dX8_town_121 ?_
            refine va_put (D := G.1) (ci := 8) (v := .int gm012_10) (ty := .int) (C := RX8) (T := TX8) (N := 29) hx hb hts hinX8 tyX8 tyX8_ok nmX8 hown hKK.1 hP hD hS 0 rfl rfl 9 (by decide) kl39 (fun _ h9 => h9) rfl (by decide +kernel) rfl rfl (Nat.le_of_ble_eq_true rfl) dX8_town_124 (fun H locs hP hD hS => ?_)
            have hP : va_P G.1 vwCl [(m0, .inr (8, [.ref m1, .ref m2, .ref m3, .ref m4, .ref m5, .ref m6, .ref m7, .ref m8, .ref m9, .int gm012_10, .int fd, .int fi, .int gm012_10, .int gm013_11, .int gm014_12, .int gm015_13, .int gm016_14, .ref m10, .int 0, .int ap2_57, .int gm020_16, .int gm021_17, .int gm022_18, .int gm023_19, .ref m11, .ref m12, .ref m13, .ref m14, .int wr])), aJ G m1 560 mw, aZ G m2 2 ik, aI G m3 20 fm3_3, aI G m4 20 fm4_4, aI G m5 20 fm5_5, aI G m6 20 fm6_6, aI G m7 20 fm7_7, aI G m8 20 fm8_8, aI G m9 4 fm9_61, aI G m10 400 tx, aI G m11 6 th, aI G m12 6 od, aI G m13 30 bk, aI G m14 30 bh] H := hP
            have hD : va_D A [(m0, .inr (8, [.ref m1, .ref m2, .ref m3, .ref m4, .ref m5, .ref m6, .ref m7, .ref m8, .ref m9, .int gm012_10, .int fd, .int fi, .int gm012_10, .int gm013_11, .int gm014_12, .int gm015_13, .int gm016_14, .ref m10, .int 0, .int ap2_57, .int gm020_16, .int gm021_17, .int gm022_18, .int gm023_19, .ref m11, .ref m12, .ref m13, .ref m14, .int wr])), aJ G m1 560 mw, aZ G m2 2 ik, aI G m3 20 fm3_3, aI G m4 20 fm4_4, aI G m5 20 fm5_5, aI G m6 20 fm6_6, aI G m7 20 fm7_7, aI G m8 20 fm8_8, aI G m9 4 fm9_61, aI G m10 400 tx, aI G m11 6 th, aI G m12 6 od, aI G m13 30 bk, aI G m14 30 bh] := hD
            refine lv_aload_n hx hb dX8_town_127 rfl (lv_at hl 0 rfl) ?_
            refine lv_aload_n hx hb dX8_town_128 rfl (lv_at hl 0 rfl) ?_
            refine va_get (D := G.1) (ci := 8) (v := .int gm013_11) (C := RX8) (T := TX8) (N := 29) hx hb hts hinX8 hown hKK.1 hP 0 rfl rfl 13 (by decide) kl134 (fun _ h9 => h9) rfl dX8_town_129 ?_
            refine va_put (D := G.1) (ci := 8) (v := .int gm013_11) (ty := .int) (C := RX8) (T := TX8) (N := 29) hx hb hts hinX8 tyX8 tyX8_ok nmX8 hown hKK.1 hP hD hS 0 rfl rfl 10 (by decide) kl43 (fun _ h9 => h9) rfl (by decide +kernel) rfl rfl (Nat.le_of_ble_eq_true rfl) dX8_town_132 (fun H locs hP hD hS => ?_)
            have hP : va_P G.1 vwCl [(m0, .inr (8, [.ref m1, .ref m2, .ref m3, .ref m4, .ref m5, .ref m6, .ref m7, .ref m8, .ref m9, .int gm012_10, .int gm013_11, .int fi, .int gm012_10, .int gm013_11, .int gm014_12, .int gm015_13, .int gm016_14, .ref m10, .int 0, .int ap2_57, .int gm020_16, .int gm021_17, .int gm022_18, .int gm023_19, .ref m11, .ref m12, .ref m13, .ref m14, .int wr])), aJ G m1 560 mw, aZ G m2 2 ik, aI G m3 20 fm3_3, aI G m4 20 fm4_4, aI G m5 20 fm5_5, aI G m6 20 fm6_6, aI G m7 20 fm7_7, aI G m8 20 fm8_8, aI G m9 4 fm9_61, aI G m10 400 tx, aI G m11 6 th, aI G m12 6 od, aI G m13 30 bk, aI G m14 30 bh] H := hP
            have hD : va_D A [(m0, .inr (8, [.ref m1, .ref m2, .ref m3, .ref m4, .ref m5, .ref m6, .ref m7, .ref m8, .ref m9, .int gm012_10, .int gm013_11, .int fi, .int gm012_10, .int gm013_11, .int gm014_12, .int gm015_13, .int gm016_14, .ref m10, .int 0, .int ap2_57, .int gm020_16, .int gm021_17, .int gm022_18, .int gm023_19, .ref m11, .ref m12, .ref m13, .ref m14, .int wr])), aJ G m1 560 mw, aZ G m2 2 ik, aI G m3 20 fm3_3, aI G m4 20 fm4_4, aI G m5 20 fm5_5, aI G m6 20 fm6_6, aI G m7 20 fm7_7, aI G m8 20 fm8_8, aI G m9 4 fm9_61, aI G m10 400 tx, aI G m11 6 th, aI G m12 6 od, aI G m13 30 bk, aI G m14 30 bh] := hD
            refine lv_aload_n hx hb dX8_town_135 rfl (lv_at hl 0 rfl) ?_
            refine lv_aload_n hx hb dX8_town_136 rfl (lv_at hl 0 rfl) ?_
            refine va_get (D := G.1) (ci := 8) (v := .int gm014_12) (C := RX8) (T := TX8) (N := 29) hx hb hts hinX8 hown hKK.1 hP 0 rfl rfl 14 (by decide) kl140 (fun _ h9 => h9) rfl dX8_town_137 ?_
            refine va_put (D := G.1) (ci := 8) (v := .int gm014_12) (ty := .int) (C := RX8) (T := TX8) (N := 29) hx hb hts hinX8 tyX8 tyX8_ok nmX8 hown hKK.1 hP hD hS 0 rfl rfl 11 (by decide) kl146 (fun _ h9 => h9) rfl (by decide +kernel) rfl rfl (Nat.le_of_ble_eq_true rfl) dX8_town_140 (fun H locs hP hD hS => ?_)
            have hP : va_P G.1 vwCl [(m0, .inr (8, [.ref m1, .ref m2, .ref m3, .ref m4, .ref m5, .ref m6, .ref m7, .ref m8, .ref m9, .int gm012_10, .int gm013_11, .int gm014_12, .int gm012_10, .int gm013_11, .int gm014_12, .int gm015_13, .int gm016_14, .ref m10, .int 0, .int ap2_57, .int gm020_16, .int gm021_17, .int gm022_18, .int gm023_19, .ref m11, .ref m12, .ref m13, .ref m14, .int wr])), aJ G m1 560 mw, aZ G m2 2 ik, aI G m3 20 fm3_3, aI G m4 20 fm4_4, aI G m5 20 fm5_5, aI G m6 20 fm6_6, aI G m7 20 fm7_7, aI G m8 20 fm8_8, aI G m9 4 fm9_61, aI G m10 400 tx, aI G m11 6 th, aI G m12 6 od, aI G m13 30 bk, aI G m14 30 bh] H := hP
            have hD : va_D A [(m0, .inr (8, [.ref m1, .ref m2, .ref m3, .ref m4, .ref m5, .ref m6, .ref m7, .ref m8, .ref m9, .int gm012_10, .int gm013_11, .int gm014_12, .int gm012_10, .int gm013_11, .int gm014_12, .int gm015_13, .int gm016_14, .ref m10, .int 0, .int ap2_57, .int gm020_16, .int gm021_17, .int gm022_18, .int gm023_19, .ref m11, .ref m12, .ref m13, .ref m14, .int wr])), aJ G m1 560 mw, aZ G m2 2 ik, aI G m3 20 fm3_3, aI G m4 20 fm4_4, aI G m5 20 fm5_5, aI G m6 20 fm6_6, aI G m7 20 fm7_7, aI G m8 20 fm8_8, aI G m9 4 fm9_61, aI G m10 400 tx, aI G m11 6 th, aI G m12 6 od, aI G m13 30 bk, aI G m14 30 bh] := hD
            refine lv_iconst (v := 0) hx hb dX8_town_143 (by decide) ?_
            refine lv_istore_n (lv' := [(1, .int 0), (0, .ref m0)]) hx hb dX8_town_144 rfl hl (by decide) rfl (fun ls hl => ?_)
            obtain ⟨I145_69, μ145_70, hi0, hs_84⟩ := hv
            have Lm_86 : ∀ (n_85 : Nat) (fm3_62 : (Nat → Int32)) (fm4_63 : (Nat → Int32)) (fm5_64 : (Nat → Int32)) (fm6_65 : (Nat → Int32)) (fm7_66 : (Nat → Int32)) (fm8_67 : (Nat → Int32)) (x1_68 : Int32) (H : Heap) (locs : List Loc) (ls : Array Slot), μ145_70 fm3_62 fm4_63 fm5_64 fm6_65 fm7_66 fm8_67 x1_68 < n_85 → I145_69 fm3_62 fm4_63 fm5_64 fm6_65 fm7_66 fm8_67 x1_68 → va_P G.1 vwCl [(m0, .inr (8, [.ref m1, .ref m2, .ref m3, .ref m4, .ref m5, .ref m6, .ref m7, .ref m8, .ref m9, .int gm012_10, .int gm013_11, .int gm014_12, .int gm012_10, .int gm013_11, .int gm014_12, .int gm015_13, .int gm016_14, .ref m10, .int 0, .int ap2_57, .int gm020_16, .int gm021_17, .int gm022_18, .int gm023_19, .ref m11, .ref m12, .ref m13, .ref m14, .int wr])), aJ G m1 560 mw, aZ G m2 2 ik, aI G m3 20 fm3_62, aI G m4 20 fm4_63, aI G m5 20 fm5_64, aI G m6 20 fm6_65, aI G m7 20 fm7_66, aI G m8 20 fm8_67, aI G m9 4 fm9_61, aI G m10 400 tx, aI G m11 6 th, aI G m12 6 od, aI G m13 30 bk, aI G m14 30 bh] H → va_D A [(m0, .inr (8, [.ref m1, .ref m2, .ref m3, .ref m4, .ref m5, .ref m6, .ref m7, .ref m8, .ref m9, .int gm012_10, .int gm013_11, .int gm014_12, .int gm012_10, .int gm013_11, .int gm014_12, .int gm015_13, .int gm016_14, .ref m10, .int 0, .int ap2_57, .int gm020_16, .int gm021_17, .int gm022_18, .int gm023_19, .ref m11, .ref m12, .ref m13, .ref m14, .int wr])), aJ G m1 560 mw, aZ G m2 2 ik, aI G m3 20 fm3_62, aI G m4 20 fm4_63, aI G m5 20 fm5_64, aI G m6 20 fm6_65, aI G m7 20 fm7_66, aI G m8 20 fm8_67, aI G m9 4 fm9_61, aI G m10 400 tx, aI G m11 6 th, aI G m12 6 od, aI G m13 30 bk, aI G m14 30 bh] → va_S A s.heap H locs → lv_has ls 2 [(1, .int x1_68), (0, .ref m0)] → W p l e R s m args below meth c H locs 0 0 Q (F0 m 145 ls []) := by
              intro n_85
              induction n_85 with
              | zero => intro fm3_62 fm4_63 fm5_64 fm6_65 fm7_66 fm8_67 x1_68 H locs ls hm; exact absurd hm (Nat.not_lt_zero _)
              | succ n_85 ih_71 =>
                intro fm3_62 fm4_63 fm5_64 fm6_65 fm7_66 fm8_67 x1_68 H locs ls hI_72 hi hP hD hS hl
                have hv := hs_84 fm3_62 fm4_63 fm5_64 fm6_65 fm7_66 fm8_67 x1_68 hi
                refine lv_iload_n hx hb dX8_town_145 rfl (lv_at hl 0 rfl) ?_
                refine lv_bipush (v := 10) hx hb dX8_town_146 (by decide) ?_
                refine lv_icmp_ge (tgt := 247) hx hb dX8_town_148 (by decide) (fun hc_73 => ?_) (fun hc_73 => ?_)
                · have hv := hv.1 hc_73
                  refine lv_aload_n hx hb dX8_town_247 rfl (lv_at hl 1 rfl) ?_
                  refine x_callv (wr := []) (w' := fun (u : (Nat → Int64)) => [(m0, .inr (8, [.ref m1, .ref m2, .ref m3, .ref m4, .ref m5, .ref m6, .ref m7, .ref m8, .ref m9, .int gm012_10, .int gm013_11, .int gm014_12, .int gm012_10, .int gm013_11, .int gm014_12, .int gm015_13, .int gm016_14, .ref m10, .int 0, .int ap2_57, .int gm020_16, .int gm021_17, .int gm022_18, .int gm023_19, .ref m11, .ref m12, .ref m13, .ref m14, .int wr])), aJ G m1 560 u, aZ G m2 2 ik, aI G m3 20 fm3_62, aI G m4 20 fm4_63, aI G m5 20 fm5_64, aI G m6 20 fm6_65, aI G m7 20 fm7_66, aI G m8 20 fm8_67, aI G m9 4 fm9_61, aI G m10 400 tx, aI G m11 6 th, aI G m12 6 od, aI G m13 30 bk, aI G m14 30 bh]) (x_runV (As := []) (rest := []) (n := 0) (C := RX8) (ci := 8) ⟨hx, hb, hml, hown, hts⟩ (k_X8_begin l G m0 m1 m2 m3 m4 m5 m6 m7 m8 m9 m10 m11 m12 m13 m14 _ mw ik fm3_62 fm4_63 fm5_64 fm6_65 fm7_66 fm8_67 fm9_61 tx th od bk bh gm012_10 gm013_11 gm014_12 gm012_10 gm013_11 gm014_12 gm015_13 gm016_14 0 ap2_57 gm020_16 gm021_17 gm022_18 gm023_19 wr) gX8_town_X8_begin rfl (by decide +kernel) ⟨Nat.le_trans (Nat.le_of_ble_eq_true rfl) hRf, Nat.le_trans (Nat.le_of_ble_eq_true rfl) hRl⟩ hKK hSS hS hA hP hD [0, 1, 2, 3, 4, 5, 6, 7, 8, 9, 10, 11, 12, 13, 14] (by decide) rfl rfl rfl 0 rfl rfl hl.1 rfl (Nat.le_of_ble_eq_true rfl) dX8_town_248) hP hD hS hA [0, 1, 2, 3, 4, 5, 6, 7, 8, 9, 10, 11, 12, 13, 14] [] [0, 1, 2, 3, 4, 5, 6, 7, 8, 9, 10, 11, 12, 13, 14] rfl rfl (by decide) (by decide) (by decide) (fun _ => rfl) (fun  u H locs hw hP hD hS => ?_)
                  obtain ⟨mw2_75, rfl⟩ : ∃ z9_, z9_ = u := ⟨_, rfl⟩
                  have hP : va_P G.1 vwCl [(m0, .inr (8, [.ref m1, .ref m2, .ref m3, .ref m4, .ref m5, .ref m6, .ref m7, .ref m8, .ref m9, .int gm012_10, .int gm013_11, .int gm014_12, .int gm012_10, .int gm013_11, .int gm014_12, .int gm015_13, .int gm016_14, .ref m10, .int 0, .int ap2_57, .int gm020_16, .int gm021_17, .int gm022_18, .int gm023_19, .ref m11, .ref m12, .ref m13, .ref m14, .int wr])), aJ G m1 560 mw2_75, aZ G m2 2 ik, aI G m3 20 fm3_62, aI G m4 20 fm4_63, aI G m5 20 fm5_64, aI G m6 20 fm6_65, aI G m7 20 fm7_66, aI G m8 20 fm8_67, aI G m9 4 fm9_61, aI G m10 400 tx, aI G m11 6 th, aI G m12 6 od, aI G m13 30 bk, aI G m14 30 bh] H := hP
                  have hD : va_D A [(m0, .inr (8, [.ref m1, .ref m2, .ref m3, .ref m4, .ref m5, .ref m6, .ref m7, .ref m8, .ref m9, .int gm012_10, .int gm013_11, .int gm014_12, .int gm012_10, .int gm013_11, .int gm014_12, .int gm015_13, .int gm016_14, .ref m10, .int 0, .int ap2_57, .int gm020_16, .int gm021_17, .int gm022_18, .int gm023_19, .ref m11, .ref m12, .ref m13, .ref m14, .int wr])), aJ G m1 560 mw2_75, aZ G m2 2 ik, aI G m3 20 fm3_62, aI G m4 20 fm4_63, aI G m5 20 fm5_64, aI G m6 20 fm6_65, aI G m7 20 fm7_66, aI G m8 20 fm8_67, aI G m9 4 fm9_61, aI G m10 400 tx, aI G m11 6 th, aI G m12 6 od, aI G m13 30 bk, aI G m14 30 bh] := hD
                  have hv := hv mw2_75 hw
                  refine lv_aload_n hx hb dX8_town_251 rfl (lv_at hl 1 rfl) ?_
                  refine lv_iconst (v := 0) hx hb dX8_town_252 (by decide) ?_
                  refine va_put (D := G.1) (ci := 8) (v := .int 0) (ty := .int) (C := RX8) (T := TX8) (N := 29) hx hb hts hinX8 tyX8 tyX8_ok nmX8 hown hKK.1 hP hD hS 0 rfl rfl 28 (by decide) kl149 (fun _ h9 => h9) rfl (by decide +kernel) rfl rfl (Nat.le_of_ble_eq_true rfl) dX8_town_253 (fun H locs hP hD hS => ?_)
                  have hP : va_P G.1 vwCl [(m0, .inr (8, [.ref m1, .ref m2, .ref m3, .ref m4, .ref m5, .ref m6, .ref m7, .ref m8, .ref m9, .int gm012_10, .int gm013_11, .int gm014_12, .int gm012_10, .int gm013_11, .int gm014_12, .int gm015_13, .int gm016_14, .ref m10, .int 0, .int ap2_57, .int gm020_16, .int gm021_17, .int gm022_18, .int gm023_19, .ref m11, .ref m12, .ref m13, .ref m14, .int 0])), aJ G m1 560 mw2_75, aZ G m2 2 ik, aI G m3 20 fm3_62, aI G m4 20 fm4_63, aI G m5 20 fm5_64, aI G m6 20 fm6_65, aI G m7 20 fm7_66, aI G m8 20 fm8_67, aI G m9 4 fm9_61, aI G m10 400 tx, aI G m11 6 th, aI G m12 6 od, aI G m13 30 bk, aI G m14 30 bh] H := hP
                  have hD : va_D A [(m0, .inr (8, [.ref m1, .ref m2, .ref m3, .ref m4, .ref m5, .ref m6, .ref m7, .ref m8, .ref m9, .int gm012_10, .int gm013_11, .int gm014_12, .int gm012_10, .int gm013_11, .int gm014_12, .int gm015_13, .int gm016_14, .ref m10, .int 0, .int ap2_57, .int gm020_16, .int gm021_17, .int gm022_18, .int gm023_19, .ref m11, .ref m12, .ref m13, .ref m14, .int 0])), aJ G m1 560 mw2_75, aZ G m2 2 ik, aI G m3 20 fm3_62, aI G m4 20 fm4_63, aI G m5 20 fm5_64, aI G m6 20 fm6_65, aI G m7 20 fm7_66, aI G m8 20 fm8_67, aI G m9 4 fm9_61, aI G m10 400 tx, aI G m11 6 th, aI G m12 6 od, aI G m13 30 bk, aI G m14 30 bh] := hD
                  refine lv_aload_n hx hb dX8_town_256 rfl (lv_at hl 1 rfl) ?_
                  refine va_get (D := G.1) (ci := 8) (v := .ref m2) (C := RX8) (T := TX8) (N := 29) hx hb hts hinX8 hown hKK.1 hP 0 rfl rfl 1 (by decide) kl13 (fun _ h9 => h9) rfl dX8_town_257 ?_
                  refine lv_iconst (v := 0) hx hb dX8_town_260 (by decide) ?_
                  refine lv_iconst (v := 0) hx hb dX8_town_261 (by decide) ?_
                  refine va_zast hx hb hKK.1 hP hD hS 2 3 rfl rfl (by unfold vp_in; decide) dX8_town_262 (fun H locs hP hD hS => ?_)
                  obtain ⟨fm2_76, ef⟩ : ∃ z9_, z9_ = (upd ik 0 (vp_nar .boolean 0)) := ⟨_, rfl⟩
                  have hP : va_P G.1 vwCl [(m0, .inr (8, [.ref m1, .ref m2, .ref m3, .ref m4, .ref m5, .ref m6, .ref m7, .ref m8, .ref m9, .int gm012_10, .int gm013_11, .int gm014_12, .int gm012_10, .int gm013_11, .int gm014_12, .int gm015_13, .int gm016_14, .ref m10, .int 0, .int ap2_57, .int gm020_16, .int gm021_17, .int gm022_18, .int gm023_19, .ref m11, .ref m12, .ref m13, .ref m14, .int 0])), aJ G m1 560 mw2_75, aZ G m2 2 fm2_76, aI G m3 20 fm3_62, aI G m4 20 fm4_63, aI G m5 20 fm5_64, aI G m6 20 fm6_65, aI G m7 20 fm7_66, aI G m8 20 fm8_67, aI G m9 4 fm9_61, aI G m10 400 tx, aI G m11 6 th, aI G m12 6 od, aI G m13 30 bk, aI G m14 30 bh] H := by rw [ef]; exact hP
                  have hD : va_D A [(m0, .inr (8, [.ref m1, .ref m2, .ref m3, .ref m4, .ref m5, .ref m6, .ref m7, .ref m8, .ref m9, .int gm012_10, .int gm013_11, .int gm014_12, .int gm012_10, .int gm013_11, .int gm014_12, .int gm015_13, .int gm016_14, .ref m10, .int 0, .int ap2_57, .int gm020_16, .int gm021_17, .int gm022_18, .int gm023_19, .ref m11, .ref m12, .ref m13, .ref m14, .int 0])), aJ G m1 560 mw2_75, aZ G m2 2 fm2_76, aI G m3 20 fm3_62, aI G m4 20 fm4_63, aI G m5 20 fm5_64, aI G m6 20 fm6_65, aI G m7 20 fm7_66, aI G m8 20 fm8_67, aI G m9 4 fm9_61, aI G m10 400 tx, aI G m11 6 th, aI G m12 6 od, aI G m13 30 bk, aI G m14 30 bh] := by rw [ef]; exact hD
                  have hv := hv fm2_76 ef
                  refine lv_aload_n hx hb dX8_town_263 rfl (lv_at hl 1 rfl) ?_
                  refine va_get (D := G.1) (ci := 8) (v := .ref m2) (C := RX8) (T := TX8) (N := 29) hx hb hts hinX8 hown hKK.1 hP 0 rfl rfl 1 (by decide) kl13 (fun _ h9 => h9) rfl dX8_town_264 ?_
                  refine lv_iconst (v := 1) hx hb dX8_town_267 (by decide) ?_
                  refine lv_iconst (v := 0) hx hb dX8_town_268 (by decide) ?_
                  refine va_zast hx hb hKK.1 hP hD hS 2 3 rfl rfl (by unfold vp_in; decide) dX8_town_269 (fun H locs hP hD hS => ?_)
                  obtain ⟨fm2_77, ef⟩ : ∃ z9_, z9_ = (upd fm2_76 1 (vp_nar .boolean 0)) := ⟨_, rfl⟩
                  have hP : va_P G.1 vwCl [(m0, .inr (8, [.ref m1, .ref m2, .ref m3, .ref m4, .ref m5, .ref m6, .ref m7, .ref m8, .ref m9, .int gm012_10, .int gm013_11, .int gm014_12, .int gm012_10, .int gm013_11, .int gm014_12, .int gm015_13, .int gm016_14, .ref m10, .int 0, .int ap2_57, .int gm020_16, .int gm021_17, .int gm022_18, .int gm023_19, .ref m11, .ref m12, .ref m13, .ref m14, .int 0])), aJ G m1 560 mw2_75, aZ G m2 2 fm2_77, aI G m3 20 fm3_62, aI G m4 20 fm4_63, aI G m5 20 fm5_64, aI G m6 20 fm6_65, aI G m7 20 fm7_66, aI G m8 20 fm8_67, aI G m9 4 fm9_61, aI G m10 400 tx, aI G m11 6 th, aI G m12 6 od, aI G m13 30 bk, aI G m14 30 bh] H := by rw [ef]; exact hP
                  have hD : va_D A [(m0, .inr (8, [.ref m1, .ref m2, .ref m3, .ref m4, .ref m5, .ref m6, .ref m7, .ref m8, .ref m9, .int gm012_10, .int gm013_11, .int gm014_12, .int gm012_10, .int gm013_11, .int gm014_12, .int gm015_13, .int gm016_14, .ref m10, .int 0, .int ap2_57, .int gm020_16, .int gm021_17, .int gm022_18, .int gm023_19, .ref m11, .ref m12, .ref m13, .ref m14, .int 0])), aJ G m1 560 mw2_75, aZ G m2 2 fm2_77, aI G m3 20 fm3_62, aI G m4 20 fm4_63, aI G m5 20 fm5_64, aI G m6 20 fm6_65, aI G m7 20 fm7_66, aI G m8 20 fm8_67, aI G m9 4 fm9_61, aI G m10 400 tx, aI G m11 6 th, aI G m12 6 od, aI G m13 30 bk, aI G m14 30 bh] := by rw [ef]; exact hD
                  have hv := hv fm2_77 ef
                  refine lv_aload_n hx hb dX8_town_270 rfl (lv_at hl 1 rfl) ?_
                  refine va_get (D := G.1) (ci := 8) (v := .ref m9) (C := RX8) (T := TX8) (N := 29) hx hb hts hinX8 hown hKK.1 hP 0 rfl rfl 8 (by decide) kl36 (fun _ h9 => h9) rfl dX8_town_271 ?_
                  refine lv_iconst (v := 0) hx hb dX8_town_274 (by decide) ?_
                  refine va_iald hx hb hKK.1 hP 9 0 rfl rfl (by unfold vp_in; decide) dX8_town_275 ?_
                  exact x_iret (v := (fm9_61 0)) (mw2_75, fm2_77, fm3_62, fm4_63, fm5_64, fm6_65, fm7_66, fm8_67, fm9_61, gm012_10, gm013_11, gm014_12, gm012_10, gm013_11, gm014_12, gm015_13, gm016_14, 0, ap2_57, gm020_16, gm021_17, gm022_18, gm023_19, 0) hQ hx hb hr hlocks hS dX8_town_276 hv hP hD
                · have hv := hv.2 hc_73
                  refine lv_aload_n hx hb dX8_town_151 rfl (lv_at hl 1 rfl) ?_
                  refine va_get (D := G.1) (ci := 8) (v := .ref m3) (C := RX8) (T := TX8) (N := 29) hx hb hts hinX8 hown hKK.1 hP 0 rfl rfl 2 (by decide) kl17 (fun _ h9 => h9) rfl dX8_town_152 ?_
                  refine lv_iload_n hx hb dX8_town_155 rfl (lv_at hl 0 rfl) ?_
                  refine lv_aload_n hx hb dX8_town_156 rfl (lv_at hl 1 rfl) ?_
                  refine va_get (D := G.1) (ci := 8) (v := .ref m3) (C := RX8) (T := TX8) (N := 29) hx hb hts hinX8 hown hKK.1 hP 0 rfl rfl 2 (by decide) kl17 (fun _ h9 => h9) rfl dX8_town_157 ?_
                  refine lv_bipush (v := 10) hx hb dX8_town_160 (by decide) ?_
                  refine lv_iload_n hx hb dX8_town_162 rfl (lv_at hl 0 rfl) ?_
                  refine lv_iadd hx hb dX8_town_163 ?_
                  obtain ⟨hin, hv⟩ := hv
                  refine va_iald hx hb hKK.1 hP 3 0 rfl rfl hin dX8_town_164 ?_
                  obtain ⟨hin, hv⟩ := hv
                  refine va_iast hx hb hKK.1 hP hD hS 3 0 rfl rfl hin dX8_town_165 (fun H locs hP hD hS => ?_)
                  obtain ⟨fm3_78, ef⟩ : ∃ z9_, z9_ = (upd fm3_62 x1_68.toNatClampNeg (fm3_62 (10 + x1_68).toNatClampNeg)) := ⟨_, rfl⟩
                  have hP : va_P G.1 vwCl [(m0, .inr (8, [.ref m1, .ref m2, .ref m3, .ref m4, .ref m5, .ref m6, .ref m7, .ref m8, .ref m9, .int gm012_10, .int gm013_11, .int gm014_12, .int gm012_10, .int gm013_11, .int gm014_12, .int gm015_13, .int gm016_14, .ref m10, .int 0, .int ap2_57, .int gm020_16, .int gm021_17, .int gm022_18, .int gm023_19, .ref m11, .ref m12, .ref m13, .ref m14, .int wr])), aJ G m1 560 mw, aZ G m2 2 ik, aI G m3 20 fm3_78, aI G m4 20 fm4_63, aI G m5 20 fm5_64, aI G m6 20 fm6_65, aI G m7 20 fm7_66, aI G m8 20 fm8_67, aI G m9 4 fm9_61, aI G m10 400 tx, aI G m11 6 th, aI G m12 6 od, aI G m13 30 bk, aI G m14 30 bh] H := by rw [ef]; exact hP
                  have hD : va_D A [(m0, .inr (8, [.ref m1, .ref m2, .ref m3, .ref m4, .ref m5, .ref m6, .ref m7, .ref m8, .ref m9, .int gm012_10, .int gm013_11, .int gm014_12, .int gm012_10, .int gm013_11, .int gm014_12, .int gm015_13, .int gm016_14, .ref m10, .int 0, .int ap2_57, .int gm020_16, .int gm021_17, .int gm022_18, .int gm023_19, .ref m11, .ref m12, .ref m13, .ref m14, .int wr])), aJ G m1 560 mw, aZ G m2 2 ik, aI G m3 20 fm3_78, aI G m4 20 fm4_63, aI G m5 20 fm5_64, aI G m6 20 fm6_65, aI G m7 20 fm7_66, aI G m8 20 fm8_67, aI G m9 4 fm9_61, aI G m10 400 tx, aI G m11 6 th, aI G m12 6 od, aI G m13 30 bk, aI G m14 30 bh] := by rw [ef]; exact hD
                  have hv := hv fm3_78 ef
                  refine lv_aload_n hx hb dX8_town_166 rfl (lv_at hl 1 rfl) ?_
                  refine va_get (D := G.1) (ci := 8) (v := .ref m4) (C := RX8) (T := TX8) (N := 29) hx hb hts hinX8 hown hKK.1 hP 0 rfl rfl 3 (by decide) kl21 (fun _ h9 => h9) rfl dX8_town_167 ?_
                  refine lv_iload_n hx hb dX8_town_170 rfl (lv_at hl 0 rfl) ?_
                  refine lv_aload_n hx hb dX8_town_171 rfl (lv_at hl 1 rfl) ?_
                  refine va_get (D := G.1) (ci := 8) (v := .ref m4) (C := RX8) (T := TX8) (N := 29) hx hb hts hinX8 hown hKK.1 hP 0 rfl rfl 3 (by decide) kl21 (fun _ h9 => h9) rfl dX8_town_172 ?_
                  refine lv_bipush (v := 10) hx hb dX8_town_175 (by decide) ?_
                  refine lv_iload_n hx hb dX8_town_177 rfl (lv_at hl 0 rfl) ?_
                  refine lv_iadd hx hb dX8_town_178 ?_
                  obtain ⟨hin, hv⟩ := hv
                  refine va_iald hx hb hKK.1 hP 4 0 rfl rfl hin dX8_town_179 ?_
                  obtain ⟨hin, hv⟩ := hv
                  refine va_iast hx hb hKK.1 hP hD hS 4 0 rfl rfl hin dX8_town_180 (fun H locs hP hD hS => ?_)
                  obtain ⟨fm4_79, ef⟩ : ∃ z9_, z9_ = (upd fm4_63 x1_68.toNatClampNeg (fm4_63 (10 + x1_68).toNatClampNeg)) := ⟨_, rfl⟩
                  have hP : va_P G.1 vwCl [(m0, .inr (8, [.ref m1, .ref m2, .ref m3, .ref m4, .ref m5, .ref m6, .ref m7, .ref m8, .ref m9, .int gm012_10, .int gm013_11, .int gm014_12, .int gm012_10, .int gm013_11, .int gm014_12, .int gm015_13, .int gm016_14, .ref m10, .int 0, .int ap2_57, .int gm020_16, .int gm021_17, .int gm022_18, .int gm023_19, .ref m11, .ref m12, .ref m13, .ref m14, .int wr])), aJ G m1 560 mw, aZ G m2 2 ik, aI G m3 20 fm3_78, aI G m4 20 fm4_79, aI G m5 20 fm5_64, aI G m6 20 fm6_65, aI G m7 20 fm7_66, aI G m8 20 fm8_67, aI G m9 4 fm9_61, aI G m10 400 tx, aI G m11 6 th, aI G m12 6 od, aI G m13 30 bk, aI G m14 30 bh] H := by rw [ef]; exact hP
                  have hD : va_D A [(m0, .inr (8, [.ref m1, .ref m2, .ref m3, .ref m4, .ref m5, .ref m6, .ref m7, .ref m8, .ref m9, .int gm012_10, .int gm013_11, .int gm014_12, .int gm012_10, .int gm013_11, .int gm014_12, .int gm015_13, .int gm016_14, .ref m10, .int 0, .int ap2_57, .int gm020_16, .int gm021_17, .int gm022_18, .int gm023_19, .ref m11, .ref m12, .ref m13, .ref m14, .int wr])), aJ G m1 560 mw, aZ G m2 2 ik, aI G m3 20 fm3_78, aI G m4 20 fm4_79, aI G m5 20 fm5_64, aI G m6 20 fm6_65, aI G m7 20 fm7_66, aI G m8 20 fm8_67, aI G m9 4 fm9_61, aI G m10 400 tx, aI G m11 6 th, aI G m12 6 od, aI G m13 30 bk, aI G m14 30 bh] := by rw [ef]; exact hD
                  have hv := hv fm4_79 ef
                  refine lv_aload_n hx hb dX8_town_181 rfl (lv_at hl 1 rfl) ?_
                  refine va_get (D := G.1) (ci := 8) (v := .ref m5) (C := RX8) (T := TX8) (N := 29) hx hb hts hinX8 hown hKK.1 hP 0 rfl rfl 4 (by decide) kl24 (fun _ h9 => h9) rfl dX8_town_182 ?_
                  refine lv_iload_n hx hb dX8_town_185 rfl (lv_at hl 0 rfl) ?_
                  refine lv_aload_n hx hb dX8_town_186 rfl (lv_at hl 1 rfl) ?_
                  refine va_get (D := G.1) (ci := 8) (v := .ref m5) (C := RX8) (T := TX8) (N := 29) hx hb hts hinX8 hown hKK.1 hP 0 rfl rfl 4 (by decide) kl24 (fun _ h9 => h9) rfl dX8_town_187 ?_
                  refine lv_bipush (v := 10) hx hb dX8_town_190 (by decide) ?_
                  refine lv_iload_n hx hb dX8_town_192 rfl (lv_at hl 0 rfl) ?_
                  refine lv_iadd hx hb dX8_town_193 ?_
                  obtain ⟨hin, hv⟩ := hv
                  refine va_iald hx hb hKK.1 hP 5 0 rfl rfl hin dX8_town_194 ?_
                  obtain ⟨hin, hv⟩ := hv
                  refine va_iast hx hb hKK.1 hP hD hS 5 0 rfl rfl hin dX8_town_195 (fun H locs hP hD hS => ?_)
                  obtain ⟨fm5_80, ef⟩ : ∃ z9_, z9_ = (upd fm5_64 x1_68.toNatClampNeg (fm5_64 (10 + x1_68).toNatClampNeg)) := ⟨_, rfl⟩
                  have hP : va_P G.1 vwCl [(m0, .inr (8, [.ref m1, .ref m2, .ref m3, .ref m4, .ref m5, .ref m6, .ref m7, .ref m8, .ref m9, .int gm012_10, .int gm013_11, .int gm014_12, .int gm012_10, .int gm013_11, .int gm014_12, .int gm015_13, .int gm016_14, .ref m10, .int 0, .int ap2_57, .int gm020_16, .int gm021_17, .int gm022_18, .int gm023_19, .ref m11, .ref m12, .ref m13, .ref m14, .int wr])), aJ G m1 560 mw, aZ G m2 2 ik, aI G m3 20 fm3_78, aI G m4 20 fm4_79, aI G m5 20 fm5_80, aI G m6 20 fm6_65, aI G m7 20 fm7_66, aI G m8 20 fm8_67, aI G m9 4 fm9_61, aI G m10 400 tx, aI G m11 6 th, aI G m12 6 od, aI G m13 30 bk, aI G m14 30 bh] H := by rw [ef]; exact hP
                  have hD : va_D A [(m0, .inr (8, [.ref m1, .ref m2, .ref m3, .ref m4, .ref m5, .ref m6, .ref m7, .ref m8, .ref m9, .int gm012_10, .int gm013_11, .int gm014_12, .int gm012_10, .int gm013_11, .int gm014_12, .int gm015_13, .int gm016_14, .ref m10, .int 0, .int ap2_57, .int gm020_16, .int gm021_17, .int gm022_18, .int gm023_19, .ref m11, .ref m12, .ref m13, .ref m14, .int wr])), aJ G m1 560 mw, aZ G m2 2 ik, aI G m3 20 fm3_78, aI G m4 20 fm4_79, aI G m5 20 fm5_80, aI G m6 20 fm6_65, aI G m7 20 fm7_66, aI G m8 20 fm8_67, aI G m9 4 fm9_61, aI G m10 400 tx, aI G m11 6 th, aI G m12 6 od, aI G m13 30 bk, aI G m14 30 bh] := by rw [ef]; exact hD
                  have hv := hv fm5_80 ef
                  refine lv_aload_n hx hb dX8_town_196 rfl (lv_at hl 1 rfl) ?_
                  refine va_get (D := G.1) (ci := 8) (v := .ref m6) (C := RX8) (T := TX8) (N := 29) hx hb hts hinX8 hown hKK.1 hP 0 rfl rfl 5 (by decide) kl27 (fun _ h9 => h9) rfl dX8_town_197 ?_
                  refine lv_iload_n hx hb dX8_town_200 rfl (lv_at hl 0 rfl) ?_
                  refine lv_aload_n hx hb dX8_town_201 rfl (lv_at hl 1 rfl) ?_
                  refine va_get (D := G.1) (ci := 8) (v := .ref m6) (C := RX8) (T := TX8) (N := 29) hx hb hts hinX8 hown hKK.1 hP 0 rfl rfl 5 (by decide) kl27 (fun _ h9 => h9) rfl dX8_town_202 ?_
                  refine lv_bipush (v := 10) hx hb dX8_town_205 (by decide) ?_
                  refine lv_iload_n hx hb dX8_town_207 rfl (lv_at hl 0 rfl) ?_
                  refine lv_iadd hx hb dX8_town_208 ?_
                  obtain ⟨hin, hv⟩ := hv
                  refine va_iald hx hb hKK.1 hP 6 0 rfl rfl hin dX8_town_209 ?_
                  obtain ⟨hin, hv⟩ := hv
                  refine va_iast hx hb hKK.1 hP hD hS 6 0 rfl rfl hin dX8_town_210 (fun H locs hP hD hS => ?_)
                  obtain ⟨fm6_81, ef⟩ : ∃ z9_, z9_ = (upd fm6_65 x1_68.toNatClampNeg (fm6_65 (10 + x1_68).toNatClampNeg)) := ⟨_, rfl⟩
                  have hP : va_P G.1 vwCl [(m0, .inr (8, [.ref m1, .ref m2, .ref m3, .ref m4, .ref m5, .ref m6, .ref m7, .ref m8, .ref m9, .int gm012_10, .int gm013_11, .int gm014_12, .int gm012_10, .int gm013_11, .int gm014_12, .int gm015_13, .int gm016_14, .ref m10, .int 0, .int ap2_57, .int gm020_16, .int gm021_17, .int gm022_18, .int gm023_19, .ref m11, .ref m12, .ref m13, .ref m14, .int wr])), aJ G m1 560 mw, aZ G m2 2 ik, aI G m3 20 fm3_78, aI G m4 20 fm4_79, aI G m5 20 fm5_80, aI G m6 20 fm6_81, aI G m7 20 fm7_66, aI G m8 20 fm8_67, aI G m9 4 fm9_61, aI G m10 400 tx, aI G m11 6 th, aI G m12 6 od, aI G m13 30 bk, aI G m14 30 bh] H := by rw [ef]; exact hP
                  have hD : va_D A [(m0, .inr (8, [.ref m1, .ref m2, .ref m3, .ref m4, .ref m5, .ref m6, .ref m7, .ref m8, .ref m9, .int gm012_10, .int gm013_11, .int gm014_12, .int gm012_10, .int gm013_11, .int gm014_12, .int gm015_13, .int gm016_14, .ref m10, .int 0, .int ap2_57, .int gm020_16, .int gm021_17, .int gm022_18, .int gm023_19, .ref m11, .ref m12, .ref m13, .ref m14, .int wr])), aJ G m1 560 mw, aZ G m2 2 ik, aI G m3 20 fm3_78, aI G m4 20 fm4_79, aI G m5 20 fm5_80, aI G m6 20 fm6_81, aI G m7 20 fm7_66, aI G m8 20 fm8_67, aI G m9 4 fm9_61, aI G m10 400 tx, aI G m11 6 th, aI G m12 6 od, aI G m13 30 bk, aI G m14 30 bh] := by rw [ef]; exact hD
                  have hv := hv fm6_81 ef
                  refine lv_aload_n hx hb dX8_town_211 rfl (lv_at hl 1 rfl) ?_
                  refine va_get (D := G.1) (ci := 8) (v := .ref m7) (C := RX8) (T := TX8) (N := 29) hx hb hts hinX8 hown hKK.1 hP 0 rfl rfl 6 (by decide) kl30 (fun _ h9 => h9) rfl dX8_town_212 ?_
                  refine lv_iload_n hx hb dX8_town_215 rfl (lv_at hl 0 rfl) ?_
                  refine lv_aload_n hx hb dX8_town_216 rfl (lv_at hl 1 rfl) ?_
                  refine va_get (D := G.1) (ci := 8) (v := .ref m7) (C := RX8) (T := TX8) (N := 29) hx hb hts hinX8 hown hKK.1 hP 0 rfl rfl 6 (by decide) kl30 (fun _ h9 => h9) rfl dX8_town_217 ?_
                  refine lv_bipush (v := 10) hx hb dX8_town_220 (by decide) ?_
                  refine lv_iload_n hx hb dX8_town_222 rfl (lv_at hl 0 rfl) ?_
                  refine lv_iadd hx hb dX8_town_223 ?_
                  obtain ⟨hin, hv⟩ := hv
                  refine va_iald hx hb hKK.1 hP 7 0 rfl rfl hin dX8_town_224 ?_
                  obtain ⟨hin, hv⟩ := hv
                  refine va_iast hx hb hKK.1 hP hD hS 7 0 rfl rfl hin dX8_town_225 (fun H locs hP hD hS => ?_)
                  obtain ⟨fm7_82, ef⟩ : ∃ z9_, z9_ = (upd fm7_66 x1_68.toNatClampNeg (fm7_66 (10 + x1_68).toNatClampNeg)) := ⟨_, rfl⟩
                  have hP : va_P G.1 vwCl [(m0, .inr (8, [.ref m1, .ref m2, .ref m3, .ref m4, .ref m5, .ref m6, .ref m7, .ref m8, .ref m9, .int gm012_10, .int gm013_11, .int gm014_12, .int gm012_10, .int gm013_11, .int gm014_12, .int gm015_13, .int gm016_14, .ref m10, .int 0, .int ap2_57, .int gm020_16, .int gm021_17, .int gm022_18, .int gm023_19, .ref m11, .ref m12, .ref m13, .ref m14, .int wr])), aJ G m1 560 mw, aZ G m2 2 ik, aI G m3 20 fm3_78, aI G m4 20 fm4_79, aI G m5 20 fm5_80, aI G m6 20 fm6_81, aI G m7 20 fm7_82, aI G m8 20 fm8_67, aI G m9 4 fm9_61, aI G m10 400 tx, aI G m11 6 th, aI G m12 6 od, aI G m13 30 bk, aI G m14 30 bh] H := by rw [ef]; exact hP
                  have hD : va_D A [(m0, .inr (8, [.ref m1, .ref m2, .ref m3, .ref m4, .ref m5, .ref m6, .ref m7, .ref m8, .ref m9, .int gm012_10, .int gm013_11, .int gm014_12, .int gm012_10, .int gm013_11, .int gm014_12, .int gm015_13, .int gm016_14, .ref m10, .int 0, .int ap2_57, .int gm020_16, .int gm021_17, .int gm022_18, .int gm023_19, .ref m11, .ref m12, .ref m13, .ref m14, .int wr])), aJ G m1 560 mw, aZ G m2 2 ik, aI G m3 20 fm3_78, aI G m4 20 fm4_79, aI G m5 20 fm5_80, aI G m6 20 fm6_81, aI G m7 20 fm7_82, aI G m8 20 fm8_67, aI G m9 4 fm9_61, aI G m10 400 tx, aI G m11 6 th, aI G m12 6 od, aI G m13 30 bk, aI G m14 30 bh] := by rw [ef]; exact hD
                  have hv := hv fm7_82 ef
                  refine lv_aload_n hx hb dX8_town_226 rfl (lv_at hl 1 rfl) ?_
                  refine va_get (D := G.1) (ci := 8) (v := .ref m8) (C := RX8) (T := TX8) (N := 29) hx hb hts hinX8 hown hKK.1 hP 0 rfl rfl 7 (by decide) kl33 (fun _ h9 => h9) rfl dX8_town_227 ?_
                  refine lv_iload_n hx hb dX8_town_230 rfl (lv_at hl 0 rfl) ?_
                  refine lv_aload_n hx hb dX8_town_231 rfl (lv_at hl 1 rfl) ?_
                  refine va_get (D := G.1) (ci := 8) (v := .ref m8) (C := RX8) (T := TX8) (N := 29) hx hb hts hinX8 hown hKK.1 hP 0 rfl rfl 7 (by decide) kl33 (fun _ h9 => h9) rfl dX8_town_232 ?_
                  refine lv_bipush (v := 10) hx hb dX8_town_235 (by decide) ?_
                  refine lv_iload_n hx hb dX8_town_237 rfl (lv_at hl 0 rfl) ?_
                  refine lv_iadd hx hb dX8_town_238 ?_
                  obtain ⟨hin, hv⟩ := hv
                  refine va_iald hx hb hKK.1 hP 8 0 rfl rfl hin dX8_town_239 ?_
                  obtain ⟨hin, hv⟩ := hv
                  refine va_iast hx hb hKK.1 hP hD hS 8 0 rfl rfl hin dX8_town_240 (fun H locs hP hD hS => ?_)
                  obtain ⟨fm8_83, ef⟩ : ∃ z9_, z9_ = (upd fm8_67 x1_68.toNatClampNeg (fm8_67 (10 + x1_68).toNatClampNeg)) := ⟨_, rfl⟩
                  have hP : va_P G.1 vwCl [(m0, .inr (8, [.ref m1, .ref m2, .ref m3, .ref m4, .ref m5, .ref m6, .ref m7, .ref m8, .ref m9, .int gm012_10, .int gm013_11, .int gm014_12, .int gm012_10, .int gm013_11, .int gm014_12, .int gm015_13, .int gm016_14, .ref m10, .int 0, .int ap2_57, .int gm020_16, .int gm021_17, .int gm022_18, .int gm023_19, .ref m11, .ref m12, .ref m13, .ref m14, .int wr])), aJ G m1 560 mw, aZ G m2 2 ik, aI G m3 20 fm3_78, aI G m4 20 fm4_79, aI G m5 20 fm5_80, aI G m6 20 fm6_81, aI G m7 20 fm7_82, aI G m8 20 fm8_83, aI G m9 4 fm9_61, aI G m10 400 tx, aI G m11 6 th, aI G m12 6 od, aI G m13 30 bk, aI G m14 30 bh] H := by rw [ef]; exact hP
                  have hD : va_D A [(m0, .inr (8, [.ref m1, .ref m2, .ref m3, .ref m4, .ref m5, .ref m6, .ref m7, .ref m8, .ref m9, .int gm012_10, .int gm013_11, .int gm014_12, .int gm012_10, .int gm013_11, .int gm014_12, .int gm015_13, .int gm016_14, .ref m10, .int 0, .int ap2_57, .int gm020_16, .int gm021_17, .int gm022_18, .int gm023_19, .ref m11, .ref m12, .ref m13, .ref m14, .int wr])), aJ G m1 560 mw, aZ G m2 2 ik, aI G m3 20 fm3_78, aI G m4 20 fm4_79, aI G m5 20 fm5_80, aI G m6 20 fm6_81, aI G m7 20 fm7_82, aI G m8 20 fm8_83, aI G m9 4 fm9_61, aI G m10 400 tx, aI G m11 6 th, aI G m12 6 od, aI G m13 30 bk, aI G m14 30 bh] := by rw [ef]; exact hD
                  have hv := hv fm8_83 ef
                  refine lv_iinc (v := (x1_68 + 1)) (lv' := [(1, .int (x1_68 + 1)), (0, .ref m0)]) hx hb dX8_town_241 hl (k := 0) rfl rfl (by decide) rfl (fun ls hl => ?_)
                  refine lv_goto (tgt := 145) hx hb dX8_town_244 (by decide) ?_
                  exact ih_71 _ _ _ _ _ _ _ _ _ _ (Nat.lt_of_lt_of_le hv.2 (Nat.le_of_lt_succ hI_72)) hv.1 hP hD hS hl
            exact Lm_86 _ _ _ _ _ _ _ _ _ _ _ (Nat.lt_succ_self _) hi0 hP hD hS hl
          · have hv := hv.2 hc_59
            refine lv_bipush (v := (-10)) hx hb dX8_town_87 (by decide) ?_
            refine lv_aload_n hx hb dX8_town_89 rfl (lv_at hl 0 rfl) ?_
            refine va_get (D := G.1) (ci := 8) (v := .int gm022_18) (C := RX8) (T := TX8) (N := 29) hx hb hts hinX8 hown hKK.1 hP 0 rfl rfl 22 (by decide) kl83 (fun _ h9 => h9) rfl dX8_town_90 ?_
            refine lv_isub hx hb dX8_town_93 ?_
            exact x_iret (v := ((-10) - gm022_18)) (mw, ik, fm3_3, fm4_4, fm5_5, fm6_6, fm7_7, fm8_8, fm9_9, fu, fd, fi, gm012_10, gm013_11, gm014_12, gm015_13, gm016_14, 0, ap2_57, gm020_16, gm021_17, gm022_18, gm023_19, wr) hQ hx hb hr hlocks hS dX8_town_94 hv hP hD
        · have hv := hv.2 hc_58
          refine lv_aload_n hx hb dX8_town_68 rfl (lv_at hl 0 rfl) ?_
          obtain ⟨gB_87, gL_88, gaq_89, gtq_90, hv⟩ := hv
          obtain ⟨hp, hv⟩ := hv
          refine x_callv (wr := []) (w' := fun (u : (Nat → Int32) × (Nat → Int32) × (Nat → Int32) × (Nat → Int32) × (Nat → Int32) × (Nat → Int32) × (Nat → Int32) × (Int32) × (Int32) × (Int32) × (Int32) × (Int32) × (Int32) × (Int32) × (Int32) × (Int32) × (Int32)) => [(m0, .inr (8, [.ref m1, .ref m2, .ref m3, .ref m4, .ref m5, .ref m6, .ref m7, .ref m8, .ref m9, .int fu, .int fd, .int fi, .int u.2.2.2.2.2.2.2.2.2.2.2.2.2.2.1, .int u.2.2.2.2.2.2.2.2.2.2.2.2.2.2.2.1, .int u.2.2.2.2.2.2.2.2.2.2.2.2.2.2.2.2, .int u.2.2.2.2.2.2.2.2.2.2.2.2.1, .int u.2.2.2.2.2.2.2.2.2.2.2.2.2.1, .ref m10, .int ts, .int u.2.2.2.2.2.2.2.1, .int u.2.2.2.2.2.2.2.2.1, .int u.2.2.2.2.2.2.2.2.2.1, .int u.2.2.2.2.2.2.2.2.2.2.1, .int u.2.2.2.2.2.2.2.2.2.2.2.1, .ref m11, .ref m12, .ref m13, .ref m14, .int wr])), aJ G m1 560 mw, aZ G m2 2 ik, aI G m3 20 u.1, aI G m4 20 u.2.1, aI G m5 20 u.2.2.1, aI G m6 20 u.2.2.2.1, aI G m7 20 u.2.2.2.2.1, aI G m8 20 u.2.2.2.2.2.1, aI G m9 4 u.2.2.2.2.2.2.1, aI G m10 400 tx, aI G m11 6 th, aI G m12 6 od, aI G m13 30 bk, aI G m14 30 bh]) (x_runV (As := []) (rest := []) (n := 0) (C := RX8) (ci := 8) ⟨hx, hb, hml, hown, hts⟩ (k_X8_takeClause l G m0 m1 m2 m3 m4 m5 m6 m7 m8 m9 m10 m11 m12 m13 m14 _ mw ik fm3_3 fm4_4 fm5_5 fm6_6 fm7_7 fm8_8 fm9_9 tx th od bk bh fu fd fi gm012_10 gm013_11 gm014_12 gm015_13 gm016_14 ts ap2_57 gm020_16 gm021_17 gm022_18 gm023_19 wr gB_87 gL_88 gaq_89 gtq_90 hp) gX8_town_X8_takeClause rfl (by decide +kernel) ⟨Nat.le_trans (Nat.le_of_ble_eq_true rfl) hRf, Nat.le_trans (Nat.le_of_ble_eq_true rfl) hRl⟩ hKK hSS hS hA hP hD [0, 1, 2, 3, 4, 5, 6, 7, 8, 9, 10, 11, 12, 13, 14] (by decide) rfl rfl rfl 0 rfl rfl hl.1 rfl (Nat.le_of_ble_eq_true rfl) dX8_town_69) hP hD hS hA [0, 1, 2, 3, 4, 5, 6, 7, 8, 9, 10, 11, 12, 13, 14] [] [0, 1, 2, 3, 4, 5, 6, 7, 8, 9, 10, 11, 12, 13, 14] rfl rfl (by decide) (by decide) (by decide) (fun _ => rfl) (fun  u H locs hw hP hD hS => ?_)
          obtain ⟨zs2_92, cl2_93, hs2_94, ks2_95, wa2_96, ne2_97, mn2_98, ap2_99, fs2_100, ln2_101, fo2_102, fa2_103, bf2_104, bn2_105, nu2_106, nw2_107, nf2_108⟩ := u
          have hP : va_P G.1 vwCl [(m0, .inr (8, [.ref m1, .ref m2, .ref m3, .ref m4, .ref m5, .ref m6, .ref m7, .ref m8, .ref m9, .int fu, .int fd, .int fi, .int nu2_106, .int nw2_107, .int nf2_108, .int bf2_104, .int bn2_105, .ref m10, .int ts, .int ap2_99, .int fs2_100, .int ln2_101, .int fo2_102, .int fa2_103, .ref m11, .ref m12, .ref m13, .ref m14, .int wr])), aJ G m1 560 mw, aZ G m2 2 ik, aI G m3 20 zs2_92, aI G m4 20 cl2_93, aI G m5 20 hs2_94, aI G m6 20 ks2_95, aI G m7 20 wa2_96, aI G m8 20 ne2_97, aI G m9 4 mn2_98, aI G m10 400 tx, aI G m11 6 th, aI G m12 6 od, aI G m13 30 bk, aI G m14 30 bh] H := hP
          have hD : va_D A [(m0, .inr (8, [.ref m1, .ref m2, .ref m3, .ref m4, .ref m5, .ref m6, .ref m7, .ref m8, .ref m9, .int fu, .int fd, .int fi, .int nu2_106, .int nw2_107, .int nf2_108, .int bf2_104, .int bn2_105, .ref m10, .int ts, .int ap2_99, .int fs2_100, .int ln2_101, .int fo2_102, .int fa2_103, .ref m11, .ref m12, .ref m13, .ref m14, .int wr])), aJ G m1 560 mw, aZ G m2 2 ik, aI G m3 20 zs2_92, aI G m4 20 cl2_93, aI G m5 20 hs2_94, aI G m6 20 ks2_95, aI G m7 20 wa2_96, aI G m8 20 ne2_97, aI G m9 4 mn2_98, aI G m10 400 tx, aI G m11 6 th, aI G m12 6 od, aI G m13 30 bk, aI G m14 30 bh] := hD
          have hv := hv zs2_92 cl2_93 hs2_94 ks2_95 wa2_96 ne2_97 mn2_98 ap2_99 fs2_100 ln2_101 fo2_102 fa2_103 bf2_104 bn2_105 nu2_106 nw2_107 nf2_108 hw
          refine lv_goto (tgt := 54) hx hb dX8_town_72 (by decide) ?_
          exact ih_22 _ _ _ _ _ _ _ _ _ _ _ _ _ _ _ _ _ _ _ _ (Nat.lt_of_lt_of_le hv.2 (Nat.le_of_lt_succ hI_23)) hv.1 hP hD hS hl
  exact Lm_111 _ _ _ _ _ _ _ _ _ _ _ _ _ _ _ _ _ _ _ _ _ (Nat.lt_succ_self _) hi0 hP hD hS hl
theorem v_X8_town (l : Launch) (G : Gt) (m0 m1 m2 m3 m4 m5 m6 m7 m8 m9 m10 m11 m12 m13 m14 : Nat) (sz : Nat) (mw : Nat → Int64) (ik : Nat → Int32) (zs : Nat → Int32) (cl : Nat → Int32) (hs : Nat → Int32) (ks : Nat → Int32) (wa : Nat → Int32) (ne : Nat → Int32) (mn : Nat → Int32) (tx : Nat → Int32) (th : Nat → Int32) (od : Nat → Int32) (bk : Nat → Int32) (bh : Nat → Int32) (fu : Int32) (fd : Int32) (fi : Int32) (nu : Int32) (nw : Int32) (nf : Int32) (bf : Int32) (bn : Int32) (ts : Int32) (ap : Int32) (fs : Int32) (ln : Int32) (fo : Int32) (fa : Int32) (wr : Int32) (B : Nat → Int) (L : Nat) (hp : MX B L tx ts) : ∀ (fm9_1 : (Nat → Int32)), (fm9_1 = (upd mn 2 0)) → (∀ (fm9_2 : (Nat → Int32)), (fm9_2 = (upd fm9_1 3 0)) → (∃ (I54_20 : (Nat → Int32) → (Nat → Int32) → (Nat → Int32) → (Nat → Int32) → (Nat → Int32) → (Nat → Int32) → (Nat → Int32) → Int32 → Int32 → Int32 → Int32 → Int32 → Int32 → Int32 → Int32 → Int32 → Int32 → Prop) (μ54_21 : (Nat → Int32) → (Nat → Int32) → (Nat → Int32) → (Nat → Int32) → (Nat → Int32) → (Nat → Int32) → (Nat → Int32) → Int32 → Int32 → Int32 → Int32 → Int32 → Int32 → Int32 → Int32 → Int32 → Int32 → Nat), I54_20 zs cl hs ks wa ne fm9_2 3 1 0 0 0 0 fs ln 0 (-1) ∧ (∀ (fm3_3 : (Nat → Int32)) (fm4_4 : (Nat → Int32)) (fm5_5 : (Nat → Int32)) (fm6_6 : (Nat → Int32)) (fm7_7 : (Nat → Int32)) (fm8_8 : (Nat → Int32)) (fm9_9 : (Nat → Int32)) (gm012_10 : Int32) (gm013_11 : Int32) (gm014_12 : Int32) (gm015_13 : Int32) (gm016_14 : Int32) (gm019_15 : Int32) (gm020_16 : Int32) (gm021_17 : Int32) (gm022_18 : Int32) (gm023_19 : Int32), I54_20 fm3_3 fm4_4 fm5_5 fm6_6 fm7_7 fm8_8 fm9_9 gm012_10 gm013_11 gm014_12 gm015_13 gm016_14 gm019_15 gm020_16 gm021_17 gm022_18 gm023_19 → (¬ gm022_18 = 0 → (gm022_18 ≤ 0 → ∀ (fm9_26 : (Nat → Int32)), (fm9_26 = (upd fm9_9 0 (fm9_9 2))) → (∀ (fm9_27 : (Nat → Int32)), (fm9_27 = (upd fm9_26 1 (fm9_26 3))) → (∃ (I145_35 : (Nat → Int32) → (Nat → Int32) → (Nat → Int32) → (Nat → Int32) → (Nat → Int32) → (Nat → Int32) → Int32 → Prop) (μ145_36 : (Nat → Int32) → (Nat → Int32) → (Nat → Int32) → (Nat → Int32) → (Nat → Int32) → (Nat → Int32) → Int32 → Nat), I145_35 fm3_3 fm4_4 fm5_5 fm6_6 fm7_7 fm8_8 0 ∧ (∀ (fm3_28 : (Nat → Int32)) (fm4_29 : (Nat → Int32)) (fm5_30 : (Nat → Int32)) (fm6_31 : (Nat → Int32)) (fm7_32 : (Nat → Int32)) (fm8_33 : (Nat → Int32)) (x1_34 : Int32), I145_35 fm3_28 fm4_29 fm5_30 fm6_31 fm7_32 fm8_33 x1_34 → (10 ≤ x1_34 → ∀ (mw2_41 : Nat → Int64), (MR 0 mw2_41 (bgR fm5_30 fm7_32 (mw 133).toInt) ∧ MF 0 mw mw2_41) → (∀ (fm2_42 : (Nat → Int32)), (fm2_42 = (upd ik 0 (vp_nar .boolean 0))) → (∀ (fm2_43 : (Nat → Int32)), (fm2_43 = (upd fm2_42 1 (vp_nar .boolean 0))) → (((0 : Int32) = 0 ∧ ((∃ f, paT B L = .inl f ∧ (fm9_27 0) = -10 - nI f.1 ∧ gm023_19 = nI f.2 ∧ mw2_41 = mw ∧ fm2_43 = ik ∧ gm012_10 = fu ∧ gm013_11 = fd ∧ gm014_12 = fi ∧ (0 : Int32) = wr ∧ fr2 mn fm9_27 ∧ fr10 zs fm3_28 ∧ fr10 cl fm4_29 ∧ fr10 ks fm6_31 ∧ fr10 ne fm8_33) ∨ (∃ z_, paT B L = .inr z_ ∧ (fm9_27 0) = nI z_.1 ∧ gm023_19 = -1 ∧ MT z_.2.2.1 z_.1 z_.2.1 gm012_10 gm013_11 gm014_12 fm3_28 fm4_29 fm6_31 fm8_33 fm9_27 ∧ (∃ u_, MR 0 mw2_41 u_ ∧ agr z_.1 z_.2.1 (zBeg z_.2.2.1 (mw 133).toInt) u_) ∧ (0 : Int32) = 0 ∧ fm2_43 0 = 0 ∧ fm2_43 1 = 0))))))) ∧ (¬ (10 ≤ x1_34) → (vp_in (10 + x1_34) 20) ∧ ((vp_in x1_34 20) ∧ (∀ (fm3_44 : (Nat → Int32)), (fm3_44 = (upd fm3_28 x1_34.toNatClampNeg (fm3_28 (10 + x1_34).toNatClampNeg))) → ((vp_in (10 + x1_34) 20) ∧ ((vp_in x1_34 20) ∧ (∀ (fm4_45 : (Nat → Int32)), (fm4_45 = (upd fm4_29 x1_34.toNatClampNeg (fm4_29 (10 + x1_34).toNatClampNeg))) → ((vp_in (10 + x1_34) 20) ∧ ((vp_in x1_34 20) ∧ (∀ (fm5_46 : (Nat → Int32)), (fm5_46 = (upd fm5_30 x1_34.toNatClampNeg (fm5_30 (10 + x1_34).toNatClampNeg))) → ((vp_in (10 + x1_34) 20) ∧ ((vp_in x1_34 20) ∧ (∀ (fm6_47 : (Nat → Int32)), (fm6_47 = (upd fm6_31 x1_34.toNatClampNeg (fm6_31 (10 + x1_34).toNatClampNeg))) → ((vp_in (10 + x1_34) 20) ∧ ((vp_in x1_34 20) ∧ (∀ (fm7_48 : (Nat → Int32)), (fm7_48 = (upd fm7_32 x1_34.toNatClampNeg (fm7_32 (10 + x1_34).toNatClampNeg))) → ((vp_in (10 + x1_34) 20) ∧ ((vp_in x1_34 20) ∧ (∀ (fm8_49 : (Nat → Int32)), (fm8_49 = (upd fm8_33 x1_34.toNatClampNeg (fm8_33 (10 + x1_34).toNatClampNeg))) → (I145_35 fm3_44 fm4_45 fm5_46 fm6_47 fm7_48 fm8_49 (x1_34 + 1) ∧ μ145_36 fm3_44 fm4_45 fm5_46 fm6_47 fm7_48 fm8_49 (x1_34 + 1) < μ145_36 fm3_28 fm4_29 fm5_30 fm6_31 fm7_32 fm8_33 x1_34))))))))))))))))))))))) ∧ (¬ (gm022_18 ≤ 0) → ((0 : Int32) = 0 ∧ ((∃ f, paT B L = .inl f ∧ ((-10) - gm022_18) = -10 - nI f.1 ∧ gm023_19 = nI f.2 ∧ mw = mw ∧ ik = ik ∧ fu = fu ∧ fd = fd ∧ fi = fi ∧ wr = wr ∧ fr2 mn fm9_9 ∧ fr10 zs fm3_3 ∧ fr10 cl fm4_4 ∧ fr10 ks fm6_6 ∧ fr10 ne fm8_8) ∨ (∃ z_, paT B L = .inr z_ ∧ ((-10) - gm022_18) = nI z_.1 ∧ gm023_19 = -1 ∧ MT z_.2.2.1 z_.1 z_.2.1 fu fd fi fm3_3 fm4_4 fm6_6 fm8_8 fm9_9 ∧ (∃ u_, MR 0 mw u_ ∧ agr z_.1 z_.2.1 (zBeg z_.2.2.1 (mw 133).toInt) u_) ∧ wr = 0 ∧ ik 0 = 0 ∧ ik 1 = 0))))) ∧ (gm022_18 = 0 → ∃ (gB_53 : Nat → Int) (gL_54 : Nat) (gaq_55 : Nat), ((MX gB_53 gL_54 tx ts ∧ gm019_15 = nI gaq_55 ∧ gaq_55 ≤ gL_54) ∧ (∀ (r_56 : Int32) (ap2_57 : Int32), (ap2_57 = nI (sk gB_53 gL_54 gaq_55) ∧ r_56.toInt = (if sk gB_53 gL_54 gaq_55 < gL_54 then gB_53 (sk gB_53 gL_54 gaq_55) else -1)) → ((r_56 < 0 → (gm022_18 ≤ 0 → ∀ (fm9_60 : (Nat → Int32)), (fm9_60 = (upd fm9_9 0 (fm9_9 2))) → (∀ (fm9_61 : (Nat → Int32)), (fm9_61 = (upd fm9_60 1 (fm9_60 3))) → (∃ (I145_69 : (Nat → Int32) → (Nat → Int32) → (Nat → Int32) → (Nat → Int32) → (Nat → Int32) → (Nat → Int32) → Int32 → Prop) (μ145_70 : (Nat → Int32) → (Nat → Int32) → (Nat → Int32) → (Nat → Int32) → (Nat → Int32) → (Nat → Int32) → Int32 → Nat), I145_69 fm3_3 fm4_4 fm5_5 fm6_6 fm7_7 fm8_8 0 ∧ (∀ (fm3_62 : (Nat → Int32)) (fm4_63 : (Nat → Int32)) (fm5_64 : (Nat → Int32)) (fm6_65 : (Nat → Int32)) (fm7_66 : (Nat → Int32)) (fm8_67 : (Nat → Int32)) (x1_68 : Int32), I145_69 fm3_62 fm4_63 fm5_64 fm6_65 fm7_66 fm8_67 x1_68 → (10 ≤ x1_68 → ∀ (mw2_75 : Nat → Int64), (MR 0 mw2_75 (bgR fm5_64 fm7_66 (mw 133).toInt) ∧ MF 0 mw mw2_75) → (∀ (fm2_76 : (Nat → Int32)), (fm2_76 = (upd ik 0 (vp_nar .boolean 0))) → (∀ (fm2_77 : (Nat → Int32)), (fm2_77 = (upd fm2_76 1 (vp_nar .boolean 0))) → (((0 : Int32) = 0 ∧ ((∃ f, paT B L = .inl f ∧ (fm9_61 0) = -10 - nI f.1 ∧ gm023_19 = nI f.2 ∧ mw2_75 = mw ∧ fm2_77 = ik ∧ gm012_10 = fu ∧ gm013_11 = fd ∧ gm014_12 = fi ∧ (0 : Int32) = wr ∧ fr2 mn fm9_61 ∧ fr10 zs fm3_62 ∧ fr10 cl fm4_63 ∧ fr10 ks fm6_65 ∧ fr10 ne fm8_67) ∨ (∃ z_, paT B L = .inr z_ ∧ (fm9_61 0) = nI z_.1 ∧ gm023_19 = -1 ∧ MT z_.2.2.1 z_.1 z_.2.1 gm012_10 gm013_11 gm014_12 fm3_62 fm4_63 fm6_65 fm8_67 fm9_61 ∧ (∃ u_, MR 0 mw2_75 u_ ∧ agr z_.1 z_.2.1 (zBeg z_.2.2.1 (mw 133).toInt) u_) ∧ (0 : Int32) = 0 ∧ fm2_77 0 = 0 ∧ fm2_77 1 = 0))))))) ∧ (¬ (10 ≤ x1_68) → (vp_in (10 + x1_68) 20) ∧ ((vp_in x1_68 20) ∧ (∀ (fm3_78 : (Nat → Int32)), (fm3_78 = (upd fm3_62 x1_68.toNatClampNeg (fm3_62 (10 + x1_68).toNatClampNeg))) → ((vp_in (10 + x1_68) 20) ∧ ((vp_in x1_68 20) ∧ (∀ (fm4_79 : (Nat → Int32)), (fm4_79 = (upd fm4_63 x1_68.toNatClampNeg (fm4_63 (10 + x1_68).toNatClampNeg))) → ((vp_in (10 + x1_68) 20) ∧ ((vp_in x1_68 20) ∧ (∀ (fm5_80 : (Nat → Int32)), (fm5_80 = (upd fm5_64 x1_68.toNatClampNeg (fm5_64 (10 + x1_68).toNatClampNeg))) → ((vp_in (10 + x1_68) 20) ∧ ((vp_in x1_68 20) ∧ (∀ (fm6_81 : (Nat → Int32)), (fm6_81 = (upd fm6_65 x1_68.toNatClampNeg (fm6_65 (10 + x1_68).toNatClampNeg))) → ((vp_in (10 + x1_68) 20) ∧ ((vp_in x1_68 20) ∧ (∀ (fm7_82 : (Nat → Int32)), (fm7_82 = (upd fm7_66 x1_68.toNatClampNeg (fm7_66 (10 + x1_68).toNatClampNeg))) → ((vp_in (10 + x1_68) 20) ∧ ((vp_in x1_68 20) ∧ (∀ (fm8_83 : (Nat → Int32)), (fm8_83 = (upd fm8_67 x1_68.toNatClampNeg (fm8_67 (10 + x1_68).toNatClampNeg))) → (I145_69 fm3_78 fm4_79 fm5_80 fm6_81 fm7_82 fm8_83 (x1_68 + 1) ∧ μ145_70 fm3_78 fm4_79 fm5_80 fm6_81 fm7_82 fm8_83 (x1_68 + 1) < μ145_70 fm3_62 fm4_63 fm5_64 fm6_65 fm7_66 fm8_67 x1_68))))))))))))))))))))))) ∧ (¬ (gm022_18 ≤ 0) → ((0 : Int32) = 0 ∧ ((∃ f, paT B L = .inl f ∧ ((-10) - gm022_18) = -10 - nI f.1 ∧ gm023_19 = nI f.2 ∧ mw = mw ∧ ik = ik ∧ fu = fu ∧ fd = fd ∧ fi = fi ∧ wr = wr ∧ fr2 mn fm9_9 ∧ fr10 zs fm3_3 ∧ fr10 cl fm4_4 ∧ fr10 ks fm6_6 ∧ fr10 ne fm8_8) ∨ (∃ z_, paT B L = .inr z_ ∧ ((-10) - gm022_18) = nI z_.1 ∧ gm023_19 = -1 ∧ MT z_.2.2.1 z_.1 z_.2.1 fu fd fi fm3_3 fm4_4 fm6_6 fm8_8 fm9_9 ∧ (∃ u_, MR 0 mw u_ ∧ agr z_.1 z_.2.1 (zBeg z_.2.2.1 (mw 133).toInt) u_) ∧ wr = 0 ∧ ik 0 = 0 ∧ ik 1 = 0))))) ∧ (¬ (r_56 < 0) → ∃ (gB_87 : Nat → Int) (gL_88 : Nat) (gaq_89 : Nat) (gtq_90 : PTn), ((MX gB_87 gL_88 tx ts ∧ CSo gL_88 gaq_89 gm022_18 gm023_19 ap2_57 ∧ MW gtq_90 fm3_3 fm4_4 fm5_5 fm6_6 fm7_7 fm8_8 fm9_9 gm012_10 gm013_11 gm014_12 gm015_13 gm016_14 ∧ gtq_90.1 ≤ 9 ∧ gtq_90.2.1 ≤ 8) ∧ (∀ (zs2_92 : Nat → Int32) (cl2_93 : Nat → Int32) (hs2_94 : Nat → Int32) (ks2_95 : Nat → Int32) (wa2_96 : Nat → Int32) (ne2_97 : Nat → Int32) (mn2_98 : Nat → Int32) (ap2_99 : Int32) (fs2_100 : Int32) (ln2_101 : Int32) (fo2_102 : Int32) (fa2_103 : Int32) (bf2_104 : Int32) (bn2_105 : Int32) (nu2_106 : Int32) (nw2_107 : Int32) (nf2_108 : Int32), (MP gL_88 (clR gB_87 gL_88 gaq_89 gtq_90) fo2_102 fa2_103 ap2_99 zs2_92 cl2_93 hs2_94 ks2_95 wa2_96 ne2_97 mn2_98 nu2_106 nw2_107 nf2_108 bf2_104 bn2_105 ∧ fr10 fm3_3 zs2_92 ∧ fr10 fm4_4 cl2_93 ∧ fr10 fm5_5 hs2_94 ∧ fr10 fm6_6 ks2_95 ∧ fr10 fm7_7 wa2_96 ∧ fr10 fm8_8 ne2_97 ∧ fr2 fm9_9 mn2_98) → (I54_20 zs2_92 cl2_93 hs2_94 ks2_95 wa2_96 ne2_97 mn2_98 nu2_106 nw2_107 nf2_108 bf2_104 bn2_105 ap2_99 fs2_100 ln2_101 fo2_102 fa2_103 ∧ μ54_21 zs2_92 cl2_93 hs2_94 ks2_95 wa2_96 ne2_97 mn2_98 nu2_106 nw2_107 nf2_108 bf2_104 bn2_105 ap2_99 fs2_100 ln2_101 fo2_102 fa2_103 < μ54_21 fm3_3 fm4_4 fm5_5 fm6_6 fm7_7 fm8_8 fm9_9 gm012_10 gm013_11 gm014_12 gm015_13 gm016_14 gm019_15 gm020_16 gm021_17 gm022_18 gm023_19))))))))))) := by
  have hX : MX B L tx ts := hp
  have hL := hX.1
  intro mna emna mnb emnb
  refine ⟨fun zs1 cl1 hs1 ks1 wa1 ne1 mn1 nu nw nf bf bn ap _ _ fo fa => ∃ (st : Flt ⊕ (Nat × PTn)), MP L st fo fa ap zs1 cl1 hs1 ks1 wa1 ne1 mn1 nu nw nf bf bn ∧ (fr10 zs zs1 ∧ fr10 cl cl1 ∧ fr10 ks ks1 ∧ fr10 ne ne1 ∧ fr2 mn mn1) ∧ (∀ x, st = .inl x → paT B L = .inl x) ∧ (∀ a t, st = .inr (a, t) → POK t ∧ paR B L a t = paT B L), fun _ _ _ _ _ _ _ _ _ _ _ _ ap _ _ fo _ => if fo = 0 then 402 - ap.toNatClampNeg else 0, ⟨.inr (0, 0, 0, T0n, false, false), ⟨⟨by omega, rfl, rfl, rfl⟩, ?_, ?_, fun b hb => absurd hb (Nat.not_lt_zero _), fun b hb => absurd hb (Nat.not_lt_zero _), rfl, rfl, rfl, rfl, rfl⟩, ⟨fr10.rf _, fr10.rf _, fr10.rf _, fr10.rf _, ?_, ?_⟩, fun x h => absurd h (by intro z; cases z), fun a t h => by cases h; exact ⟨POK_0, rfl⟩⟩, ?_⟩
  · rw [emnb, upd_ne (by omega), emna, upd_at]; rfl
  · rw [emnb, upd_at]; rfl
  · rw [emnb, upd_ne (by omega), emna, upd_ne (by omega)]
  · rw [emnb, upd_ne (by omega), emna, upd_ne (by omega)]
  rintro zs1 cl1 hs1 ks1 wa1 ne1 mn1 nu1 nw1 nf1 bf1 bn1 ap1 fs1 ln1 fo1 fa1 ⟨st, hM, hfr, hf, ho⟩
  cases st with
  | inl x =>
    have h : CSf L x fo1 fa1 ap1 := hM
    have e := hf x rfl
    refine ⟨fun _ => ⟨fun z => absurd z h.pos, fun _ => ⟨rfl, Or.inl ⟨x, e, by rw [h.2.2.1], h.2.2.2.1, rfl, rfl, rfl, rfl, rfl, rfl, hfr.2.2.2.2, hfr.1, hfr.2.1, hfr.2.2.1, hfr.2.2.2.1⟩⟩⟩, fun z => absurd z h.ne⟩
  | inr s =>
    obtain ⟨a, t⟩ := s
    obtain ⟨⟨ha, hfo, hfa, rfl⟩, hW⟩ := hM
    obtain ⟨o2, o3⟩ := ho a t rfl
    have ea : (nI a).toNatClampNeg = a := nI_clamp (by omega)
    refine ⟨fun z => absurd hfo z, fun _ => ⟨B, L, a, ⟨hX, rfl, ha⟩, fun r z hz => ?_⟩⟩
    obtain ⟨rfl, hr⟩ := hz
    have hsa := sk_L (B := B) ha
    have hneg : r < 0 ↔ ¬ sk B L a < L := by
      rw [i_lt hr i32_0]
      by_cases g : sk B L a < L
      · rw [if_pos g]
        have := (hX.2.2 _ g).1
        exact ⟨fun z => absurd z (by omega), fun z => absurd g z⟩
      · rw [if_neg g]
        exact ⟨fun _ => g, fun _ => by decide⟩
    rw [hneg]
    refine ⟨fun hend => ⟨fun _ => ?_, fun z => absurd (by rw [hfo]; decide) z⟩, fun hgo => ?_⟩
    · intro mn2 emn2 mn3 emn3
      refine ⟨fun zs2 cl2 hs2 ks2 wa2 ne2 z => ∃ i, i ≤ 10 ∧ z = nI i ∧ (∀ j, j < i → zs2 j = zs1 (10 + j) ∧ cl2 j = cl1 (10 + j) ∧ hs2 j = hs1 (10 + j) ∧ ks2 j = ks1 (10 + j) ∧ wa2 j = wa1 (10 + j) ∧ ne2 j = ne1 (10 + j)) ∧ (∀ j, 10 ≤ j → zs2 j = zs1 j ∧ cl2 j = cl1 j ∧ hs2 j = hs1 j ∧ ks2 j = ks1 j ∧ wa2 j = wa1 j ∧ ne2 j = ne1 j), fun _ _ _ _ _ _ z => 11 - z.toNatClampNeg, ⟨0, by omega, rfl, fun j hj => absurd hj (Nat.not_lt_zero _), fun j _ => ⟨rfl, rfl, rfl, rfl, rfl, rfl⟩⟩, ?_⟩
      rintro zs2 cl2 hs2 ks2 wa2 ne2 z ⟨i, hi, rfl, hlo, hhi⟩
      have ei : (nI i).toNatClampNeg = i := nI_clamp (by omega)
      have ei1 : nI i + 1 = nI (i + 1) := nI_1 i
      have ei2 : (nI (i + 1)).toNatClampNeg = i + 1 := nI_clamp (by omega)
      have e10 : 10 + nI i = nI (10 + i) := ix1 10 i
      have c10 : (nI (10 + i)).toNatClampNeg = 10 + i := nI_clamp (by omega)
      have hi10 : 10 ≤ nI i ↔ 10 ≤ i := nI_leI (a := 10) (by omega) (by omega)
      simp only [ei, ei1, ei2, e10, c10, hi10]
      refine ⟨fun g mw2 hmw ik2 eik2 ik3 eik3 => ⟨trivial, Or.inr ⟨t, ?_⟩⟩, fun g => ?_⟩
      · have e : i = 10 := by omega
        subst e
        obtain ⟨c1, c2, c3, c4, c5, c6, c7, c8, c9⟩ := hW
        have em0 : mn3 0 = nI t.1 := by rw [emn3, upd_ne (by omega), emn2, upd_at]; exact c1
        have em1 : mn3 1 = nI t.2.1 := by rw [emn3, upd_at, emn2, upd_ne (by omega)]; exact c2
        have hk := o2
        have h9 : t.1 ≤ 9 := hk.1.1
        have h8 : t.2.1 ≤ 8 := hk.1.2.1
        refine ⟨by rw [← o3]; exact pa_end hend, em0, hfa, ⟨em0, em1, fun b hb => ?_, fun p hp => ?_, c5, c6, c7⟩, ⟨_, hmw.1, bgR_ag h9 h8 (fun b hb => ?_) (fun p hp => ?_)⟩, trivial, ?_, ?_⟩
        · rw [(hlo b (by omega)).1, (hlo b (by omega)).2.1]; exact ⟨(c3 b hb).1, (c3 b hb).2.1⟩
        · rw [(hlo p (by omega)).2.2.2.1, (hlo p (by omega)).2.2.2.2.2]; exact ⟨(c4 p hp).1, (c4 p hp).2.2⟩
        · rw [(hlo b (by omega)).2.2.1]; exact (c3 b hb).2.2
        · rw [(hlo p (by omega)).2.2.2.2.1]; exact (c4 p hp).2.1
        · rw [eik3, upd_ne (by omega), eik2, upd_at]; rfl
        · rw [eik3, upd_at]; rfl
      · have va : vp_in (nI (10 + i)) 20 := vp_in_nI (by omega) (by omega)
        have vb : vp_in (nI i) 20 := vp_in_nI (by omega) (by omega)
        refine ⟨va, vb, fun z1 e1 => ⟨va, vb, fun z2 e2 => ⟨va, vb, fun z3 e3 => ⟨va, vb, fun z4 e4 => ⟨va, vb, fun z5 e5 => ⟨va, vb, fun z6 e6 => ⟨⟨i + 1, by omega, rfl, fun j hj => ?_, fun j hj => ?_⟩, by omega⟩⟩⟩⟩⟩⟩⟩
        · have hh := hhi (10 + i) (by omega)
          rw [e1, e2, e3, e4, e5, e6]
          by_cases u : j = i
          · subst u
            rw [upd_at, upd_at, upd_at, upd_at, upd_at, upd_at]
            exact hh
          · rw [upd_ne u, upd_ne u, upd_ne u, upd_ne u, upd_ne u, upd_ne u]
            exact hlo j (by omega)
        · have u : j ≠ i := by omega
          rw [e1, e2, e3, e4, e5, e6, upd_ne u, upd_ne u, upd_ne u, upd_ne u, upd_ne u, upd_ne u]
          exact hhi j hj
    · have hlt : sk B L a < L := Classical.not_not.mp hgo
      refine ⟨B, L, sk B L a, t, ⟨hX, ⟨hsa, hfo, hfa, rfl⟩, hW, o2.1.1, o2.1.2.1⟩, fun zs2 cl2 hs2 ks2 wa2 ne2 mn2 ap2 fs2 ln2 fo2 fa2 bf2 bn2 nu2 nw2 nf2 h2 => ?_⟩
      rw [clR_sk] at h2
      obtain ⟨h2, f1, f2, f3, f4, f5, f6, f7⟩ := h2
      refine ⟨⟨clR B L a t, h2, ⟨hfr.1.tr f1, hfr.2.1.tr f2, hfr.2.2.1.tr f4, hfr.2.2.2.1.tr f6, f7.1.trans hfr.2.2.2.2.1, f7.2.trans hfr.2.2.2.2.2⟩, fun x hx => ?_, fun a2 t2 hx => ?_⟩, ?_⟩
      · rw [← o3]; exact pa_flt ha hlt hx
      · have ck := clR_ok hx ha o2
        exact ⟨ck.2.2, by rw [← o3]; exact pa_go o2 ha hlt hx⟩
      · dsimp only
        rw [if_pos hfo, ea]
        cases hc : clR B L a t with
        | inl x =>
          rw [hc] at h2
          have h2 : CSf L x fo2 fa2 ap2 := h2
          rw [if_neg h2.ne]
          omega
        | inr s2 =>
          obtain ⟨a2, t2⟩ := s2
          rw [hc] at h2
          have ck := clR_ok hc ha o2
          obtain ⟨⟨k1, k2, k3, rfl⟩, -⟩ := h2
          have ea2 : (nI a2).toNatClampNeg = a2 := nI_clamp (by omega)
          rw [if_pos k2, ea2]
          omega
theorem k_X8_town (l : Launch) (G : Gt) (m0 m1 m2 m3 m4 m5 m6 m7 m8 m9 m10 m11 m12 m13 m14 : Nat) (sz : Nat) (mw : Nat → Int64) (ik : Nat → Int32) (zs : Nat → Int32) (cl : Nat → Int32) (hs : Nat → Int32) (ks : Nat → Int32) (wa : Nat → Int32) (ne : Nat → Int32) (mn : Nat → Int32) (tx : Nat → Int32) (th : Nat → Int32) (od : Nat → Int32) (bk : Nat → Int32) (bh : Nat → Int32) (fu : Int32) (fd : Int32) (fi : Int32) (nu : Int32) (nw : Int32) (nf : Int32) (bf : Int32) (bn : Int32) (ts : Int32) (ap : Int32) (fs : Int32) (ln : Int32) (fo : Int32) (fa : Int32) (wr : Int32) (B : Nat → Int) (L : Nat) (hp : MX B L tx ts) : MetI l yX8_town wsX8_town 4 94 G [.ref m0] [(m0, .inr (8, [.ref m1, .ref m2, .ref m3, .ref m4, .ref m5, .ref m6, .ref m7, .ref m8, .ref m9, .int fu, .int fd, .int fi, .int nu, .int nw, .int nf, .int bf, .int bn, .ref m10, .int ts, .int ap, .int fs, .int ln, .int fo, .int fa, .ref m11, .ref m12, .ref m13, .ref m14, .int wr])), aJ G m1 560 mw, aZ G m2 2 ik, aI G m3 20 zs, aI G m4 20 cl, aI G m5 20 hs, aI G m6 20 ks, aI G m7 20 wa, aI G m8 20 ne, aI G m9 4 mn, aI G m10 400 tx, aI G m11 6 th, aI G m12 6 od, aI G m13 30 bk, aI G m14 30 bh] sz (fun (r : Int32) (u : (Nat → Int64) × (Nat → Int32) × (Nat → Int32) × (Nat → Int32) × (Nat → Int32) × (Nat → Int32) × (Nat → Int32) × (Nat → Int32) × (Nat → Int32) × (Int32) × (Int32) × (Int32) × (Int32) × (Int32) × (Int32) × (Int32) × (Int32) × (Int32) × (Int32) × (Int32) × (Int32) × (Int32) × (Int32) × (Int32)) => (u.2.2.2.2.2.2.2.2.2.2.2.2.2.2.2.2.2.1 = 0 ∧ ((∃ f, paT B L = .inl f ∧ r = -10 - nI f.1 ∧ u.2.2.2.2.2.2.2.2.2.2.2.2.2.2.2.2.2.2.2.2.2.2.1 = nI f.2 ∧ u.1 = mw ∧ u.2.1 = ik ∧ u.2.2.2.2.2.2.2.2.2.1 = fu ∧ u.2.2.2.2.2.2.2.2.2.2.1 = fd ∧ u.2.2.2.2.2.2.2.2.2.2.2.1 = fi ∧ u.2.2.2.2.2.2.2.2.2.2.2.2.2.2.2.2.2.2.2.2.2.2.2 = wr ∧ fr2 mn u.2.2.2.2.2.2.2.2.1 ∧ fr10 zs u.2.2.1 ∧ fr10 cl u.2.2.2.1 ∧ fr10 ks u.2.2.2.2.2.1 ∧ fr10 ne u.2.2.2.2.2.2.2.1) ∨ (∃ z_, paT B L = .inr z_ ∧ r = nI z_.1 ∧ u.2.2.2.2.2.2.2.2.2.2.2.2.2.2.2.2.2.2.2.2.2.2.1 = -1 ∧ MT z_.2.2.1 z_.1 z_.2.1 u.2.2.2.2.2.2.2.2.2.1 u.2.2.2.2.2.2.2.2.2.2.1 u.2.2.2.2.2.2.2.2.2.2.2.1 u.2.2.1 u.2.2.2.1 u.2.2.2.2.2.1 u.2.2.2.2.2.2.2.1 u.2.2.2.2.2.2.2.2.1 ∧ (∃ u_, MR 0 u.1 u_ ∧ agr z_.1 z_.2.1 (zBeg z_.2.2.1 (mw 133).toInt) u_) ∧ u.2.2.2.2.2.2.2.2.2.2.2.2.2.2.2.2.2.2.2.2.2.2.2 = 0 ∧ u.2.1 0 = 0 ∧ u.2.1 1 = 0)))) (fun (u : (Nat → Int64) × (Nat → Int32) × (Nat → Int32) × (Nat → Int32) × (Nat → Int32) × (Nat → Int32) × (Nat → Int32) × (Nat → Int32) × (Nat → Int32) × (Int32) × (Int32) × (Int32) × (Int32) × (Int32) × (Int32) × (Int32) × (Int32) × (Int32) × (Int32) × (Int32) × (Int32) × (Int32) × (Int32) × (Int32)) => [(m0, .inr (8, [.ref m1, .ref m2, .ref m3, .ref m4, .ref m5, .ref m6, .ref m7, .ref m8, .ref m9, .int u.2.2.2.2.2.2.2.2.2.1, .int u.2.2.2.2.2.2.2.2.2.2.1, .int u.2.2.2.2.2.2.2.2.2.2.2.1, .int u.2.2.2.2.2.2.2.2.2.2.2.2.1, .int u.2.2.2.2.2.2.2.2.2.2.2.2.2.1, .int u.2.2.2.2.2.2.2.2.2.2.2.2.2.2.1, .int u.2.2.2.2.2.2.2.2.2.2.2.2.2.2.2.1, .int u.2.2.2.2.2.2.2.2.2.2.2.2.2.2.2.2.1, .ref m10, .int u.2.2.2.2.2.2.2.2.2.2.2.2.2.2.2.2.2.1, .int u.2.2.2.2.2.2.2.2.2.2.2.2.2.2.2.2.2.2.1, .int u.2.2.2.2.2.2.2.2.2.2.2.2.2.2.2.2.2.2.2.1, .int u.2.2.2.2.2.2.2.2.2.2.2.2.2.2.2.2.2.2.2.2.1, .int u.2.2.2.2.2.2.2.2.2.2.2.2.2.2.2.2.2.2.2.2.2.1, .int u.2.2.2.2.2.2.2.2.2.2.2.2.2.2.2.2.2.2.2.2.2.2.1, .ref m11, .ref m12, .ref m13, .ref m14, .int u.2.2.2.2.2.2.2.2.2.2.2.2.2.2.2.2.2.2.2.2.2.2.2])), aJ G m1 560 u.1, aZ G m2 2 u.2.1, aI G m3 20 u.2.2.1, aI G m4 20 u.2.2.2.1, aI G m5 20 u.2.2.2.2.1, aI G m6 20 u.2.2.2.2.2.1, aI G m7 20 u.2.2.2.2.2.2.1, aI G m8 20 u.2.2.2.2.2.2.2.1, aI G m9 4 u.2.2.2.2.2.2.2.2.1, aI G m10 400 tx, aI G m11 6 th, aI G m12 6 od, aI G m13 30 bk, aI G m14 30 bh]) :=
  c_X8_town l G m0 m1 m2 m3 m4 m5 m6 m7 m8 m9 m10 m11 m12 m13 m14 sz mw ik zs cl hs ks wa ne mn tx th od bk bh fu fd fi nu nw nf bf bn ts ap fs ln fo fa wr B L (v_X8_town l G m0 m1 m2 m3 m4 m5 m6 m7 m8 m9 m10 m11 m12 m13 m14 sz mw ik zs cl hs ks wa ne mn tx th od bk bh fu fd fi nu nw nf bf bn ts ap fs ln fo fa wr B L hp)
