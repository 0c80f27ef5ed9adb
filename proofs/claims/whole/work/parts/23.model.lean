set_option maxHeartbeats 4000000 in
set_option maxRecDepth 100000 in
theorem c_X8_seating (l : Launch) (G : Gt) (m0 m1 m2 m3 m4 m5 m6 m7 m8 m9 m10 m11 m12 m13 m14 : Nat) (sz : Nat) (mw : Nat → Int64) (ik : Nat → Int32) (zs : Nat → Int32) (cl : Nat → Int32) (hs : Nat → Int32) (ks : Nat → Int32) (wa : Nat → Int32) (ne : Nat → Int32) (mn : Nat → Int32) (tx : Nat → Int32) (th : Nat → Int32) (od : Nat → Int32) (bk : Nat → Int32) (bh : Nat → Int32) (fu : Int32) (fd : Int32) (fi : Int32) (nu : Int32) (nw : Int32) (nf : Int32) (bf : Int32) (bn : Int32) (ts : Int32) (ap : Int32) (fs : Int32) (ln : Int32) (fo : Int32) (fa : Int32) (wr : Int32) (x : Int32) (y : Int32) (hv : (¬ (¬ x.toInt64 < 1 ∧ ¬ 60 < x.toInt64) → True) ∧ (¬ x.toInt64 < 1 ∧ ¬ 60 < x.toInt64 → (¬ y.toInt64 < 0 ∧ ¬ ((1 + (mn 1)).toInt64) < y.toInt64 → (¬ ((mn 1).toInt64) < 1 ∧ ¬ 4 < ((mn 1).toInt64) → ∃ (I58_9 : Int32 → Int32 → Prop) (μ58_10 : Int32 → Int32 → Nat), I58_9 1 0 ∧ (∀ (x3_7 : Int32) (x4_8 : Int32), I58_9 x3_7 x4_8 → ((mn 1) ≤ x4_8 → ∃ (I92_19 : (Nat → Int64) → Int32 → Int64 → Int64 → Int32 → Prop) (μ92_20 : (Nat → Int64) → Int32 → Int64 → Int64 → Int32 → Nat), I92_19 mw (-1) 0 0 0 ∧ (∀ (fm1_14 : (Nat → Int64)) (x4_15 : Int32) (x5_16 : Int64) (x7_17 : Int64) (x9_18 : Int32), I92_19 fm1_14 x4_15 x5_16 x7_17 x9_18 → (x3_7 ≤ x9_18 → (¬ y = 0 → (¬ y = 1 → (True) ∧ (∀ (r_26 : Int32), (True) → (True))) ∧ (y = 1 → True)) ∧ (y = 0 → True)) ∧ (¬ (x3_7 ≤ x9_18) → (True) ∧ (∀ (r_27 : Int32), (True) → ((r_27 = 0 → I92_19 fm1_14 x4_15 x5_16 x7_17 (x9_18 + 1) ∧ μ92_20 fm1_14 x4_15 x5_16 x7_17 (x9_18 + 1) < μ92_20 fm1_14 x4_15 x5_16 x7_17 x9_18) ∧ (¬ (r_27 = 0) → (True) ∧ (∀ (mw2_30 : Nat → Int64), (True) → (∃ (I114_33 : (Nat → Int64) → Int32 → Prop) (μ114_34 : (Nat → Int64) → Int32 → Nat), I114_33 mw2_30 0 ∧ (∀ (fm1_31 : (Nat → Int64)) (x10_32 : Int32), I114_33 fm1_31 x10_32 → ((mn 1) ≤ x10_32 → ∃ (I159_40 : (Nat → Int64) → Int32 → Prop) (μ159_41 : (Nat → Int64) → Int32 → Nat), I159_40 fm1_31 0 ∧ (∀ (fm1_38 : (Nat → Int64)) (x10_39 : Int32), I159_40 fm1_38 x10_39 → (x ≤ x10_39 → (True) ∧ (∀ (r_45 : Int64), (True) → ((True) ∧ (∀ (r_46 : Int64), (True) → ((x4_15 < 0 → I92_19 fm1_38 x9_18 r_45 r_46 (x9_18 + 1) ∧ μ92_20 fm1_38 x9_18 r_45 r_46 (x9_18 + 1) < μ92_20 fm1_14 x4_15 x5_16 x7_17 x9_18) ∧ (¬ (x4_15 < 0) → (r_45 < x5_16 → I92_19 fm1_38 x9_18 r_45 r_46 (x9_18 + 1) ∧ μ92_20 fm1_38 x9_18 r_45 r_46 (x9_18 + 1) < μ92_20 fm1_14 x4_15 x5_16 x7_17 x9_18) ∧ (¬ (r_45 < x5_16) → (¬ r_45 = x5_16 → I92_19 fm1_38 x4_15 x5_16 x7_17 (x9_18 + 1) ∧ μ92_20 fm1_38 x4_15 x5_16 x7_17 (x9_18 + 1) < μ92_20 fm1_14 x4_15 x5_16 x7_17 x9_18) ∧ (r_45 = x5_16 → (r_46 ≤ x7_17 → I92_19 fm1_38 x4_15 x5_16 x7_17 (x9_18 + 1) ∧ μ92_20 fm1_38 x4_15 x5_16 x7_17 (x9_18 + 1) < μ92_20 fm1_14 x4_15 x5_16 x7_17 x9_18) ∧ (¬ (r_46 ≤ x7_17) → I92_19 fm1_38 x9_18 r_45 r_46 (x9_18 + 1) ∧ μ92_20 fm1_38 x9_18 r_45 r_46 (x9_18 + 1) < μ92_20 fm1_14 x4_15 x5_16 x7_17 x9_18))))))))) ∧ (¬ (x ≤ x10_39) → (True) ∧ (∀ (r_51 : Int32) (mw2_52 : Nat → Int64), (True) → (I159_40 mw2_52 (x10_39 + 1) ∧ μ159_41 mw2_52 (x10_39 + 1) < μ159_41 fm1_38 x10_39))))) ∧ (¬ ((mn 1) ≤ x10_32) → (True) ∧ (∀ (r_56 : Int32), (True) → ((vp_in (160 + x10_32) 560) ∧ (I114_33 (vp_updL fm1_31 ((160 + x10_32).toNatClampNeg) r_56.toInt64) (x10_32 + 1) ∧ μ114_34 (vp_updL fm1_31 ((160 + x10_32).toNatClampNeg) r_56.toInt64) (x10_32 + 1) < μ114_34 fm1_31 x10_32))))))))))))) ∧ (¬ ((mn 1) ≤ x4_8) → I58_9 (x3_7 * 10) (x4_8 + 1) ∧ μ58_10 (x3_7 * 10) (x4_8 + 1) < μ58_10 x3_7 x4_8))) ∧ (¬ (¬ ((mn 1).toInt64) < 1 ∧ ¬ 4 < ((mn 1).toInt64)) → True)) ∧ (¬ (¬ y.toInt64 < 0 ∧ ¬ ((1 + (mn 1)).toInt64) < y.toInt64) → True))) : MetI l yX8_seating wsX8_seating 4 101 G [.ref m0, .int x, .int y] [(m0, .inr (8, [.ref m1, .ref m2, .ref m3, .ref m4, .ref m5, .ref m6, .ref m7, .ref m8, .ref m9, .int fu, .int fd, .int fi, .int nu, .int nw, .int nf, .int bf, .int bn, .ref m10, .int ts, .int ap, .int fs, .int ln, .int fo, .int fa, .ref m11, .ref m12, .ref m13, .ref m14, .int wr])), aJ G m1 560 mw, aZ G m2 2 ik, aI G m3 20 zs, aI G m4 20 cl, aI G m5 20 hs, aI G m6 20 ks, aI G m7 20 wa, aI G m8 20 ne, aI G m9 4 mn, aI G m10 400 tx, aI G m11 6 th, aI G m12 6 od, aI G m13 30 bk, aI G m14 30 bh] sz (fun (r : Int32) (u : (Nat → Int64)) => True) (fun (u : (Nat → Int64)) => [(m0, .inr (8, [.ref m1, .ref m2, .ref m3, .ref m4, .ref m5, .ref m6, .ref m7, .ref m8, .ref m9, .int fu, .int fd, .int fi, .int nu, .int nw, .int nf, .int bf, .int bn, .ref m10, .int ts, .int ap, .int fs, .int ln, .int fo, .int fa, .ref m11, .ref m12, .ref m13, .ref m14, .int wr])), aJ G m1 560 u, aZ G m2 2 ik, aI G m3 20 zs, aI G m4 20 cl, aI G m5 20 hs, aI G m6 20 ks, aI G m7 20 wa, aI G m8 20 ne, aI G m9 4 mn, aI G m10 400 tx, aI G m11 6 th, aI G m12 6 od, aI G m13 30 bk, aI G m14 30 bh]) := by
  refine x_startI (cc := cX8_seating) (maxL := 14) (ret := (some .int)) (by decide) rfl (Nat.le_of_ble_eq_true rfl) ?_
  intro p e s m args below meth c A R Q ls hRf hRl hQ C hP hD hS hA hSS hl
  obtain ⟨hx, hb, hr, hml, hown, hts, hlocks, hKK⟩ := C
  have hown : s.vm.findClass RX8 = some m.cls := hown
  have hl : lv_has ls 14 [(0, .ref m0), (1, .int x), (2, .int y)] := hl
  have hinX8 : ∀ w ∈ u_ws RX8 TX8 29, w ∈ wsX8_seating := by decide +kernel
  have kl171 := hts (.constantLong RX8 171 (4)) (by decide +kernel)
  have kl198 := hts (.constant RX8 198 (-1000000003)) (by decide +kernel)
  have kl234 := hts (.constantLong RX8 234 (60)) (by decide +kernel)
  have kl36 := hts (.fieldLink RX8 36 "WarmStonesModel" "many" "[I") (by decide +kernel)
  have kl7 := hts (.fieldLink RX8 7 "WarmStonesModel" "w" "[J") (by decide +kernel)
  have kl73 := hts (.constant RX8 73 (-1000000002)) (by decide +kernel)
  refine lv_iload_n hx hb dX8_seating_0 rfl (lv_at hl 1 rfl) ?_
  refine lv_i2l hx hb dX8_seating_1 rfl ?_
  refine lv_lconst (v := 1) hx hb dX8_seating_2 (by decide) ?_
  refine lv_ldc2 (v := 60) hx hb hown kl234 dX8_seating_3 ?_
  refine x_calliR (x_runS (As := [.long x.toInt64, .long 1, .long 60]) (rest := []) (n := 3) ⟨hx, hb, hml, hown, hts⟩ (k_X8_in l G  _ x.toInt64 1 60) gX8_seating_X8_in rfl (by decide +kernel) ⟨Nat.le_trans (Nat.le_of_ble_eq_true rfl) hRf, Nat.le_trans (Nat.le_of_ble_eq_true rfl) hRl⟩ hKK hSS hS hA hP hD [] (by decide) rfl rfl hl.1 rfl (Nat.le_of_ble_eq_true rfl) dX8_seating_6) hP hD hS hA [] rfl (fun r_1 _ H locs hw hP hS => ?_)
  replace hw := hw.symm; subst hw
  refine lv_if_eq (tgt := 30) hx hb dX8_seating_9 (by decide) (fun hc_2 => ?_) (fun hc_2 => ?_)
  · have hv := hv.1 (tv_eq.mp hc_2)
    refine lv_ldc (v := (-1000000002)) hx hb hown kl73 dX8_seating_30 ?_
    exact x_iret (v := (-1000000002)) mw hQ hx hb hr hlocks hS dX8_seating_32 hv hP hD
  · have hv := hv.2 (tv_eqn.mp hc_2)
    refine lv_iload_n hx hb dX8_seating_12 rfl (lv_at hl 2 rfl) ?_
    refine lv_i2l hx hb dX8_seating_13 rfl ?_
    refine lv_lconst (v := 0) hx hb dX8_seating_14 (by decide) ?_
    refine lv_iconst (v := 1) hx hb dX8_seating_15 (by decide) ?_
    refine lv_aload_n hx hb dX8_seating_16 rfl (lv_at hl 0 rfl) ?_
    refine va_get (D := G.1) (ci := 8) (v := .ref m9) (C := RX8) (T := TX8) (N := 29) hx hb hts hinX8 hown hKK.1 hP 0 rfl rfl 8 (by decide) kl36 (fun _ h9 => h9) rfl dX8_seating_17 ?_
    refine lv_iconst (v := 1) hx hb dX8_seating_20 (by decide) ?_
    refine va_iald hx hb hKK.1 hP 9 0 rfl rfl (by unfold vp_in; decide) dX8_seating_21 ?_
    refine lv_iadd hx hb dX8_seating_22 ?_
    refine lv_i2l hx hb dX8_seating_23 rfl ?_
    refine x_calliR (x_runS (As := [.long y.toInt64, .long 0, .long ((1 + (mn 1)).toInt64)]) (rest := []) (n := 3) ⟨hx, hb, hml, hown, hts⟩ (k_X8_in l G  _ y.toInt64 0 ((1 + (mn 1)).toInt64)) gX8_seating_X8_in rfl (by decide +kernel) ⟨Nat.le_trans (Nat.le_of_ble_eq_true rfl) hRf, Nat.le_trans (Nat.le_of_ble_eq_true rfl) hRl⟩ hKK hSS hS hA hP hD [] (by decide) rfl rfl hl.1 rfl (Nat.le_of_ble_eq_true rfl) dX8_seating_24) hP hD hS hA [] rfl (fun r_3 _ H locs hw hP hS => ?_)
    replace hw := hw.symm; subst hw
    refine lv_if_ne (tgt := 33) hx hb dX8_seating_27 (by decide) (fun hc_4 => ?_) (fun hc_4 => ?_)
    · have hv := hv.1 (tv_eqn.mp hc_4)
      refine lv_aload_n hx hb dX8_seating_33 rfl (lv_at hl 0 rfl) ?_
      refine va_get (D := G.1) (ci := 8) (v := .ref m9) (C := RX8) (T := TX8) (N := 29) hx hb hts hinX8 hown hKK.1 hP 0 rfl rfl 8 (by decide) kl36 (fun _ h9 => h9) rfl dX8_seating_34 ?_
      refine lv_iconst (v := 1) hx hb dX8_seating_37 (by decide) ?_
      refine va_iald hx hb hKK.1 hP 9 0 rfl rfl (by unfold vp_in; decide) dX8_seating_38 ?_
      refine lv_i2l hx hb dX8_seating_39 rfl ?_
      refine lv_lconst (v := 1) hx hb dX8_seating_40 (by decide) ?_
      refine lv_ldc2 (v := 4) hx hb hown kl171 dX8_seating_41 ?_
      refine x_calliR (x_runS (As := [.long ((mn 1).toInt64), .long 1, .long 4]) (rest := []) (n := 3) ⟨hx, hb, hml, hown, hts⟩ (k_X8_in l G  _ ((mn 1).toInt64) 1 4) gX8_seating_X8_in rfl (by decide +kernel) ⟨Nat.le_trans (Nat.le_of_ble_eq_true rfl) hRf, Nat.le_trans (Nat.le_of_ble_eq_true rfl) hRl⟩ hKK hSS hS hA hP hD [] (by decide) rfl rfl hl.1 rfl (Nat.le_of_ble_eq_true rfl) dX8_seating_44) hP hD hS hA [] rfl (fun r_5 _ H locs hw hP hS => ?_)
      replace hw := hw.symm; subst hw
      refine lv_if_ne (tgt := 53) hx hb dX8_seating_47 (by decide) (fun hc_6 => ?_) (fun hc_6 => ?_)
      · have hv := hv.1 (tv_eqn.mp hc_6)
        refine lv_iconst (v := 1) hx hb dX8_seating_53 (by decide) ?_
        refine lv_istore_n (lv' := [(3, .int 1), (0, .ref m0), (1, .int x), (2, .int y)]) hx hb dX8_seating_54 rfl hl (by decide) rfl (fun ls hl => ?_)
        refine lv_iconst (v := 0) hx hb dX8_seating_55 (by decide) ?_
        refine lv_istore (lv' := [(4, .int 0), (3, .int 1), (0, .ref m0), (1, .int x), (2, .int y)]) hx hb dX8_seating_56 hl (by decide) rfl (fun ls hl => ?_)
        obtain ⟨I58_9, μ58_10, hi0, hs_63⟩ := hv
        have Lm_65 : ∀ (n_64 : Nat) (x3_7 : Int32) (x4_8 : Int32) (H : Heap) (locs : List Loc) (ls : Array Slot), μ58_10 x3_7 x4_8 < n_64 → I58_9 x3_7 x4_8 → va_P G.1 vwCl [(m0, .inr (8, [.ref m1, .ref m2, .ref m3, .ref m4, .ref m5, .ref m6, .ref m7, .ref m8, .ref m9, .int fu, .int fd, .int fi, .int nu, .int nw, .int nf, .int bf, .int bn, .ref m10, .int ts, .int ap, .int fs, .int ln, .int fo, .int fa, .ref m11, .ref m12, .ref m13, .ref m14, .int wr])), aJ G m1 560 mw, aZ G m2 2 ik, aI G m3 20 zs, aI G m4 20 cl, aI G m5 20 hs, aI G m6 20 ks, aI G m7 20 wa, aI G m8 20 ne, aI G m9 4 mn, aI G m10 400 tx, aI G m11 6 th, aI G m12 6 od, aI G m13 30 bk, aI G m14 30 bh] H → va_D A [(m0, .inr (8, [.ref m1, .ref m2, .ref m3, .ref m4, .ref m5, .ref m6, .ref m7, .ref m8, .ref m9, .int fu, .int fd, .int fi, .int nu, .int nw, .int nf, .int bf, .int bn, .ref m10, .int ts, .int ap, .int fs, .int ln, .int fo, .int fa, .ref m11, .ref m12, .ref m13, .ref m14, .int wr])), aJ G m1 560 mw, aZ G m2 2 ik, aI G m3 20 zs, aI G m4 20 cl, aI G m5 20 hs, aI G m6 20 ks, aI G m7 20 wa, aI G m8 20 ne, aI G m9 4 mn, aI G m10 400 tx, aI G m11 6 th, aI G m12 6 od, aI G m13 30 bk, aI G m14 30 bh] → va_S A s.heap H locs → lv_has ls 14 [(4, .int x4_8), (3, .int x3_7), (0, .ref m0), (1, .int x), (2, .int y)] → W p l e R s m args below meth c H locs 0 0 Q (F0 m 58 ls []) := by
          intro n_64
          induction n_64 with
          | zero => intro x3_7 x4_8 H locs ls hm; exact absurd hm (Nat.not_lt_zero _)
          | succ n_64 ih_11 =>
            intro x3_7 x4_8 H locs ls hI_12 hi hP hD hS hl
            have hv := hs_63 x3_7 x4_8 hi
            refine lv_iload hx hb dX8_seating_58 (lv_at hl 0 rfl) ?_
            refine lv_aload_n hx hb dX8_seating_60 rfl (lv_at hl 2 rfl) ?_
            refine va_get (D := G.1) (ci := 8) (v := .ref m9) (C := RX8) (T := TX8) (N := 29) hx hb hts hinX8 hown hKK.1 hP 0 rfl rfl 8 (by decide) kl36 (fun _ h9 => h9) rfl dX8_seating_61 ?_
            refine lv_iconst (v := 1) hx hb dX8_seating_64 (by decide) ?_
            refine va_iald hx hb hKK.1 hP 9 0 rfl rfl (by unfold vp_in; decide) dX8_seating_65 ?_
            refine lv_icmp_ge (tgt := 80) hx hb dX8_seating_66 (by decide) (fun hc_13 => ?_) (fun hc_13 => ?_)
            · have hv := hv.1 hc_13
              refine lv_iconst (v := (-1)) hx hb dX8_seating_80 (by decide) ?_
              refine lv_istore (lv' := [(4, .int (-1)), (3, .int x3_7), (0, .ref m0), (1, .int x), (2, .int y)]) hx hb dX8_seating_81 hl (by decide) rfl (fun ls hl => ?_)
              refine lv_lconst (v := 0) hx hb dX8_seating_83 (by decide) ?_
              refine lv_lstore (lv' := [(5, .long 0), (4, .int (-1)), (3, .int x3_7), (0, .ref m0), (1, .int x), (2, .int y)]) hx hb dX8_seating_84 hl (by decide) rfl (fun ls hl => ?_)
              refine lv_lconst (v := 0) hx hb dX8_seating_86 (by decide) ?_
              refine lv_lstore (lv' := [(7, .long 0), (5, .long 0), (4, .int (-1)), (3, .int x3_7), (0, .ref m0), (1, .int x), (2, .int y)]) hx hb dX8_seating_87 hl (by decide) rfl (fun ls hl => ?_)
              refine lv_iconst (v := 0) hx hb dX8_seating_89 (by decide) ?_
              refine lv_istore (lv' := [(9, .int 0), (7, .long 0), (5, .long 0), (4, .int (-1)), (3, .int x3_7), (0, .ref m0), (1, .int x), (2, .int y)]) hx hb dX8_seating_90 hl (by decide) rfl (fun ls hl => ?_)
              obtain ⟨I92_19, μ92_20, hi0, hs_60⟩ := hv
              have Lm_62 : ∀ (n_61 : Nat) (fm1_14 : (Nat → Int64)) (x4_15 : Int32) (x5_16 : Int64) (x7_17 : Int64) (x9_18 : Int32) (H : Heap) (locs : List Loc) (ls : Array Slot), μ92_20 fm1_14 x4_15 x5_16 x7_17 x9_18 < n_61 → I92_19 fm1_14 x4_15 x5_16 x7_17 x9_18 → va_P G.1 vwCl [(m0, .inr (8, [.ref m1, .ref m2, .ref m3, .ref m4, .ref m5, .ref m6, .ref m7, .ref m8, .ref m9, .int fu, .int fd, .int fi, .int nu, .int nw, .int nf, .int bf, .int bn, .ref m10, .int ts, .int ap, .int fs, .int ln, .int fo, .int fa, .ref m11, .ref m12, .ref m13, .ref m14, .int wr])), aJ G m1 560 fm1_14, aZ G m2 2 ik, aI G m3 20 zs, aI G m4 20 cl, aI G m5 20 hs, aI G m6 20 ks, aI G m7 20 wa, aI G m8 20 ne, aI G m9 4 mn, aI G m10 400 tx, aI G m11 6 th, aI G m12 6 od, aI G m13 30 bk, aI G m14 30 bh] H → va_D A [(m0, .inr (8, [.ref m1, .ref m2, .ref m3, .ref m4, .ref m5, .ref m6, .ref m7, .ref m8, .ref m9, .int fu, .int fd, .int fi, .int nu, .int nw, .int nf, .int bf, .int bn, .ref m10, .int ts, .int ap, .int fs, .int ln, .int fo, .int fa, .ref m11, .ref m12, .ref m13, .ref m14, .int wr])), aJ G m1 560 fm1_14, aZ G m2 2 ik, aI G m3 20 zs, aI G m4 20 cl, aI G m5 20 hs, aI G m6 20 ks, aI G m7 20 wa, aI G m8 20 ne, aI G m9 4 mn, aI G m10 400 tx, aI G m11 6 th, aI G m12 6 od, aI G m13 30 bk, aI G m14 30 bh] → va_S A s.heap H locs → lv_has ls 14 [(9, .int x9_18), (7, .long x7_17), (5, .long x5_16), (4, .int x4_15), (3, .int x3_7), (0, .ref m0), (1, .int x), (2, .int y)] → W p l e R s m args below meth c H locs 0 0 Q (F0 m 92 ls []) := by
                intro n_61
                induction n_61 with
                | zero => intro fm1_14 x4_15 x5_16 x7_17 x9_18 H locs ls hm; exact absurd hm (Nat.not_lt_zero _)
                | succ n_61 ih_21 =>
                  intro fm1_14 x4_15 x5_16 x7_17 x9_18 H locs ls hI_22 hi hP hD hS hl
                  have hv := hs_60 fm1_14 x4_15 x5_16 x7_17 x9_18 hi
                  refine lv_iload hx hb dX8_seating_92 (lv_at hl 0 rfl) ?_
                  refine lv_iload_n hx hb dX8_seating_94 rfl (lv_at hl 4 rfl) ?_
                  refine lv_icmp_ge (tgt := 242) hx hb dX8_seating_95 (by decide) (fun hc_23 => ?_) (fun hc_23 => ?_)
                  · have hv := hv.1 hc_23
                    refine lv_iload_n hx hb dX8_seating_242 rfl (lv_at hl 7 rfl) ?_
                    refine lv_if_ne (tgt := 252) hx hb dX8_seating_243 (by decide) (fun hc_24 => ?_) (fun hc_24 => ?_)
                    · have hv := hv.1 hc_24
                      refine lv_iload_n hx hb dX8_seating_252 rfl (lv_at hl 7 rfl) ?_
                      refine lv_iconst (v := 1) hx hb dX8_seating_253 (by decide) ?_
                      refine lv_icmp_ne (tgt := 263) hx hb dX8_seating_254 (by decide) (fun hc_25 => ?_) (fun hc_25 => ?_)
                      · have hv := hv.1 hc_25
                        refine lv_iload hx hb dX8_seating_263 (lv_at hl 3 rfl) ?_
                        refine lv_iload_n hx hb dX8_seating_265 rfl (lv_at hl 7 rfl) ?_
                        refine lv_iconst (v := 2) hx hb dX8_seating_266 (by decide) ?_
                        refine lv_isub hx hb dX8_seating_267 ?_
                        refine lv_aload_n hx hb dX8_seating_268 rfl (lv_at hl 5 rfl) ?_
                        refine va_get (D := G.1) (ci := 8) (v := .ref m9) (C := RX8) (T := TX8) (N := 29) hx hb hts hinX8 hown hKK.1 hP 0 rfl rfl 8 (by decide) kl36 (fun _ h9 => h9) rfl dX8_seating_269 ?_
                        refine lv_iconst (v := 1) hx hb dX8_seating_272 (by decide) ?_
                        refine va_iald hx hb hKK.1 hP 9 0 rfl rfl (by unfold vp_in; decide) dX8_seating_273 ?_
                        obtain ⟨hp, hv⟩ := hv
                        refine x_calliR (x_runS (As := [.int x4_15, .int (y - 2), .int (mn 1)]) (rest := []) (n := 3) ⟨hx, hb, hml, hown, hts⟩ (k_X8_seatIn l G  _ x4_15 (y - 2) (mn 1) hp) gX8_seating_X8_seatIn rfl (by decide +kernel) ⟨Nat.le_trans (Nat.le_of_ble_eq_true rfl) hRf, Nat.le_trans (Nat.le_of_ble_eq_true rfl) hRl⟩ hKK hSS hS hA hP hD [] (by decide) rfl rfl hl.1 rfl (Nat.le_of_ble_eq_true rfl) dX8_seating_274) hP hD hS hA [] rfl (fun r_26 _ H locs hw hP hS => ?_)
                        have hv := hv r_26 hw
                        exact x_iret (v := r_26) fm1_14 hQ hx hb hr hlocks hS dX8_seating_277 hv hP hD
                      · have hv := hv.2 hc_25
                        refine lv_lload hx hb dX8_seating_257 (lv_at hl 1 rfl) ?_
                        refine lv_l2i hx hb dX8_seating_259 rfl ?_
                        refine lv_goto (tgt := 277) hx hb dX8_seating_260 (by decide) ?_
                        exact x_iret (v := x7_17.toInt32) fm1_14 hQ hx hb hr hlocks hS dX8_seating_277 hv hP hD
                    · have hv := hv.2 hc_24
                      refine lv_lload hx hb dX8_seating_246 (lv_at hl 2 rfl) ?_
                      refine lv_l2i hx hb dX8_seating_248 rfl ?_
                      refine lv_goto (tgt := 277) hx hb dX8_seating_249 (by decide) ?_
                      exact x_iret (v := x5_16.toInt32) fm1_14 hQ hx hb hr hlocks hS dX8_seating_277 hv hP hD
                  · have hv := hv.2 hc_23
                    refine lv_aload_n hx hb dX8_seating_98 rfl (lv_at hl 5 rfl) ?_
                    refine lv_iload hx hb dX8_seating_99 (lv_at hl 0 rfl) ?_
                    obtain ⟨hp, hv⟩ := hv
                    refine x_calliR (x_runV (As := [.int x9_18]) (rest := []) (n := 1) (C := RX8) (ci := 8) ⟨hx, hb, hml, hown, hts⟩ (k_X8_isSeating l G m0 m1 m2 m3 m4 m5 m6 m7 m8 m9 m10 m11 m12 m13 m14 _ fm1_14 ik zs cl hs ks wa ne mn tx th od bk bh fu fd fi nu nw nf bf bn ts ap fs ln fo fa wr x9_18 hp) gX8_seating_X8_isSeating rfl (by decide +kernel) ⟨Nat.le_trans (Nat.le_of_ble_eq_true rfl) hRf, Nat.le_trans (Nat.le_of_ble_eq_true rfl) hRl⟩ hKK hSS hS hA hP hD [0, 1, 2, 3, 4, 5, 6, 7, 8, 9, 10, 11, 12, 13, 14] (by decide) rfl rfl rfl 0 rfl rfl hl.1 rfl (Nat.le_of_ble_eq_true rfl) dX8_seating_101) hP hD hS hA [0, 1, 2, 3, 4, 5, 6, 7, 8, 9, 10, 11, 12, 13, 14] rfl (fun r_27 _ H locs hw hP hS => ?_)
                    have hv := hv r_27 hw
                    refine lv_if_eq (tgt := 236) hx hb dX8_seating_104 (by decide) (fun hc_28 => ?_) (fun hc_28 => ?_)
                    · have hv := hv.1 hc_28
                      refine lv_iinc (v := (x9_18 + 1)) (lv' := [(9, .int (x9_18 + 1)), (7, .long x7_17), (5, .long x5_16), (4, .int x4_15), (3, .int x3_7), (0, .ref m0), (1, .int x), (2, .int y)]) hx hb dX8_seating_236 hl (k := 0) rfl rfl (by decide) rfl (fun ls hl => ?_)
                      refine lv_goto (tgt := 92) hx hb dX8_seating_239 (by decide) ?_
                      exact ih_21 _ _ _ _ _ _ _ _ (Nat.lt_of_lt_of_le hv.2 (Nat.le_of_lt_succ hI_22)) hv.1 hP hD hS hl
                    · have hv := hv.2 hc_28
                      refine lv_aload_n hx hb dX8_seating_107 rfl (lv_at hl 5 rfl) ?_
                      obtain ⟨hp, hv⟩ := hv
                      refine x_callv (wr := []) (w' := fun (u : (Nat → Int64)) => [(m0, .inr (8, [.ref m1, .ref m2, .ref m3, .ref m4, .ref m5, .ref m6, .ref m7, .ref m8, .ref m9, .int fu, .int fd, .int fi, .int nu, .int nw, .int nf, .int bf, .int bn, .ref m10, .int ts, .int ap, .int fs, .int ln, .int fo, .int fa, .ref m11, .ref m12, .ref m13, .ref m14, .int wr])), aJ G m1 560 u, aZ G m2 2 ik, aI G m3 20 zs, aI G m4 20 cl, aI G m5 20 hs, aI G m6 20 ks, aI G m7 20 wa, aI G m8 20 ne, aI G m9 4 mn, aI G m10 400 tx, aI G m11 6 th, aI G m12 6 od, aI G m13 30 bk, aI G m14 30 bh]) (x_runV (As := []) (rest := []) (n := 0) (C := RX8) (ci := 8) ⟨hx, hb, hml, hown, hts⟩ (k_X8_tryAllUp l G m0 m1 m2 m3 m4 m5 m6 m7 m8 m9 m10 m11 m12 m13 m14 _ fm1_14 ik zs cl hs ks wa ne mn tx th od bk bh fu fd fi nu nw nf bf bn ts ap fs ln fo fa wr hp) gX8_seating_X8_tryAllUp rfl (by decide +kernel) ⟨Nat.le_trans (Nat.le_of_ble_eq_true rfl) hRf, Nat.le_trans (Nat.le_of_ble_eq_true rfl) hRl⟩ hKK hSS hS hA hP hD [0, 1, 2, 3, 4, 5, 6, 7, 8, 9, 10, 11, 12, 13, 14] (by decide) rfl rfl rfl 0 rfl rfl hl.1 rfl (Nat.le_of_ble_eq_true rfl) dX8_seating_108) hP hD hS hA [0, 1, 2, 3, 4, 5, 6, 7, 8, 9, 10, 11, 12, 13, 14] [] [0, 1, 2, 3, 4, 5, 6, 7, 8, 9, 10, 11, 12, 13, 14] rfl rfl (by decide) (by decide) (by decide) (fun _ => rfl) (fun  u H locs hw hP hD hS => ?_)
                      obtain ⟨mw2_30, rfl⟩ : ∃ z, z = u := ⟨_, rfl⟩
                      have hP : va_P G.1 vwCl [(m0, .inr (8, [.ref m1, .ref m2, .ref m3, .ref m4, .ref m5, .ref m6, .ref m7, .ref m8, .ref m9, .int fu, .int fd, .int fi, .int nu, .int nw, .int nf, .int bf, .int bn, .ref m10, .int ts, .int ap, .int fs, .int ln, .int fo, .int fa, .ref m11, .ref m12, .ref m13, .ref m14, .int wr])), aJ G m1 560 mw2_30, aZ G m2 2 ik, aI G m3 20 zs, aI G m4 20 cl, aI G m5 20 hs, aI G m6 20 ks, aI G m7 20 wa, aI G m8 20 ne, aI G m9 4 mn, aI G m10 400 tx, aI G m11 6 th, aI G m12 6 od, aI G m13 30 bk, aI G m14 30 bh] H := hP
                      have hD : va_D A [(m0, .inr (8, [.ref m1, .ref m2, .ref m3, .ref m4, .ref m5, .ref m6, .ref m7, .ref m8, .ref m9, .int fu, .int fd, .int fi, .int nu, .int nw, .int nf, .int bf, .int bn, .ref m10, .int ts, .int ap, .int fs, .int ln, .int fo, .int fa, .ref m11, .ref m12, .ref m13, .ref m14, .int wr])), aJ G m1 560 mw2_30, aZ G m2 2 ik, aI G m3 20 zs, aI G m4 20 cl, aI G m5 20 hs, aI G m6 20 ks, aI G m7 20 wa, aI G m8 20 ne, aI G m9 4 mn, aI G m10 400 tx, aI G m11 6 th, aI G m12 6 od, aI G m13 30 bk, aI G m14 30 bh] := hD
                      have hv := hv mw2_30 hw
                      refine lv_iconst (v := 0) hx hb dX8_seating_111 (by decide) ?_
                      refine lv_istore (lv' := [(10, .int 0), (9, .int x9_18), (7, .long x7_17), (5, .long x5_16), (4, .int x4_15), (3, .int x3_7), (0, .ref m0), (1, .int x), (2, .int y)]) hx hb dX8_seating_112 hl (by decide) rfl (fun ls hl => ?_)
                      obtain ⟨I114_33, μ114_34, hi0, hs_57⟩ := hv
                      have Lm_59 : ∀ (n_58 : Nat) (fm1_31 : (Nat → Int64)) (x10_32 : Int32) (H : Heap) (locs : List Loc) (ls : Array Slot), μ114_34 fm1_31 x10_32 < n_58 → I114_33 fm1_31 x10_32 → va_P G.1 vwCl [(m0, .inr (8, [.ref m1, .ref m2, .ref m3, .ref m4, .ref m5, .ref m6, .ref m7, .ref m8, .ref m9, .int fu, .int fd, .int fi, .int nu, .int nw, .int nf, .int bf, .int bn, .ref m10, .int ts, .int ap, .int fs, .int ln, .int fo, .int fa, .ref m11, .ref m12, .ref m13, .ref m14, .int wr])), aJ G m1 560 fm1_31, aZ G m2 2 ik, aI G m3 20 zs, aI G m4 20 cl, aI G m5 20 hs, aI G m6 20 ks, aI G m7 20 wa, aI G m8 20 ne, aI G m9 4 mn, aI G m10 400 tx, aI G m11 6 th, aI G m12 6 od, aI G m13 30 bk, aI G m14 30 bh] H → va_D A [(m0, .inr (8, [.ref m1, .ref m2, .ref m3, .ref m4, .ref m5, .ref m6, .ref m7, .ref m8, .ref m9, .int fu, .int fd, .int fi, .int nu, .int nw, .int nf, .int bf, .int bn, .ref m10, .int ts, .int ap, .int fs, .int ln, .int fo, .int fa, .ref m11, .ref m12, .ref m13, .ref m14, .int wr])), aJ G m1 560 fm1_31, aZ G m2 2 ik, aI G m3 20 zs, aI G m4 20 cl, aI G m5 20 hs, aI G m6 20 ks, aI G m7 20 wa, aI G m8 20 ne, aI G m9 4 mn, aI G m10 400 tx, aI G m11 6 th, aI G m12 6 od, aI G m13 30 bk, aI G m14 30 bh] → va_S A s.heap H locs → lv_has ls 14 [(10, .int x10_32), (9, .int x9_18), (7, .long x7_17), (5, .long x5_16), (4, .int x4_15), (3, .int x3_7), (0, .ref m0), (1, .int x), (2, .int y)] → W p l e R s m args below meth c H locs 0 0 Q (F0 m 114 ls []) := by
                        intro n_58
                        induction n_58 with
                        | zero => intro fm1_31 x10_32 H locs ls hm; exact absurd hm (Nat.not_lt_zero _)
                        | succ n_58 ih_35 =>
                          intro fm1_31 x10_32 H locs ls hI_36 hi hP hD hS hl
                          have hv := hs_57 fm1_31 x10_32 hi
                          refine lv_iload hx hb dX8_seating_114 (lv_at hl 0 rfl) ?_
                          refine lv_aload_n hx hb dX8_seating_116 rfl (lv_at hl 6 rfl) ?_
                          refine va_get (D := G.1) (ci := 8) (v := .ref m9) (C := RX8) (T := TX8) (N := 29) hx hb hts hinX8 hown hKK.1 hP 0 rfl rfl 8 (by decide) kl36 (fun _ h9 => h9) rfl dX8_seating_117 ?_
                          refine lv_iconst (v := 1) hx hb dX8_seating_120 (by decide) ?_
                          refine va_iald hx hb hKK.1 hP 9 0 rfl rfl (by unfold vp_in; decide) dX8_seating_121 ?_
                          refine lv_icmp_ge (tgt := 156) hx hb dX8_seating_122 (by decide) (fun hc_37 => ?_) (fun hc_37 => ?_)
                          · have hv := hv.1 hc_37
                            refine lv_iconst (v := 0) hx hb dX8_seating_156 (by decide) ?_
                            refine lv_istore (lv' := [(10, .int 0), (9, .int x9_18), (7, .long x7_17), (5, .long x5_16), (4, .int x4_15), (3, .int x3_7), (0, .ref m0), (1, .int x), (2, .int y)]) hx hb dX8_seating_157 hl (by decide) rfl (fun ls hl => ?_)
                            obtain ⟨I159_40, μ159_41, hi0, hs_53⟩ := hv
                            have Lm_55 : ∀ (n_54 : Nat) (fm1_38 : (Nat → Int64)) (x10_39 : Int32) (H : Heap) (locs : List Loc) (ls : Array Slot), μ159_41 fm1_38 x10_39 < n_54 → I159_40 fm1_38 x10_39 → va_P G.1 vwCl [(m0, .inr (8, [.ref m1, .ref m2, .ref m3, .ref m4, .ref m5, .ref m6, .ref m7, .ref m8, .ref m9, .int fu, .int fd, .int fi, .int nu, .int nw, .int nf, .int bf, .int bn, .ref m10, .int ts, .int ap, .int fs, .int ln, .int fo, .int fa, .ref m11, .ref m12, .ref m13, .ref m14, .int wr])), aJ G m1 560 fm1_38, aZ G m2 2 ik, aI G m3 20 zs, aI G m4 20 cl, aI G m5 20 hs, aI G m6 20 ks, aI G m7 20 wa, aI G m8 20 ne, aI G m9 4 mn, aI G m10 400 tx, aI G m11 6 th, aI G m12 6 od, aI G m13 30 bk, aI G m14 30 bh] H → va_D A [(m0, .inr (8, [.ref m1, .ref m2, .ref m3, .ref m4, .ref m5, .ref m6, .ref m7, .ref m8, .ref m9, .int fu, .int fd, .int fi, .int nu, .int nw, .int nf, .int bf, .int bn, .ref m10, .int ts, .int ap, .int fs, .int ln, .int fo, .int fa, .ref m11, .ref m12, .ref m13, .ref m14, .int wr])), aJ G m1 560 fm1_38, aZ G m2 2 ik, aI G m3 20 zs, aI G m4 20 cl, aI G m5 20 hs, aI G m6 20 ks, aI G m7 20 wa, aI G m8 20 ne, aI G m9 4 mn, aI G m10 400 tx, aI G m11 6 th, aI G m12 6 od, aI G m13 30 bk, aI G m14 30 bh] → va_S A s.heap H locs → lv_has ls 14 [(10, .int x10_39), (9, .int x9_18), (7, .long x7_17), (5, .long x5_16), (4, .int x4_15), (3, .int x3_7), (0, .ref m0), (1, .int x), (2, .int y)] → W p l e R s m args below meth c H locs 0 0 Q (F0 m 159 ls []) := by
                              intro n_54
                              induction n_54 with
                              | zero => intro fm1_38 x10_39 H locs ls hm; exact absurd hm (Nat.not_lt_zero _)
                              | succ n_54 ih_42 =>
                                intro fm1_38 x10_39 H locs ls hI_43 hi hP hD hS hl
                                have hv := hs_53 fm1_38 x10_39 hi
                                refine lv_iload hx hb dX8_seating_159 (lv_at hl 0 rfl) ?_
                                refine lv_iload_n hx hb dX8_seating_161 rfl (lv_at hl 7 rfl) ?_
                                refine lv_icmp_ge (tgt := 180) hx hb dX8_seating_162 (by decide) (fun hc_44 => ?_) (fun hc_44 => ?_)
                                · have hv := hv.1 hc_44
                                  refine lv_aload_n hx hb dX8_seating_180 rfl (lv_at hl 6 rfl) ?_
                                  refine lv_sipush (v := 140) hx hb dX8_seating_181 (by decide) ?_
                                  obtain ⟨hp, hv⟩ := hv
                                  refine x_calllR (x_runV (As := [.int 140]) (rest := []) (n := 1) (C := RX8) (ci := 8) ⟨hx, hb, hml, hown, hts⟩ (k_X8_coldMinutes l G m0 m1 m2 m3 m4 m5 m6 m7 m8 m9 m10 m11 m12 m13 m14 _ fm1_38 ik zs cl hs ks wa ne mn tx th od bk bh fu fd fi nu nw nf bf bn ts ap fs ln fo fa wr 140 hp) gX8_seating_X8_coldMinutes rfl (by decide +kernel) ⟨Nat.le_trans (Nat.le_of_ble_eq_true rfl) hRf, Nat.le_trans (Nat.le_of_ble_eq_true rfl) hRl⟩ hKK hSS hS hA hP hD [0, 1, 2, 3, 4, 5, 6, 7, 8, 9, 10, 11, 12, 13, 14] (by decide) rfl rfl rfl 0 rfl rfl hl.1 rfl (Nat.le_of_ble_eq_true rfl) dX8_seating_184) hP hD hS hA [0, 1, 2, 3, 4, 5, 6, 7, 8, 9, 10, 11, 12, 13, 14] rfl (fun r_45 _ H locs hw hP hS => ?_)
                                  have hv := hv r_45 hw
                                  refine lv_lstore (lv' := [(10, .long r_45), (9, .int x9_18), (7, .long x7_17), (5, .long x5_16), (4, .int x4_15), (3, .int x3_7), (0, .ref m0), (1, .int x), (2, .int y)]) hx hb dX8_seating_187 hl (by decide) rfl (fun ls hl => ?_)
                                  refine lv_aload_n hx hb dX8_seating_189 rfl (lv_at hl 6 rfl) ?_
                                  obtain ⟨hp, hv⟩ := hv
                                  refine x_calllR (x_runV (As := []) (rest := []) (n := 0) (C := RX8) (ci := 8) ⟨hx, hb, hml, hown, hts⟩ (k_X8_leastWarmth l G m0 m1 m2 m3 m4 m5 m6 m7 m8 m9 m10 m11 m12 m13 m14 _ fm1_38 ik zs cl hs ks wa ne mn tx th od bk bh fu fd fi nu nw nf bf bn ts ap fs ln fo fa wr hp) gX8_seating_X8_leastWarmth rfl (by decide +kernel) ⟨Nat.le_trans (Nat.le_of_ble_eq_true rfl) hRf, Nat.le_trans (Nat.le_of_ble_eq_true rfl) hRl⟩ hKK hSS hS hA hP hD [0, 1, 2, 3, 4, 5, 6, 7, 8, 9, 10, 11, 12, 13, 14] (by decide) rfl rfl rfl 0 rfl rfl hl.1 rfl (Nat.le_of_ble_eq_true rfl) dX8_seating_190) hP hD hS hA [0, 1, 2, 3, 4, 5, 6, 7, 8, 9, 10, 11, 12, 13, 14] rfl (fun r_46 _ H locs hw hP hS => ?_)
                                  have hv := hv r_46 hw
                                  refine lv_lstore (lv' := [(12, .long r_46), (10, .long r_45), (9, .int x9_18), (7, .long x7_17), (5, .long x5_16), (4, .int x4_15), (3, .int x3_7), (0, .ref m0), (1, .int x), (2, .int y)]) hx hb dX8_seating_193 hl (by decide) rfl (fun ls hl => ?_)
                                  refine lv_iload hx hb dX8_seating_195 (lv_at hl 5 rfl) ?_
                                  refine lv_if_lt (tgt := 224) hx hb dX8_seating_197 (by decide) (fun hc_47 => ?_) (fun hc_47 => ?_)
                                  · have hv := hv.1 hc_47
                                    refine lv_iload hx hb dX8_seating_224 (lv_at hl 2 rfl) ?_
                                    refine lv_istore (lv' := [(4, .int x9_18), (12, .long r_46), (10, .long r_45), (9, .int x9_18), (7, .long x7_17), (5, .long x5_16), (3, .int x3_7), (0, .ref m0), (1, .int x), (2, .int y)]) hx hb dX8_seating_226 hl (by decide) rfl (fun ls hl => ?_)
                                    refine lv_lload hx hb dX8_seating_228 (lv_at hl 2 rfl) ?_
                                    refine lv_lstore (lv' := [(5, .long r_45), (4, .int x9_18), (12, .long r_46), (10, .long r_45), (9, .int x9_18), (7, .long x7_17), (3, .int x3_7), (0, .ref m0), (1, .int x), (2, .int y)]) hx hb dX8_seating_230 hl (by decide) rfl (fun ls hl => ?_)
                                    refine lv_lload hx hb dX8_seating_232 (lv_at hl 2 rfl) ?_
                                    refine lv_lstore (lv' := [(7, .long r_46), (5, .long r_45), (4, .int x9_18), (12, .long r_46), (10, .long r_45), (9, .int x9_18), (3, .int x3_7), (0, .ref m0), (1, .int x), (2, .int y)]) hx hb dX8_seating_234 hl (by decide) rfl (fun ls hl => ?_)
                                    refine lv_iinc (v := (x9_18 + 1)) (lv' := [(9, .int (x9_18 + 1)), (7, .long r_46), (5, .long r_45), (4, .int x9_18), (12, .long r_46), (10, .long r_45), (3, .int x3_7), (0, .ref m0), (1, .int x), (2, .int y)]) hx hb dX8_seating_236 hl (k := 5) rfl rfl (by decide) rfl (fun ls hl => ?_)
                                    refine lv_goto (tgt := 92) hx hb dX8_seating_239 (by decide) ?_
                                    exact ih_21 _ _ _ _ _ _ _ _ (Nat.lt_of_lt_of_le hv.2 (Nat.le_of_lt_succ hI_22)) hv.1 hP hD hS (lv_sub hl [0, 1, 2, 3, 6, 7, 8, 9] rfl)
                                  · have hv := hv.2 hc_47
                                    refine lv_lload hx hb dX8_seating_200 (lv_at hl 1 rfl) ?_
                                    refine lv_lload hx hb dX8_seating_202 (lv_at hl 4 rfl) ?_
                                    refine W.lcmp hx hb dX8_seating_204 ?_
                                    refine lv_if_lt (tgt := 224) hx hb dX8_seating_205 (by decide) (fun hc_48 => ?_) (fun hc_48 => ?_)
                                    · have hv := hv.1 ((lg_cmp_lt _ _).mp hc_48)
                                      refine lv_iload hx hb dX8_seating_224 (lv_at hl 2 rfl) ?_
                                      refine lv_istore (lv' := [(4, .int x9_18), (12, .long r_46), (10, .long r_45), (9, .int x9_18), (7, .long x7_17), (5, .long x5_16), (3, .int x3_7), (0, .ref m0), (1, .int x), (2, .int y)]) hx hb dX8_seating_226 hl (by decide) rfl (fun ls hl => ?_)
                                      refine lv_lload hx hb dX8_seating_228 (lv_at hl 2 rfl) ?_
                                      refine lv_lstore (lv' := [(5, .long r_45), (4, .int x9_18), (12, .long r_46), (10, .long r_45), (9, .int x9_18), (7, .long x7_17), (3, .int x3_7), (0, .ref m0), (1, .int x), (2, .int y)]) hx hb dX8_seating_230 hl (by decide) rfl (fun ls hl => ?_)
                                      refine lv_lload hx hb dX8_seating_232 (lv_at hl 2 rfl) ?_
                                      refine lv_lstore (lv' := [(7, .long r_46), (5, .long r_45), (4, .int x9_18), (12, .long r_46), (10, .long r_45), (9, .int x9_18), (3, .int x3_7), (0, .ref m0), (1, .int x), (2, .int y)]) hx hb dX8_seating_234 hl (by decide) rfl (fun ls hl => ?_)
                                      refine lv_iinc (v := (x9_18 + 1)) (lv' := [(9, .int (x9_18 + 1)), (7, .long r_46), (5, .long r_45), (4, .int x9_18), (12, .long r_46), (10, .long r_45), (3, .int x3_7), (0, .ref m0), (1, .int x), (2, .int y)]) hx hb dX8_seating_236 hl (k := 5) rfl rfl (by decide) rfl (fun ls hl => ?_)
                                      refine lv_goto (tgt := 92) hx hb dX8_seating_239 (by decide) ?_
                                      exact ih_21 _ _ _ _ _ _ _ _ (Nat.lt_of_lt_of_le hv.2 (Nat.le_of_lt_succ hI_22)) hv.1 hP hD hS (lv_sub hl [0, 1, 2, 3, 6, 7, 8, 9] rfl)
                                    · have hv := hv.2 (fun h => hc_48 ((lg_cmp_lt _ _).mpr h))
                                      refine lv_lload hx hb dX8_seating_208 (lv_at hl 1 rfl) ?_
                                      refine lv_lload hx hb dX8_seating_210 (lv_at hl 4 rfl) ?_
                                      refine W.lcmp hx hb dX8_seating_212 ?_
                                      refine lv_if_ne (tgt := 236) hx hb dX8_seating_213 (by decide) (fun hc_49 => ?_) (fun hc_49 => ?_)
                                      · have hv := hv.1 (fun h => hc_49 ((lg_cmp_eq _ _).mpr h))
                                        refine lv_iinc (v := (x9_18 + 1)) (lv' := [(9, .int (x9_18 + 1)), (12, .long r_46), (10, .long r_45), (7, .long x7_17), (5, .long x5_16), (4, .int x4_15), (3, .int x3_7), (0, .ref m0), (1, .int x), (2, .int y)]) hx hb dX8_seating_236 hl (k := 2) rfl rfl (by decide) rfl (fun ls hl => ?_)
                                        refine lv_goto (tgt := 92) hx hb dX8_seating_239 (by decide) ?_
                                        exact ih_21 _ _ _ _ _ _ _ _ (Nat.lt_of_lt_of_le hv.2 (Nat.le_of_lt_succ hI_22)) hv.1 hP hD hS (lv_sub hl [0, 3, 4, 5, 6, 7, 8, 9] rfl)
                                      · have hv := hv.2 ((lg_cmp_eq _ _).mp hc_49)
                                        refine lv_lload hx hb dX8_seating_216 (lv_at hl 0 rfl) ?_
                                        refine lv_lload hx hb dX8_seating_218 (lv_at hl 3 rfl) ?_
                                        refine W.lcmp hx hb dX8_seating_220 ?_
                                        refine lv_if_le (tgt := 236) hx hb dX8_seating_221 (by decide) (fun hc_50 => ?_) (fun hc_50 => ?_)
                                        · have hv := hv.1 ((lg_cmp_le _ _).mp hc_50)
                                          refine lv_iinc (v := (x9_18 + 1)) (lv' := [(9, .int (x9_18 + 1)), (12, .long r_46), (10, .long r_45), (7, .long x7_17), (5, .long x5_16), (4, .int x4_15), (3, .int x3_7), (0, .ref m0), (1, .int x), (2, .int y)]) hx hb dX8_seating_236 hl (k := 2) rfl rfl (by decide) rfl (fun ls hl => ?_)
                                          refine lv_goto (tgt := 92) hx hb dX8_seating_239 (by decide) ?_
                                          exact ih_21 _ _ _ _ _ _ _ _ (Nat.lt_of_lt_of_le hv.2 (Nat.le_of_lt_succ hI_22)) hv.1 hP hD hS (lv_sub hl [0, 3, 4, 5, 6, 7, 8, 9] rfl)
                                        · have hv := hv.2 (fun h => hc_50 ((lg_cmp_le _ _).mpr h))
                                          refine lv_iload hx hb dX8_seating_224 (lv_at hl 2 rfl) ?_
                                          refine lv_istore (lv' := [(4, .int x9_18), (12, .long r_46), (10, .long r_45), (9, .int x9_18), (7, .long x7_17), (5, .long x5_16), (3, .int x3_7), (0, .ref m0), (1, .int x), (2, .int y)]) hx hb dX8_seating_226 hl (by decide) rfl (fun ls hl => ?_)
                                          refine lv_lload hx hb dX8_seating_228 (lv_at hl 2 rfl) ?_
                                          refine lv_lstore (lv' := [(5, .long r_45), (4, .int x9_18), (12, .long r_46), (10, .long r_45), (9, .int x9_18), (7, .long x7_17), (3, .int x3_7), (0, .ref m0), (1, .int x), (2, .int y)]) hx hb dX8_seating_230 hl (by decide) rfl (fun ls hl => ?_)
                                          refine lv_lload hx hb dX8_seating_232 (lv_at hl 2 rfl) ?_
                                          refine lv_lstore (lv' := [(7, .long r_46), (5, .long r_45), (4, .int x9_18), (12, .long r_46), (10, .long r_45), (9, .int x9_18), (3, .int x3_7), (0, .ref m0), (1, .int x), (2, .int y)]) hx hb dX8_seating_234 hl (by decide) rfl (fun ls hl => ?_)
                                          refine lv_iinc (v := (x9_18 + 1)) (lv' := [(9, .int (x9_18 + 1)), (7, .long r_46), (5, .long r_45), (4, .int x9_18), (12, .long r_46), (10, .long r_45), (3, .int x3_7), (0, .ref m0), (1, .int x), (2, .int y)]) hx hb dX8_seating_236 hl (k := 5) rfl rfl (by decide) rfl (fun ls hl => ?_)
                                          refine lv_goto (tgt := 92) hx hb dX8_seating_239 (by decide) ?_
                                          exact ih_21 _ _ _ _ _ _ _ _ (Nat.lt_of_lt_of_le hv.2 (Nat.le_of_lt_succ hI_22)) hv.1 hP hD hS (lv_sub hl [0, 1, 2, 3, 6, 7, 8, 9] rfl)
                                · have hv := hv.2 hc_44
                                  refine lv_aload_n hx hb dX8_seating_165 rfl (lv_at hl 6 rfl) ?_
                                  refine lv_sipush (v := 140) hx hb dX8_seating_166 (by decide) ?_
                                  obtain ⟨hp, hv⟩ := hv
                                  refine x_calli (wr := []) (w' := fun (u : (Nat → Int64)) => [(m0, .inr (8, [.ref m1, .ref m2, .ref m3, .ref m4, .ref m5, .ref m6, .ref m7, .ref m8, .ref m9, .int fu, .int fd, .int fi, .int nu, .int nw, .int nf, .int bf, .int bn, .ref m10, .int ts, .int ap, .int fs, .int ln, .int fo, .int fa, .ref m11, .ref m12, .ref m13, .ref m14, .int wr])), aJ G m1 560 u, aZ G m2 2 ik, aI G m3 20 zs, aI G m4 20 cl, aI G m5 20 hs, aI G m6 20 ks, aI G m7 20 wa, aI G m8 20 ne, aI G m9 4 mn, aI G m10 400 tx, aI G m11 6 th, aI G m12 6 od, aI G m13 30 bk, aI G m14 30 bh]) (x_runV (As := [.int 140]) (rest := []) (n := 1) (C := RX8) (ci := 8) ⟨hx, hb, hml, hown, hts⟩ (k_X8_pass l G m0 m1 m2 m3 m4 m5 m6 m7 m8 m9 m10 m11 m12 m13 m14 _ fm1_38 ik zs cl hs ks wa ne mn tx th od bk bh fu fd fi nu nw nf bf bn ts ap fs ln fo fa wr 140 hp) gX8_seating_X8_pass rfl (by decide +kernel) ⟨Nat.le_trans (Nat.le_of_ble_eq_true rfl) hRf, Nat.le_trans (Nat.le_of_ble_eq_true rfl) hRl⟩ hKK hSS hS hA hP hD [0, 1, 2, 3, 4, 5, 6, 7, 8, 9, 10, 11, 12, 13, 14] (by decide) rfl rfl rfl 0 rfl rfl hl.1 rfl (Nat.le_of_ble_eq_true rfl) dX8_seating_169) hP hD hS hA [0, 1, 2, 3, 4, 5, 6, 7, 8, 9, 10, 11, 12, 13, 14] [] [0, 1, 2, 3, 4, 5, 6, 7, 8, 9, 10, 11, 12, 13, 14] rfl rfl (by decide) (by decide) (by decide) (fun _ => rfl) (fun r_51 u H locs hw hP hD hS => ?_)
                                  obtain ⟨mw2_52, rfl⟩ : ∃ z, z = u := ⟨_, rfl⟩
                                  have hP : va_P G.1 vwCl [(m0, .inr (8, [.ref m1, .ref m2, .ref m3, .ref m4, .ref m5, .ref m6, .ref m7, .ref m8, .ref m9, .int fu, .int fd, .int fi, .int nu, .int nw, .int nf, .int bf, .int bn, .ref m10, .int ts, .int ap, .int fs, .int ln, .int fo, .int fa, .ref m11, .ref m12, .ref m13, .ref m14, .int wr])), aJ G m1 560 mw2_52, aZ G m2 2 ik, aI G m3 20 zs, aI G m4 20 cl, aI G m5 20 hs, aI G m6 20 ks, aI G m7 20 wa, aI G m8 20 ne, aI G m9 4 mn, aI G m10 400 tx, aI G m11 6 th, aI G m12 6 od, aI G m13 30 bk, aI G m14 30 bh] H := hP
                                  have hD : va_D A [(m0, .inr (8, [.ref m1, .ref m2, .ref m3, .ref m4, .ref m5, .ref m6, .ref m7, .ref m8, .ref m9, .int fu, .int fd, .int fi, .int nu, .int nw, .int nf, .int bf, .int bn, .ref m10, .int ts, .int ap, .int fs, .int ln, .int fo, .int fa, .ref m11, .ref m12, .ref m13, .ref m14, .int wr])), aJ G m1 560 mw2_52, aZ G m2 2 ik, aI G m3 20 zs, aI G m4 20 cl, aI G m5 20 hs, aI G m6 20 ks, aI G m7 20 wa, aI G m8 20 ne, aI G m9 4 mn, aI G m10 400 tx, aI G m11 6 th, aI G m12 6 od, aI G m13 30 bk, aI G m14 30 bh] := hD
                                  have hv := hv r_51 mw2_52 hw
                                  refine lv_istore (lv' := [(11, .int r_51), (10, .int x10_39), (9, .int x9_18), (7, .long x7_17), (5, .long x5_16), (4, .int x4_15), (3, .int x3_7), (0, .ref m0), (1, .int x), (2, .int y)]) hx hb dX8_seating_172 hl (by decide) rfl (fun ls hl => ?_)
                                  refine lv_iinc (v := (x10_39 + 1)) (lv' := [(10, .int (x10_39 + 1)), (11, .int r_51), (9, .int x9_18), (7, .long x7_17), (5, .long x5_16), (4, .int x4_15), (3, .int x3_7), (0, .ref m0), (1, .int x), (2, .int y)]) hx hb dX8_seating_174 hl (k := 1) rfl rfl (by decide) rfl (fun ls hl => ?_)
                                  refine lv_goto (tgt := 159) hx hb dX8_seating_177 (by decide) ?_
                                  exact ih_42 _ _ _ _ _ (Nat.lt_of_lt_of_le hv.2 (Nat.le_of_lt_succ hI_43)) hv.1 hP hD hS (lv_sub hl [0, 2, 3, 4, 5, 6, 7, 8, 9] rfl)
                            exact Lm_55 _ _ _ _ _ _ (Nat.lt_succ_self _) hi0 hP hD hS hl
                          · have hv := hv.2 hc_37
                            refine lv_aload_n hx hb dX8_seating_125 rfl (lv_at hl 6 rfl) ?_
                            refine va_get (D := G.1) (ci := 8) (v := .ref m1) (C := RX8) (T := TX8) (N := 29) hx hb hts hinX8 hown hKK.1 hP 0 rfl rfl 0 (by decide) kl7 (fun _ h9 => h9) rfl dX8_seating_126 ?_
                            refine lv_sipush (v := 160) hx hb dX8_seating_129 (by decide) ?_
                            refine lv_iload hx hb dX8_seating_132 (lv_at hl 0 rfl) ?_
                            refine lv_iadd hx hb dX8_seating_134 ?_
                            refine lv_iload hx hb dX8_seating_135 (lv_at hl 1 rfl) ?_
                            refine lv_iload hx hb dX8_seating_137 (lv_at hl 0 rfl) ?_
                            refine lv_aload_n hx hb dX8_seating_139 rfl (lv_at hl 6 rfl) ?_
                            refine va_get (D := G.1) (ci := 8) (v := .ref m9) (C := RX8) (T := TX8) (N := 29) hx hb hts hinX8 hown hKK.1 hP 0 rfl rfl 8 (by decide) kl36 (fun _ h9 => h9) rfl dX8_seating_140 ?_
                            refine lv_iconst (v := 1) hx hb dX8_seating_143 (by decide) ?_
                            refine va_iald hx hb hKK.1 hP 9 0 rfl rfl (by unfold vp_in; decide) dX8_seating_144 ?_
                            obtain ⟨hp, hv⟩ := hv
                            refine x_calliR (x_runS (As := [.int x9_18, .int x10_32, .int (mn 1)]) (rest := [.int (160 + x10_32), .ref m1]) (n := 3) ⟨hx, hb, hml, hown, hts⟩ (k_X8_seatIn l G  _ x9_18 x10_32 (mn 1) hp) gX8_seating_X8_seatIn rfl (by decide +kernel) ⟨Nat.le_trans (Nat.le_of_ble_eq_true rfl) hRf, Nat.le_trans (Nat.le_of_ble_eq_true rfl) hRl⟩ hKK hSS hS hA hP hD [] (by decide) rfl rfl hl.1 rfl (Nat.le_of_ble_eq_true rfl) dX8_seating_145) hP hD hS hA [] rfl (fun r_56 _ H locs hw hP hS => ?_)
                            have hv := hv r_56 hw
                            refine lv_i2l hx hb dX8_seating_148 rfl ?_
                            obtain ⟨hin, hv⟩ := hv
                            refine va_last hx hb hKK.1 hP hD hS 1 2 rfl rfl hin dX8_seating_149 (fun H locs hP hD hS => ?_)
                            have hP : va_P G.1 vwCl [(m0, .inr (8, [.ref m1, .ref m2, .ref m3, .ref m4, .ref m5, .ref m6, .ref m7, .ref m8, .ref m9, .int fu, .int fd, .int fi, .int nu, .int nw, .int nf, .int bf, .int bn, .ref m10, .int ts, .int ap, .int fs, .int ln, .int fo, .int fa, .ref m11, .ref m12, .ref m13, .ref m14, .int wr])), aJ G m1 560 (vp_updL fm1_31 ((160 + x10_32).toNatClampNeg) r_56.toInt64), aZ G m2 2 ik, aI G m3 20 zs, aI G m4 20 cl, aI G m5 20 hs, aI G m6 20 ks, aI G m7 20 wa, aI G m8 20 ne, aI G m9 4 mn, aI G m10 400 tx, aI G m11 6 th, aI G m12 6 od, aI G m13 30 bk, aI G m14 30 bh] H := hP
                            have hD : va_D A [(m0, .inr (8, [.ref m1, .ref m2, .ref m3, .ref m4, .ref m5, .ref m6, .ref m7, .ref m8, .ref m9, .int fu, .int fd, .int fi, .int nu, .int nw, .int nf, .int bf, .int bn, .ref m10, .int ts, .int ap, .int fs, .int ln, .int fo, .int fa, .ref m11, .ref m12, .ref m13, .ref m14, .int wr])), aJ G m1 560 (vp_updL fm1_31 ((160 + x10_32).toNatClampNeg) r_56.toInt64), aZ G m2 2 ik, aI G m3 20 zs, aI G m4 20 cl, aI G m5 20 hs, aI G m6 20 ks, aI G m7 20 wa, aI G m8 20 ne, aI G m9 4 mn, aI G m10 400 tx, aI G m11 6 th, aI G m12 6 od, aI G m13 30 bk, aI G m14 30 bh] := hD
                            refine lv_iinc (v := (x10_32 + 1)) (lv' := [(10, .int (x10_32 + 1)), (9, .int x9_18), (7, .long x7_17), (5, .long x5_16), (4, .int x4_15), (3, .int x3_7), (0, .ref m0), (1, .int x), (2, .int y)]) hx hb dX8_seating_150 hl (k := 0) rfl rfl (by decide) rfl (fun ls hl => ?_)
                            refine lv_goto (tgt := 114) hx hb dX8_seating_153 (by decide) ?_
                            exact ih_35 _ _ _ _ _ (Nat.lt_of_lt_of_le hv.2 (Nat.le_of_lt_succ hI_36)) hv.1 hP hD hS hl
                      exact Lm_59 _ _ _ _ _ _ (Nat.lt_succ_self _) hi0 hP hD hS hl
              exact Lm_62 _ _ _ _ _ _ _ _ _ (Nat.lt_succ_self _) hi0 hP hD hS hl
            · have hv := hv.2 hc_13
              refine lv_iload_n hx hb dX8_seating_69 rfl (lv_at hl 1 rfl) ?_
              refine lv_bipush (v := 10) hx hb dX8_seating_70 (by decide) ?_
              refine lv_imul hx hb dX8_seating_72 ?_
              refine lv_istore_n (lv' := [(3, .int (x3_7 * 10)), (4, .int x4_8), (0, .ref m0), (1, .int x), (2, .int y)]) hx hb dX8_seating_73 rfl hl (by decide) rfl (fun ls hl => ?_)
              refine lv_iinc (v := (x4_8 + 1)) (lv' := [(4, .int (x4_8 + 1)), (3, .int (x3_7 * 10)), (0, .ref m0), (1, .int x), (2, .int y)]) hx hb dX8_seating_74 hl (k := 1) rfl rfl (by decide) rfl (fun ls hl => ?_)
              refine lv_goto (tgt := 58) hx hb dX8_seating_77 (by decide) ?_
              exact ih_11 _ _ _ _ _ (Nat.lt_of_lt_of_le hv.2 (Nat.le_of_lt_succ hI_12)) hv.1 hP hD hS hl
        exact Lm_65 _ _ _ _ _ _ (Nat.lt_succ_self _) hi0 hP hD hS hl
      · have hv := hv.2 (tv_eq.mp hc_6)
        refine lv_ldc (v := (-1000000003)) hx hb hown kl198 dX8_seating_50 ?_
        exact x_iret (v := (-1000000003)) mw hQ hx hb hr hlocks hS dX8_seating_52 hv hP hD
    · have hv := hv.2 (tv_eq.mp hc_4)
      refine lv_ldc (v := (-1000000002)) hx hb hown kl73 dX8_seating_30 ?_
      exact x_iret (v := (-1000000002)) mw hQ hx hb hr hlocks hS dX8_seating_32 hv hP hD
theorem k_X8_seating (l : Launch) (G : Gt) (m0 m1 m2 m3 m4 m5 m6 m7 m8 m9 m10 m11 m12 m13 m14 : Nat) (sz : Nat) (mw : Nat → Int64) (ik : Nat → Int32) (zs : Nat → Int32) (cl : Nat → Int32) (hs : Nat → Int32) (ks : Nat → Int32) (wa : Nat → Int32) (ne : Nat → Int32) (mn : Nat → Int32) (tx : Nat → Int32) (th : Nat → Int32) (od : Nat → Int32) (bk : Nat → Int32) (bh : Nat → Int32) (fu : Int32) (fd : Int32) (fi : Int32) (nu : Int32) (nw : Int32) (nf : Int32) (bf : Int32) (bn : Int32) (ts : Int32) (ap : Int32) (fs : Int32) (ln : Int32) (fo : Int32) (fa : Int32) (wr : Int32) (x : Int32) (y : Int32) (hp : True) : MetI l yX8_seating wsX8_seating 4 101 G [.ref m0, .int x, .int y] [(m0, .inr (8, [.ref m1, .ref m2, .ref m3, .ref m4, .ref m5, .ref m6, .ref m7, .ref m8, .ref m9, .int fu, .int fd, .int fi, .int nu, .int nw, .int nf, .int bf, .int bn, .ref m10, .int ts, .int ap, .int fs, .int ln, .int fo, .int fa, .ref m11, .ref m12, .ref m13, .ref m14, .int wr])), aJ G m1 560 mw, aZ G m2 2 ik, aI G m3 20 zs, aI G m4 20 cl, aI G m5 20 hs, aI G m6 20 ks, aI G m7 20 wa, aI G m8 20 ne, aI G m9 4 mn, aI G m10 400 tx, aI G m11 6 th, aI G m12 6 od, aI G m13 30 bk, aI G m14 30 bh] sz (fun (r : Int32) (u : (Nat → Int64)) => True) (fun (u : (Nat → Int64)) => [(m0, .inr (8, [.ref m1, .ref m2, .ref m3, .ref m4, .ref m5, .ref m6, .ref m7, .ref m8, .ref m9, .int fu, .int fd, .int fi, .int nu, .int nw, .int nf, .int bf, .int bn, .ref m10, .int ts, .int ap, .int fs, .int ln, .int fo, .int fa, .ref m11, .ref m12, .ref m13, .ref m14, .int wr])), aJ G m1 560 u, aZ G m2 2 ik, aI G m3 20 zs, aI G m4 20 cl, aI G m5 20 hs, aI G m6 20 ks, aI G m7 20 wa, aI G m8 20 ne, aI G m9 4 mn, aI G m10 400 tx, aI G m11 6 th, aI G m12 6 od, aI G m13 30 bk, aI G m14 30 bh]) :=
  c_X8_seating l G m0 m1 m2 m3 m4 m5 m6 m7 m8 m9 m10 m11 m12 m13 m14 sz mw ik zs cl hs ks wa ne mn tx th od bk bh fu fd fi nu nw nf bf bn ts ap fs ln fo fa wr x y (by
    sorry)

set_option maxHeartbeats 4000000 in
set_option maxRecDepth 100000 in
theorem c_X8_layOrder (l : Launch) (G : Gt) (m0 m1 m2 m3 m4 m5 m6 m7 m8 m9 m10 m11 m12 m13 m14 : Nat) (sz : Nat) (mw : Nat → Int64) (ik : Nat → Int32) (zs : Nat → Int32) (cl : Nat → Int32) (hs : Nat → Int32) (ks : Nat → Int32) (wa : Nat → Int32) (ne : Nat → Int32) (mn : Nat → Int32) (tx : Nat → Int32) (th : Nat → Int32) (od : Nat → Int32) (bk : Nat → Int32) (bh : Nat → Int32) (fu : Int32) (fd : Int32) (fi : Int32) (nu : Int32) (nw : Int32) (nf : Int32) (bf : Int32) (bn : Int32) (ts : Int32) (ap : Int32) (fs : Int32) (ln : Int32) (fo : Int32) (fa : Int32) (wr : Int32) (x : Int32) (y : Int32) (hv : ∃ (I11_3 : Int32 → Int32 → Prop) (μ11_4 : Int32 → Int32 → Nat), I11_3 1 2 ∧ (∀ (x5_1 : Int32) (x6_2 : Int32), I11_3 x5_1 x6_2 → (y ≤ x6_2 → ∃ (I33_13 : (Nat → Int32) → Int32 → Int32 → Int32 → Int32 → Prop) (μ33_14 : (Nat → Int32) → Int32 → Int32 → Int32 → Int32 → Nat), I33_13 od 0 x x5_1 0 ∧ (∀ (fm12_8 : (Nat → Int32)) (x3_9 : Int32) (x4_10 : Int32) (x5_11 : Int32) (x6_12 : Int32), I33_13 fm12_8 x3_9 x4_10 x5_11 x6_12 → (y ≤ x6_12 → True) ∧ (¬ (y ≤ x6_12) → (¬ x5_11 = 0) ∧ ((¬ x5_11 = 0) ∧ ((((y - 1) - x6_12) ≤ 0 → ∃ (I80_21 : Int32 → Int32 → Prop) (μ80_22 : Int32 → Int32 → Nat), I80_21 (x4_10 / x5_11) 0 ∧ (∀ (x7_19 : Int32) (x8_20 : Int32), I80_21 x7_19 x8_20 → (((x3_9 >>> (x8_20 &&& 31)) &&& 1) = 1 → (¬ ((x3_9 >>> (x8_20 &&& 31)) &&& 1) = 0 → I80_21 (x7_19 - (if 0 = 0 then 0 else 1)) (x8_20 + 1) ∧ μ80_22 (x7_19 - (if 0 = 0 then 0 else 1)) (x8_20 + 1) < μ80_22 x7_19 x8_20) ∧ (((x3_9 >>> (x8_20 &&& 31)) &&& 1) = 0 → I80_21 (x7_19 - (if 1 = 0 then 0 else 1)) (x8_20 + 1) ∧ μ80_22 (x7_19 - (if 1 = 0 then 0 else 1)) (x8_20 + 1) < μ80_22 x7_19 x8_20)) ∧ (¬ (((x3_9 >>> (x8_20 &&& 31)) &&& 1) = 1) → (x7_19 ≤ 0 → (vp_in x8_20 6) ∧ ((vp_in x6_12 6) ∧ (I33_13 (upd fm12_8 x6_12.toNatClampNeg (th x8_20.toNatClampNeg)) (x3_9 ||| ((1 : Int32) <<< (x8_20 &&& 31))) (x4_10 - x4_10 / x5_11 * x5_11) 1 (x6_12 + 1) ∧ μ33_14 (upd fm12_8 x6_12.toNatClampNeg (th x8_20.toNatClampNeg)) (x3_9 ||| ((1 : Int32) <<< (x8_20 &&& 31))) (x4_10 - x4_10 / x5_11 * x5_11) 1 (x6_12 + 1) < μ33_14 fm12_8 x3_9 x4_10 x5_11 x6_12))) ∧ (¬ (x7_19 ≤ 0) → (¬ ((x3_9 >>> (x8_20 &&& 31)) &&& 1) = 0 → I80_21 (x7_19 - (if 0 = 0 then 0 else 1)) (x8_20 + 1) ∧ μ80_22 (x7_19 - (if 0 = 0 then 0 else 1)) (x8_20 + 1) < μ80_22 x7_19 x8_20) ∧ (((x3_9 >>> (x8_20 &&& 31)) &&& 1) = 0 → I80_21 (x7_19 - (if 1 = 0 then 0 else 1)) (x8_20 + 1) ∧ μ80_22 (x7_19 - (if 1 = 0 then 0 else 1)) (x8_20 + 1) < μ80_22 x7_19 x8_20))))) ∧ (¬ (((y - 1) - x6_12) ≤ 0) → (¬ ((y - 1) - x6_12) = 0) ∧ (∃ (I80_38 : Int32 → Int32 → Prop) (μ80_39 : Int32 → Int32 → Nat), I80_38 (x4_10 / x5_11) 0 ∧ (∀ (x7_36 : Int32) (x8_37 : Int32), I80_38 x7_36 x8_37 → (((x3_9 >>> (x8_37 &&& 31)) &&& 1) = 1 → (¬ ((x3_9 >>> (x8_37 &&& 31)) &&& 1) = 0 → I80_38 (x7_36 - (if 0 = 0 then 0 else 1)) (x8_37 + 1) ∧ μ80_39 (x7_36 - (if 0 = 0 then 0 else 1)) (x8_37 + 1) < μ80_39 x7_36 x8_37) ∧ (((x3_9 >>> (x8_37 &&& 31)) &&& 1) = 0 → I80_38 (x7_36 - (if 1 = 0 then 0 else 1)) (x8_37 + 1) ∧ μ80_39 (x7_36 - (if 1 = 0 then 0 else 1)) (x8_37 + 1) < μ80_39 x7_36 x8_37)) ∧ (¬ (((x3_9 >>> (x8_37 &&& 31)) &&& 1) = 1) → (x7_36 ≤ 0 → (vp_in x8_37 6) ∧ ((vp_in x6_12 6) ∧ (I33_13 (upd fm12_8 x6_12.toNatClampNeg (th x8_37.toNatClampNeg)) (x3_9 ||| ((1 : Int32) <<< (x8_37 &&& 31))) (x4_10 - x4_10 / x5_11 * x5_11) (x5_11 / ((y - 1) - x6_12)) (x6_12 + 1) ∧ μ33_14 (upd fm12_8 x6_12.toNatClampNeg (th x8_37.toNatClampNeg)) (x3_9 ||| ((1 : Int32) <<< (x8_37 &&& 31))) (x4_10 - x4_10 / x5_11 * x5_11) (x5_11 / ((y - 1) - x6_12)) (x6_12 + 1) < μ33_14 fm12_8 x3_9 x4_10 x5_11 x6_12))) ∧ (¬ (x7_36 ≤ 0) → (¬ ((x3_9 >>> (x8_37 &&& 31)) &&& 1) = 0 → I80_38 (x7_36 - (if 0 = 0 then 0 else 1)) (x8_37 + 1) ∧ μ80_39 (x7_36 - (if 0 = 0 then 0 else 1)) (x8_37 + 1) < μ80_39 x7_36 x8_37) ∧ (((x3_9 >>> (x8_37 &&& 31)) &&& 1) = 0 → I80_38 (x7_36 - (if 1 = 0 then 0 else 1)) (x8_37 + 1) ∧ μ80_39 (x7_36 - (if 1 = 0 then 0 else 1)) (x8_37 + 1) < μ80_39 x7_36 x8_37))))))))))) ∧ (¬ (y ≤ x6_2) → I11_3 (x5_1 * x6_2) (x6_2 + 1) ∧ μ11_4 (x5_1 * x6_2) (x6_2 + 1) < μ11_4 x5_1 x6_2))) : MetV l yX8_layOrder wsX8_layOrder 1 20 G [.ref m0, .int x, .int y] [(m0, .inr (8, [.ref m1, .ref m2, .ref m3, .ref m4, .ref m5, .ref m6, .ref m7, .ref m8, .ref m9, .int fu, .int fd, .int fi, .int nu, .int nw, .int nf, .int bf, .int bn, .ref m10, .int ts, .int ap, .int fs, .int ln, .int fo, .int fa, .ref m11, .ref m12, .ref m13, .ref m14, .int wr])), aJ G m1 560 mw, aZ G m2 2 ik, aI G m3 20 zs, aI G m4 20 cl, aI G m5 20 hs, aI G m6 20 ks, aI G m7 20 wa, aI G m8 20 ne, aI G m9 4 mn, aI G m10 400 tx, aI G m11 6 th, aI G m12 6 od, aI G m13 30 bk, aI G m14 30 bh] sz (fun (u : (Nat → Int32)) => True) (fun (u : (Nat → Int32)) => [(m0, .inr (8, [.ref m1, .ref m2, .ref m3, .ref m4, .ref m5, .ref m6, .ref m7, .ref m8, .ref m9, .int fu, .int fd, .int fi, .int nu, .int nw, .int nf, .int bf, .int bn, .ref m10, .int ts, .int ap, .int fs, .int ln, .int fo, .int fa, .ref m11, .ref m12, .ref m13, .ref m14, .int wr])), aJ G m1 560 mw, aZ G m2 2 ik, aI G m3 20 zs, aI G m4 20 cl, aI G m5 20 hs, aI G m6 20 ks, aI G m7 20 wa, aI G m8 20 ne, aI G m9 4 mn, aI G m10 400 tx, aI G m11 6 th, aI G m12 6 u, aI G m13 30 bk, aI G m14 30 bh]) := by
  refine x_startV (cc := cX8_layOrder) (maxL := 9) (ret := none) (by decide) rfl (Nat.le_of_ble_eq_true rfl) ?_
  intro p e s m args below meth c A R Q ls hRf hRl hQ C hP hD hS hA hSS hl
  obtain ⟨hx, hb, hr, hml, hown, hts, hlocks, hKK⟩ := C
  have hown : s.vm.findClass RX8 = some m.cls := hown
  have hl : lv_has ls 9 [(0, .ref m0), (1, .int x), (2, .int y)] := hl
  have hinX8 : ∀ w ∈ u_ws RX8 TX8 29, w ∈ wsX8_layOrder := by decide +kernel
  have kl52 := hts (.fieldLink RX8 52 "WarmStonesModel" "those" "[I") (by decide +kernel)
  have kl55 := hts (.fieldLink RX8 55 "WarmStonesModel" "order" "[I") (by decide +kernel)
  refine lv_iconst (v := 0) hx hb dX8_layOrder_0 (by decide) ?_
  refine lv_istore_n (lv' := [(3, .int 0), (0, .ref m0), (1, .int x), (2, .int y)]) hx hb dX8_layOrder_1 rfl hl (by decide) rfl (fun ls hl => ?_)
  refine lv_iload_n hx hb dX8_layOrder_2 rfl (lv_at hl 2 rfl) ?_
  refine lv_istore (lv' := [(4, .int x), (3, .int 0), (0, .ref m0), (1, .int x), (2, .int y)]) hx hb dX8_layOrder_3 hl (by decide) rfl (fun ls hl => ?_)
  refine lv_iconst (v := 1) hx hb dX8_layOrder_5 (by decide) ?_
  refine lv_istore (lv' := [(5, .int 1), (4, .int x), (3, .int 0), (0, .ref m0), (1, .int x), (2, .int y)]) hx hb dX8_layOrder_6 hl (by decide) rfl (fun ls hl => ?_)
  refine lv_iconst (v := 2) hx hb dX8_layOrder_8 (by decide) ?_
  refine lv_istore (lv' := [(6, .int 2), (5, .int 1), (4, .int x), (3, .int 0), (0, .ref m0), (1, .int x), (2, .int y)]) hx hb dX8_layOrder_9 hl (by decide) rfl (fun ls hl => ?_)
  obtain ⟨I11_3, μ11_4, hi0, hs_56⟩ := hv
  have Lm_58 : ∀ (n_57 : Nat) (x5_1 : Int32) (x6_2 : Int32) (H : Heap) (locs : List Loc) (ls : Array Slot), μ11_4 x5_1 x6_2 < n_57 → I11_3 x5_1 x6_2 → va_P G.1 vwCl [(m0, .inr (8, [.ref m1, .ref m2, .ref m3, .ref m4, .ref m5, .ref m6, .ref m7, .ref m8, .ref m9, .int fu, .int fd, .int fi, .int nu, .int nw, .int nf, .int bf, .int bn, .ref m10, .int ts, .int ap, .int fs, .int ln, .int fo, .int fa, .ref m11, .ref m12, .ref m13, .ref m14, .int wr])), aJ G m1 560 mw, aZ G m2 2 ik, aI G m3 20 zs, aI G m4 20 cl, aI G m5 20 hs, aI G m6 20 ks, aI G m7 20 wa, aI G m8 20 ne, aI G m9 4 mn, aI G m10 400 tx, aI G m11 6 th, aI G m12 6 od, aI G m13 30 bk, aI G m14 30 bh] H → va_D A [(m0, .inr (8, [.ref m1, .ref m2, .ref m3, .ref m4, .ref m5, .ref m6, .ref m7, .ref m8, .ref m9, .int fu, .int fd, .int fi, .int nu, .int nw, .int nf, .int bf, .int bn, .ref m10, .int ts, .int ap, .int fs, .int ln, .int fo, .int fa, .ref m11, .ref m12, .ref m13, .ref m14, .int wr])), aJ G m1 560 mw, aZ G m2 2 ik, aI G m3 20 zs, aI G m4 20 cl, aI G m5 20 hs, aI G m6 20 ks, aI G m7 20 wa, aI G m8 20 ne, aI G m9 4 mn, aI G m10 400 tx, aI G m11 6 th, aI G m12 6 od, aI G m13 30 bk, aI G m14 30 bh] → va_S A s.heap H locs → lv_has ls 9 [(6, .int x6_2), (5, .int x5_1), (4, .int x), (3, .int 0), (0, .ref m0), (1, .int x), (2, .int y)] → W p l e R s m args below meth c H locs 0 0 Q (F0 m 11 ls []) := by
    intro n_57
    induction n_57 with
    | zero => intro x5_1 x6_2 H locs ls hm; exact absurd hm (Nat.not_lt_zero _)
    | succ n_57 ih_5 =>
      intro x5_1 x6_2 H locs ls hI_6 hi hP hD hS hl
      have hv := hs_56 x5_1 x6_2 hi
      refine lv_iload hx hb dX8_layOrder_11 (lv_at hl 0 rfl) ?_
      refine lv_iload_n hx hb dX8_layOrder_13 rfl (lv_at hl 6 rfl) ?_
      refine lv_icmp_ge (tgt := 30) hx hb dX8_layOrder_14 (by decide) (fun hc_7 => ?_) (fun hc_7 => ?_)
      · have hv := hv.1 hc_7
        refine lv_iconst (v := 0) hx hb dX8_layOrder_30 (by decide) ?_
        refine lv_istore (lv' := [(6, .int 0), (5, .int x5_1), (4, .int x), (3, .int 0), (0, .ref m0), (1, .int x), (2, .int y)]) hx hb dX8_layOrder_31 hl (by decide) rfl (fun ls hl => ?_)
        obtain ⟨I33_13, μ33_14, hi0, hs_53⟩ := hv
        have Lm_55 : ∀ (n_54 : Nat) (fm12_8 : (Nat → Int32)) (x3_9 : Int32) (x4_10 : Int32) (x5_11 : Int32) (x6_12 : Int32) (H : Heap) (locs : List Loc) (ls : Array Slot), μ33_14 fm12_8 x3_9 x4_10 x5_11 x6_12 < n_54 → I33_13 fm12_8 x3_9 x4_10 x5_11 x6_12 → va_P G.1 vwCl [(m0, .inr (8, [.ref m1, .ref m2, .ref m3, .ref m4, .ref m5, .ref m6, .ref m7, .ref m8, .ref m9, .int fu, .int fd, .int fi, .int nu, .int nw, .int nf, .int bf, .int bn, .ref m10, .int ts, .int ap, .int fs, .int ln, .int fo, .int fa, .ref m11, .ref m12, .ref m13, .ref m14, .int wr])), aJ G m1 560 mw, aZ G m2 2 ik, aI G m3 20 zs, aI G m4 20 cl, aI G m5 20 hs, aI G m6 20 ks, aI G m7 20 wa, aI G m8 20 ne, aI G m9 4 mn, aI G m10 400 tx, aI G m11 6 th, aI G m12 6 fm12_8, aI G m13 30 bk, aI G m14 30 bh] H → va_D A [(m0, .inr (8, [.ref m1, .ref m2, .ref m3, .ref m4, .ref m5, .ref m6, .ref m7, .ref m8, .ref m9, .int fu, .int fd, .int fi, .int nu, .int nw, .int nf, .int bf, .int bn, .ref m10, .int ts, .int ap, .int fs, .int ln, .int fo, .int fa, .ref m11, .ref m12, .ref m13, .ref m14, .int wr])), aJ G m1 560 mw, aZ G m2 2 ik, aI G m3 20 zs, aI G m4 20 cl, aI G m5 20 hs, aI G m6 20 ks, aI G m7 20 wa, aI G m8 20 ne, aI G m9 4 mn, aI G m10 400 tx, aI G m11 6 th, aI G m12 6 fm12_8, aI G m13 30 bk, aI G m14 30 bh] → va_S A s.heap H locs → lv_has ls 9 [(6, .int x6_12), (5, .int x5_11), (4, .int x4_10), (3, .int x3_9), (0, .ref m0), (1, .int x), (2, .int y)] → W p l e R s m args below meth c H locs 0 0 Q (F0 m 33 ls []) := by
          intro n_54
          induction n_54 with
          | zero => intro fm12_8 x3_9 x4_10 x5_11 x6_12 H locs ls hm; exact absurd hm (Nat.not_lt_zero _)
          | succ n_54 ih_15 =>
            intro fm12_8 x3_9 x4_10 x5_11 x6_12 H locs ls hI_16 hi hP hD hS hl
            have hv := hs_53 fm12_8 x3_9 x4_10 x5_11 x6_12 hi
            refine lv_iload hx hb dX8_layOrder_33 (lv_at hl 0 rfl) ?_
            refine lv_iload_n hx hb dX8_layOrder_35 rfl (lv_at hl 6 rfl) ?_
            refine lv_icmp_ge (tgt := 150) hx hb dX8_layOrder_36 (by decide) (fun hc_17 => ?_) (fun hc_17 => ?_)
            · have hv := hv.1 hc_17
              exact x_vret fm12_8 hQ hx hb hr hlocks hS dX8_layOrder_150 hv hP hD
            · have hv := hv.2 hc_17
              refine lv_iload hx hb dX8_layOrder_39 (lv_at hl 2 rfl) ?_
              refine lv_iload hx hb dX8_layOrder_41 (lv_at hl 1 rfl) ?_
              obtain ⟨hne, hv⟩ := hv
              refine lv_idiv hx hb dX8_layOrder_43 hne ?_
              refine lv_istore (lv' := [(7, .int (x4_10 / x5_11)), (6, .int x6_12), (5, .int x5_11), (4, .int x4_10), (3, .int x3_9), (0, .ref m0), (1, .int x), (2, .int y)]) hx hb dX8_layOrder_44 hl (by decide) rfl (fun ls hl => ?_)
              refine lv_iload hx hb dX8_layOrder_46 (lv_at hl 3 rfl) ?_
              refine lv_iload hx hb dX8_layOrder_48 (lv_at hl 2 rfl) ?_
              obtain ⟨hne, hv⟩ := hv
              refine lv_irem hx hb dX8_layOrder_50 hne ?_
              refine lv_istore (lv' := [(4, .int (x4_10 - x4_10 / x5_11 * x5_11)), (7, .int (x4_10 / x5_11)), (6, .int x6_12), (5, .int x5_11), (3, .int x3_9), (0, .ref m0), (1, .int x), (2, .int y)]) hx hb dX8_layOrder_51 hl (by decide) rfl (fun ls hl => ?_)
              refine lv_iload_n hx hb dX8_layOrder_53 rfl (lv_at hl 7 rfl) ?_
              refine lv_iconst (v := 1) hx hb dX8_layOrder_54 (by decide) ?_
              refine lv_isub hx hb dX8_layOrder_55 ?_
              refine lv_iload hx hb dX8_layOrder_56 (lv_at hl 2 rfl) ?_
              refine lv_isub hx hb dX8_layOrder_58 ?_
              refine lv_if_le (tgt := 74) hx hb dX8_layOrder_59 (by decide) (fun hc_18 => ?_) (fun hc_18 => ?_)
              · have hv := hv.1 hc_18
                refine lv_iconst (v := 1) hx hb dX8_layOrder_74 (by decide) ?_
                refine lv_istore (lv' := [(5, .int 1), (4, .int (x4_10 - x4_10 / x5_11 * x5_11)), (7, .int (x4_10 / x5_11)), (6, .int x6_12), (3, .int x3_9), (0, .ref m0), (1, .int x), (2, .int y)]) hx hb dX8_layOrder_75 hl (by decide) rfl (fun ls hl => ?_)
                refine lv_iconst (v := 0) hx hb dX8_layOrder_77 (by decide) ?_
                refine lv_istore (lv' := [(8, .int 0), (5, .int 1), (4, .int (x4_10 - x4_10 / x5_11 * x5_11)), (7, .int (x4_10 / x5_11)), (6, .int x6_12), (3, .int x3_9), (0, .ref m0), (1, .int x), (2, .int y)]) hx hb dX8_layOrder_78 hl (by decide) rfl (fun ls hl => ?_)
                obtain ⟨I80_21, μ80_22, hi0, hs_33⟩ := hv
                have Lm_35 : ∀ (n_34 : Nat) (x7_19 : Int32) (x8_20 : Int32) (H : Heap) (locs : List Loc) (ls : Array Slot), μ80_22 x7_19 x8_20 < n_34 → I80_21 x7_19 x8_20 → va_P G.1 vwCl [(m0, .inr (8, [.ref m1, .ref m2, .ref m3, .ref m4, .ref m5, .ref m6, .ref m7, .ref m8, .ref m9, .int fu, .int fd, .int fi, .int nu, .int nw, .int nf, .int bf, .int bn, .ref m10, .int ts, .int ap, .int fs, .int ln, .int fo, .int fa, .ref m11, .ref m12, .ref m13, .ref m14, .int wr])), aJ G m1 560 mw, aZ G m2 2 ik, aI G m3 20 zs, aI G m4 20 cl, aI G m5 20 hs, aI G m6 20 ks, aI G m7 20 wa, aI G m8 20 ne, aI G m9 4 mn, aI G m10 400 tx, aI G m11 6 th, aI G m12 6 fm12_8, aI G m13 30 bk, aI G m14 30 bh] H → va_D A [(m0, .inr (8, [.ref m1, .ref m2, .ref m3, .ref m4, .ref m5, .ref m6, .ref m7, .ref m8, .ref m9, .int fu, .int fd, .int fi, .int nu, .int nw, .int nf, .int bf, .int bn, .ref m10, .int ts, .int ap, .int fs, .int ln, .int fo, .int fa, .ref m11, .ref m12, .ref m13, .ref m14, .int wr])), aJ G m1 560 mw, aZ G m2 2 ik, aI G m3 20 zs, aI G m4 20 cl, aI G m5 20 hs, aI G m6 20 ks, aI G m7 20 wa, aI G m8 20 ne, aI G m9 4 mn, aI G m10 400 tx, aI G m11 6 th, aI G m12 6 fm12_8, aI G m13 30 bk, aI G m14 30 bh] → va_S A s.heap H locs → lv_has ls 9 [(8, .int x8_20), (5, .int 1), (4, .int (x4_10 - x4_10 / x5_11 * x5_11)), (7, .int x7_19), (6, .int x6_12), (3, .int x3_9), (0, .ref m0), (1, .int x), (2, .int y)] → W p l e R s m args below meth c H locs 0 0 Q (F0 m 80 ls []) := by
                  intro n_34
                  induction n_34 with
                  | zero => intro x7_19 x8_20 H locs ls hm; exact absurd hm (Nat.not_lt_zero _)
                  | succ n_34 ih_23 =>
                    intro x7_19 x8_20 H locs ls hI_24 hi hP hD hS hl
                    have hv := hs_33 x7_19 x8_20 hi
                    refine lv_iload_n hx hb dX8_layOrder_80 rfl (lv_at hl 5 rfl) ?_
                    refine lv_iload hx hb dX8_layOrder_81 (lv_at hl 0 rfl) ?_
                    refine lv_ishr hx hb dX8_layOrder_83 ?_
                    refine lv_iconst (v := 1) hx hb dX8_layOrder_84 (by decide) ?_
                    refine lv_iand hx hb dX8_layOrder_85 ?_
                    refine lv_iconst (v := 1) hx hb dX8_layOrder_86 (by decide) ?_
                    refine lv_icmp_eq (tgt := 95) hx hb dX8_layOrder_87 (by decide) (fun hc_25 => ?_) (fun hc_25 => ?_)
                    · have hv := hv.1 hc_25
                      refine lv_iload hx hb dX8_layOrder_95 (lv_at hl 3 rfl) ?_
                      refine lv_iload_n hx hb dX8_layOrder_97 rfl (lv_at hl 5 rfl) ?_
                      refine lv_iload hx hb dX8_layOrder_98 (lv_at hl 0 rfl) ?_
                      refine lv_ishr hx hb dX8_layOrder_100 ?_
                      refine lv_iconst (v := 1) hx hb dX8_layOrder_101 (by decide) ?_
                      refine lv_iand hx hb dX8_layOrder_102 ?_
                      refine lv_if_ne (tgt := 110) hx hb dX8_layOrder_103 (by decide) (fun hc_26 => ?_) (fun hc_26 => ?_)
                      · have hv := hv.1 hc_26
                        refine lv_iconst (v := 0) hx hb dX8_layOrder_110 (by decide) ?_
                        refine x_calliR (x_runS (As := [.int 0]) (rest := [.int x7_19]) (n := 1) ⟨hx, hb, hml, hown, hts⟩ (k_X8_one l G  _ 0) gX8_layOrder_X8_one rfl (by decide +kernel) ⟨Nat.le_trans (Nat.le_of_ble_eq_true rfl) hRf, Nat.le_trans (Nat.le_of_ble_eq_true rfl) hRl⟩ hKK hSS hS hA hP hD [] (by decide) rfl rfl hl.1 rfl (Nat.le_of_ble_eq_true rfl) dX8_layOrder_111) hP hD hS hA [] rfl (fun r_27 _ H locs hw hP hS => ?_)
                        replace hw := hw.symm; subst hw
                        refine lv_isub hx hb dX8_layOrder_114 ?_
                        refine lv_istore (lv' := [(7, .int (x7_19 - (if 0 = 0 then 0 else 1))), (8, .int x8_20), (5, .int 1), (4, .int (x4_10 - x4_10 / x5_11 * x5_11)), (6, .int x6_12), (3, .int x3_9), (0, .ref m0), (1, .int x), (2, .int y)]) hx hb dX8_layOrder_115 hl (by decide) rfl (fun ls hl => ?_)
                        refine lv_iinc (v := (x8_20 + 1)) (lv' := [(8, .int (x8_20 + 1)), (7, .int (x7_19 - (if 0 = 0 then 0 else 1))), (5, .int 1), (4, .int (x4_10 - x4_10 / x5_11 * x5_11)), (6, .int x6_12), (3, .int x3_9), (0, .ref m0), (1, .int x), (2, .int y)]) hx hb dX8_layOrder_117 hl (k := 1) rfl rfl (by decide) rfl (fun ls hl => ?_)
                        refine lv_goto (tgt := 80) hx hb dX8_layOrder_120 (by decide) ?_
                        exact ih_23 _ _ _ _ _ (Nat.lt_of_lt_of_le hv.2 (Nat.le_of_lt_succ hI_24)) hv.1 hP hD hS (lv_sub hl [0, 2, 3, 1, 4, 5, 6, 7, 8] rfl)
                      · have hv := hv.2 hc_26
                        refine lv_iconst (v := 1) hx hb dX8_layOrder_106 (by decide) ?_
                        refine lv_goto (tgt := 111) hx hb dX8_layOrder_107 (by decide) ?_
                        refine x_calliR (x_runS (As := [.int 1]) (rest := [.int x7_19]) (n := 1) ⟨hx, hb, hml, hown, hts⟩ (k_X8_one l G  _ 1) gX8_layOrder_X8_one rfl (by decide +kernel) ⟨Nat.le_trans (Nat.le_of_ble_eq_true rfl) hRf, Nat.le_trans (Nat.le_of_ble_eq_true rfl) hRl⟩ hKK hSS hS hA hP hD [] (by decide) rfl rfl hl.1 rfl (Nat.le_of_ble_eq_true rfl) dX8_layOrder_111) hP hD hS hA [] rfl (fun r_28 _ H locs hw hP hS => ?_)
                        replace hw := hw.symm; subst hw
                        refine lv_isub hx hb dX8_layOrder_114 ?_
                        refine lv_istore (lv' := [(7, .int (x7_19 - (if 1 = 0 then 0 else 1))), (8, .int x8_20), (5, .int 1), (4, .int (x4_10 - x4_10 / x5_11 * x5_11)), (6, .int x6_12), (3, .int x3_9), (0, .ref m0), (1, .int x), (2, .int y)]) hx hb dX8_layOrder_115 hl (by decide) rfl (fun ls hl => ?_)
                        refine lv_iinc (v := (x8_20 + 1)) (lv' := [(8, .int (x8_20 + 1)), (7, .int (x7_19 - (if 1 = 0 then 0 else 1))), (5, .int 1), (4, .int (x4_10 - x4_10 / x5_11 * x5_11)), (6, .int x6_12), (3, .int x3_9), (0, .ref m0), (1, .int x), (2, .int y)]) hx hb dX8_layOrder_117 hl (k := 1) rfl rfl (by decide) rfl (fun ls hl => ?_)
                        refine lv_goto (tgt := 80) hx hb dX8_layOrder_120 (by decide) ?_
                        exact ih_23 _ _ _ _ _ (Nat.lt_of_lt_of_le hv.2 (Nat.le_of_lt_succ hI_24)) hv.1 hP hD hS (lv_sub hl [0, 2, 3, 1, 4, 5, 6, 7, 8] rfl)
                    · have hv := hv.2 hc_25
                      refine lv_iload hx hb dX8_layOrder_90 (lv_at hl 3 rfl) ?_
                      refine lv_if_le (tgt := 123) hx hb dX8_layOrder_92 (by decide) (fun hc_29 => ?_) (fun hc_29 => ?_)
                      · have hv := hv.1 hc_29
                        refine lv_iload_n hx hb dX8_layOrder_123 rfl (lv_at hl 5 rfl) ?_
                        refine lv_iconst (v := 1) hx hb dX8_layOrder_124 (by decide) ?_
                        refine lv_iload hx hb dX8_layOrder_125 (lv_at hl 0 rfl) ?_
                        refine lv_ishl hx hb dX8_layOrder_127 ?_
                        refine lv_ior hx hb dX8_layOrder_128 ?_
                        refine lv_istore_n (lv' := [(3, .int (x3_9 ||| ((1 : Int32) <<< (x8_20 &&& 31)))), (8, .int x8_20), (5, .int 1), (4, .int (x4_10 - x4_10 / x5_11 * x5_11)), (7, .int x7_19), (6, .int x6_12), (0, .ref m0), (1, .int x), (2, .int y)]) hx hb dX8_layOrder_129 rfl hl (by decide) rfl (fun ls hl => ?_)
                        refine lv_aload_n hx hb dX8_layOrder_130 rfl (lv_at hl 6 rfl) ?_
                        refine va_get (D := G.1) (ci := 8) (v := .ref m12) (C := RX8) (T := TX8) (N := 29) hx hb hts hinX8 hown hKK.1 hP 0 rfl rfl 25 (by decide) kl55 (fun _ h9 => h9) rfl dX8_layOrder_131 ?_
                        refine lv_iload hx hb dX8_layOrder_134 (lv_at hl 5 rfl) ?_
                        refine lv_aload_n hx hb dX8_layOrder_136 rfl (lv_at hl 6 rfl) ?_
                        refine va_get (D := G.1) (ci := 8) (v := .ref m11) (C := RX8) (T := TX8) (N := 29) hx hb hts hinX8 hown hKK.1 hP 0 rfl rfl 24 (by decide) kl52 (fun _ h9 => h9) rfl dX8_layOrder_137 ?_
                        refine lv_iload hx hb dX8_layOrder_140 (lv_at hl 1 rfl) ?_
                        obtain ⟨hin, hv⟩ := hv
                        refine va_iald hx hb hKK.1 hP 11 0 rfl rfl hin dX8_layOrder_142 ?_
                        obtain ⟨hin, hv⟩ := hv
                        refine va_iast hx hb hKK.1 hP hD hS 12 0 rfl rfl hin dX8_layOrder_143 (fun H locs hP hD hS => ?_)
                        have hP : va_P G.1 vwCl [(m0, .inr (8, [.ref m1, .ref m2, .ref m3, .ref m4, .ref m5, .ref m6, .ref m7, .ref m8, .ref m9, .int fu, .int fd, .int fi, .int nu, .int nw, .int nf, .int bf, .int bn, .ref m10, .int ts, .int ap, .int fs, .int ln, .int fo, .int fa, .ref m11, .ref m12, .ref m13, .ref m14, .int wr])), aJ G m1 560 mw, aZ G m2 2 ik, aI G m3 20 zs, aI G m4 20 cl, aI G m5 20 hs, aI G m6 20 ks, aI G m7 20 wa, aI G m8 20 ne, aI G m9 4 mn, aI G m10 400 tx, aI G m11 6 th, aI G m12 6 (upd fm12_8 x6_12.toNatClampNeg (th x8_20.toNatClampNeg)), aI G m13 30 bk, aI G m14 30 bh] H := hP
                        have hD : va_D A [(m0, .inr (8, [.ref m1, .ref m2, .ref m3, .ref m4, .ref m5, .ref m6, .ref m7, .ref m8, .ref m9, .int fu, .int fd, .int fi, .int nu, .int nw, .int nf, .int bf, .int bn, .ref m10, .int ts, .int ap, .int fs, .int ln, .int fo, .int fa, .ref m11, .ref m12, .ref m13, .ref m14, .int wr])), aJ G m1 560 mw, aZ G m2 2 ik, aI G m3 20 zs, aI G m4 20 cl, aI G m5 20 hs, aI G m6 20 ks, aI G m7 20 wa, aI G m8 20 ne, aI G m9 4 mn, aI G m10 400 tx, aI G m11 6 th, aI G m12 6 (upd fm12_8 x6_12.toNatClampNeg (th x8_20.toNatClampNeg)), aI G m13 30 bk, aI G m14 30 bh] := hD
                        refine lv_iinc (v := (x6_12 + 1)) (lv' := [(6, .int (x6_12 + 1)), (3, .int (x3_9 ||| ((1 : Int32) <<< (x8_20 &&& 31)))), (8, .int x8_20), (5, .int 1), (4, .int (x4_10 - x4_10 / x5_11 * x5_11)), (7, .int x7_19), (0, .ref m0), (1, .int x), (2, .int y)]) hx hb dX8_layOrder_144 hl (k := 5) rfl rfl (by decide) rfl (fun ls hl => ?_)
                        refine lv_goto (tgt := 33) hx hb dX8_layOrder_147 (by decide) ?_
                        exact ih_15 _ _ _ _ _ _ _ _ (Nat.lt_of_lt_of_le hv.2 (Nat.le_of_lt_succ hI_16)) hv.1 hP hD hS (lv_sub hl [0, 3, 4, 1, 6, 7, 8] rfl)
                      · have hv := hv.2 hc_29
                        refine lv_iload hx hb dX8_layOrder_95 (lv_at hl 3 rfl) ?_
                        refine lv_iload_n hx hb dX8_layOrder_97 rfl (lv_at hl 5 rfl) ?_
                        refine lv_iload hx hb dX8_layOrder_98 (lv_at hl 0 rfl) ?_
                        refine lv_ishr hx hb dX8_layOrder_100 ?_
                        refine lv_iconst (v := 1) hx hb dX8_layOrder_101 (by decide) ?_
                        refine lv_iand hx hb dX8_layOrder_102 ?_
                        refine lv_if_ne (tgt := 110) hx hb dX8_layOrder_103 (by decide) (fun hc_30 => ?_) (fun hc_30 => ?_)
                        · have hv := hv.1 hc_30
                          refine lv_iconst (v := 0) hx hb dX8_layOrder_110 (by decide) ?_
                          refine x_calliR (x_runS (As := [.int 0]) (rest := [.int x7_19]) (n := 1) ⟨hx, hb, hml, hown, hts⟩ (k_X8_one l G  _ 0) gX8_layOrder_X8_one rfl (by decide +kernel) ⟨Nat.le_trans (Nat.le_of_ble_eq_true rfl) hRf, Nat.le_trans (Nat.le_of_ble_eq_true rfl) hRl⟩ hKK hSS hS hA hP hD [] (by decide) rfl rfl hl.1 rfl (Nat.le_of_ble_eq_true rfl) dX8_layOrder_111) hP hD hS hA [] rfl (fun r_31 _ H locs hw hP hS => ?_)
                          replace hw := hw.symm; subst hw
                          refine lv_isub hx hb dX8_layOrder_114 ?_
                          refine lv_istore (lv' := [(7, .int (x7_19 - (if 0 = 0 then 0 else 1))), (8, .int x8_20), (5, .int 1), (4, .int (x4_10 - x4_10 / x5_11 * x5_11)), (6, .int x6_12), (3, .int x3_9), (0, .ref m0), (1, .int x), (2, .int y)]) hx hb dX8_layOrder_115 hl (by decide) rfl (fun ls hl => ?_)
                          refine lv_iinc (v := (x8_20 + 1)) (lv' := [(8, .int (x8_20 + 1)), (7, .int (x7_19 - (if 0 = 0 then 0 else 1))), (5, .int 1), (4, .int (x4_10 - x4_10 / x5_11 * x5_11)), (6, .int x6_12), (3, .int x3_9), (0, .ref m0), (1, .int x), (2, .int y)]) hx hb dX8_layOrder_117 hl (k := 1) rfl rfl (by decide) rfl (fun ls hl => ?_)
                          refine lv_goto (tgt := 80) hx hb dX8_layOrder_120 (by decide) ?_
                          exact ih_23 _ _ _ _ _ (Nat.lt_of_lt_of_le hv.2 (Nat.le_of_lt_succ hI_24)) hv.1 hP hD hS (lv_sub hl [0, 2, 3, 1, 4, 5, 6, 7, 8] rfl)
                        · have hv := hv.2 hc_30
                          refine lv_iconst (v := 1) hx hb dX8_layOrder_106 (by decide) ?_
                          refine lv_goto (tgt := 111) hx hb dX8_layOrder_107 (by decide) ?_
                          refine x_calliR (x_runS (As := [.int 1]) (rest := [.int x7_19]) (n := 1) ⟨hx, hb, hml, hown, hts⟩ (k_X8_one l G  _ 1) gX8_layOrder_X8_one rfl (by decide +kernel) ⟨Nat.le_trans (Nat.le_of_ble_eq_true rfl) hRf, Nat.le_trans (Nat.le_of_ble_eq_true rfl) hRl⟩ hKK hSS hS hA hP hD [] (by decide) rfl rfl hl.1 rfl (Nat.le_of_ble_eq_true rfl) dX8_layOrder_111) hP hD hS hA [] rfl (fun r_32 _ H locs hw hP hS => ?_)
                          replace hw := hw.symm; subst hw
                          refine lv_isub hx hb dX8_layOrder_114 ?_
                          refine lv_istore (lv' := [(7, .int (x7_19 - (if 1 = 0 then 0 else 1))), (8, .int x8_20), (5, .int 1), (4, .int (x4_10 - x4_10 / x5_11 * x5_11)), (6, .int x6_12), (3, .int x3_9), (0, .ref m0), (1, .int x), (2, .int y)]) hx hb dX8_layOrder_115 hl (by decide) rfl (fun ls hl => ?_)
                          refine lv_iinc (v := (x8_20 + 1)) (lv' := [(8, .int (x8_20 + 1)), (7, .int (x7_19 - (if 1 = 0 then 0 else 1))), (5, .int 1), (4, .int (x4_10 - x4_10 / x5_11 * x5_11)), (6, .int x6_12), (3, .int x3_9), (0, .ref m0), (1, .int x), (2, .int y)]) hx hb dX8_layOrder_117 hl (k := 1) rfl rfl (by decide) rfl (fun ls hl => ?_)
                          refine lv_goto (tgt := 80) hx hb dX8_layOrder_120 (by decide) ?_
                          exact ih_23 _ _ _ _ _ (Nat.lt_of_lt_of_le hv.2 (Nat.le_of_lt_succ hI_24)) hv.1 hP hD hS (lv_sub hl [0, 2, 3, 1, 4, 5, 6, 7, 8] rfl)
                exact Lm_35 _ _ _ _ _ _ (Nat.lt_succ_self _) hi0 hP hD hS hl
              · have hv := hv.2 hc_18
                refine lv_iload hx hb dX8_layOrder_62 (lv_at hl 3 rfl) ?_
                refine lv_iload_n hx hb dX8_layOrder_64 rfl (lv_at hl 7 rfl) ?_
                refine lv_iconst (v := 1) hx hb dX8_layOrder_65 (by decide) ?_
                refine lv_isub hx hb dX8_layOrder_66 ?_
                refine lv_iload hx hb dX8_layOrder_67 (lv_at hl 2 rfl) ?_
                refine lv_isub hx hb dX8_layOrder_69 ?_
                obtain ⟨hne, hv⟩ := hv
                refine lv_idiv hx hb dX8_layOrder_70 hne ?_
                refine lv_goto (tgt := 75) hx hb dX8_layOrder_71 (by decide) ?_
                refine lv_istore (lv' := [(5, .int (x5_11 / ((y - 1) - x6_12))), (4, .int (x4_10 - x4_10 / x5_11 * x5_11)), (7, .int (x4_10 / x5_11)), (6, .int x6_12), (3, .int x3_9), (0, .ref m0), (1, .int x), (2, .int y)]) hx hb dX8_layOrder_75 hl (by decide) rfl (fun ls hl => ?_)
                refine lv_iconst (v := 0) hx hb dX8_layOrder_77 (by decide) ?_
                refine lv_istore (lv' := [(8, .int 0), (5, .int (x5_11 / ((y - 1) - x6_12))), (4, .int (x4_10 - x4_10 / x5_11 * x5_11)), (7, .int (x4_10 / x5_11)), (6, .int x6_12), (3, .int x3_9), (0, .ref m0), (1, .int x), (2, .int y)]) hx hb dX8_layOrder_78 hl (by decide) rfl (fun ls hl => ?_)
                obtain ⟨I80_38, μ80_39, hi0, hs_50⟩ := hv
                have Lm_52 : ∀ (n_51 : Nat) (x7_36 : Int32) (x8_37 : Int32) (H : Heap) (locs : List Loc) (ls : Array Slot), μ80_39 x7_36 x8_37 < n_51 → I80_38 x7_36 x8_37 → va_P G.1 vwCl [(m0, .inr (8, [.ref m1, .ref m2, .ref m3, .ref m4, .ref m5, .ref m6, .ref m7, .ref m8, .ref m9, .int fu, .int fd, .int fi, .int nu, .int nw, .int nf, .int bf, .int bn, .ref m10, .int ts, .int ap, .int fs, .int ln, .int fo, .int fa, .ref m11, .ref m12, .ref m13, .ref m14, .int wr])), aJ G m1 560 mw, aZ G m2 2 ik, aI G m3 20 zs, aI G m4 20 cl, aI G m5 20 hs, aI G m6 20 ks, aI G m7 20 wa, aI G m8 20 ne, aI G m9 4 mn, aI G m10 400 tx, aI G m11 6 th, aI G m12 6 fm12_8, aI G m13 30 bk, aI G m14 30 bh] H → va_D A [(m0, .inr (8, [.ref m1, .ref m2, .ref m3, .ref m4, .ref m5, .ref m6, .ref m7, .ref m8, .ref m9, .int fu, .int fd, .int fi, .int nu, .int nw, .int nf, .int bf, .int bn, .ref m10, .int ts, .int ap, .int fs, .int ln, .int fo, .int fa, .ref m11, .ref m12, .ref m13, .ref m14, .int wr])), aJ G m1 560 mw, aZ G m2 2 ik, aI G m3 20 zs, aI G m4 20 cl, aI G m5 20 hs, aI G m6 20 ks, aI G m7 20 wa, aI G m8 20 ne, aI G m9 4 mn, aI G m10 400 tx, aI G m11 6 th, aI G m12 6 fm12_8, aI G m13 30 bk, aI G m14 30 bh] → va_S A s.heap H locs → lv_has ls 9 [(8, .int x8_37), (5, .int (x5_11 / ((y - 1) - x6_12))), (4, .int (x4_10 - x4_10 / x5_11 * x5_11)), (7, .int x7_36), (6, .int x6_12), (3, .int x3_9), (0, .ref m0), (1, .int x), (2, .int y)] → W p l e R s m args below meth c H locs 0 0 Q (F0 m 80 ls []) := by
                  intro n_51
                  induction n_51 with
                  | zero => intro x7_36 x8_37 H locs ls hm; exact absurd hm (Nat.not_lt_zero _)
                  | succ n_51 ih_40 =>
                    intro x7_36 x8_37 H locs ls hI_41 hi hP hD hS hl
                    have hv := hs_50 x7_36 x8_37 hi
                    refine lv_iload_n hx hb dX8_layOrder_80 rfl (lv_at hl 5 rfl) ?_
                    refine lv_iload hx hb dX8_layOrder_81 (lv_at hl 0 rfl) ?_
                    refine lv_ishr hx hb dX8_layOrder_83 ?_
                    refine lv_iconst (v := 1) hx hb dX8_layOrder_84 (by decide) ?_
                    refine lv_iand hx hb dX8_layOrder_85 ?_
                    refine lv_iconst (v := 1) hx hb dX8_layOrder_86 (by decide) ?_
                    refine lv_icmp_eq (tgt := 95) hx hb dX8_layOrder_87 (by decide) (fun hc_42 => ?_) (fun hc_42 => ?_)
                    · have hv := hv.1 hc_42
                      refine lv_iload hx hb dX8_layOrder_95 (lv_at hl 3 rfl) ?_
                      refine lv_iload_n hx hb dX8_layOrder_97 rfl (lv_at hl 5 rfl) ?_
                      refine lv_iload hx hb dX8_layOrder_98 (lv_at hl 0 rfl) ?_
                      refine lv_ishr hx hb dX8_layOrder_100 ?_
                      refine lv_iconst (v := 1) hx hb dX8_layOrder_101 (by decide) ?_
                      refine lv_iand hx hb dX8_layOrder_102 ?_
                      refine lv_if_ne (tgt := 110) hx hb dX8_layOrder_103 (by decide) (fun hc_43 => ?_) (fun hc_43 => ?_)
                      · have hv := hv.1 hc_43
                        refine lv_iconst (v := 0) hx hb dX8_layOrder_110 (by decide) ?_
                        refine x_calliR (x_runS (As := [.int 0]) (rest := [.int x7_36]) (n := 1) ⟨hx, hb, hml, hown, hts⟩ (k_X8_one l G  _ 0) gX8_layOrder_X8_one rfl (by decide +kernel) ⟨Nat.le_trans (Nat.le_of_ble_eq_true rfl) hRf, Nat.le_trans (Nat.le_of_ble_eq_true rfl) hRl⟩ hKK hSS hS hA hP hD [] (by decide) rfl rfl hl.1 rfl (Nat.le_of_ble_eq_true rfl) dX8_layOrder_111) hP hD hS hA [] rfl (fun r_44 _ H locs hw hP hS => ?_)
                        replace hw := hw.symm; subst hw
                        refine lv_isub hx hb dX8_layOrder_114 ?_
                        refine lv_istore (lv' := [(7, .int (x7_36 - (if 0 = 0 then 0 else 1))), (8, .int x8_37), (5, .int (x5_11 / ((y - 1) - x6_12))), (4, .int (x4_10 - x4_10 / x5_11 * x5_11)), (6, .int x6_12), (3, .int x3_9), (0, .ref m0), (1, .int x), (2, .int y)]) hx hb dX8_layOrder_115 hl (by decide) rfl (fun ls hl => ?_)
                        refine lv_iinc (v := (x8_37 + 1)) (lv' := [(8, .int (x8_37 + 1)), (7, .int (x7_36 - (if 0 = 0 then 0 else 1))), (5, .int (x5_11 / ((y - 1) - x6_12))), (4, .int (x4_10 - x4_10 / x5_11 * x5_11)), (6, .int x6_12), (3, .int x3_9), (0, .ref m0), (1, .int x), (2, .int y)]) hx hb dX8_layOrder_117 hl (k := 1) rfl rfl (by decide) rfl (fun ls hl => ?_)
                        refine lv_goto (tgt := 80) hx hb dX8_layOrder_120 (by decide) ?_
                        exact ih_40 _ _ _ _ _ (Nat.lt_of_lt_of_le hv.2 (Nat.le_of_lt_succ hI_41)) hv.1 hP hD hS (lv_sub hl [0, 2, 3, 1, 4, 5, 6, 7, 8] rfl)
                      · have hv := hv.2 hc_43
                        refine lv_iconst (v := 1) hx hb dX8_layOrder_106 (by decide) ?_
                        refine lv_goto (tgt := 111) hx hb dX8_layOrder_107 (by decide) ?_
                        refine x_calliR (x_runS (As := [.int 1]) (rest := [.int x7_36]) (n := 1) ⟨hx, hb, hml, hown, hts⟩ (k_X8_one l G  _ 1) gX8_layOrder_X8_one rfl (by decide +kernel) ⟨Nat.le_trans (Nat.le_of_ble_eq_true rfl) hRf, Nat.le_trans (Nat.le_of_ble_eq_true rfl) hRl⟩ hKK hSS hS hA hP hD [] (by decide) rfl rfl hl.1 rfl (Nat.le_of_ble_eq_true rfl) dX8_layOrder_111) hP hD hS hA [] rfl (fun r_45 _ H locs hw hP hS => ?_)
                        replace hw := hw.symm; subst hw
                        refine lv_isub hx hb dX8_layOrder_114 ?_
                        refine lv_istore (lv' := [(7, .int (x7_36 - (if 1 = 0 then 0 else 1))), (8, .int x8_37), (5, .int (x5_11 / ((y - 1) - x6_12))), (4, .int (x4_10 - x4_10 / x5_11 * x5_11)), (6, .int x6_12), (3, .int x3_9), (0, .ref m0), (1, .int x), (2, .int y)]) hx hb dX8_layOrder_115 hl (by decide) rfl (fun ls hl => ?_)
                        refine lv_iinc (v := (x8_37 + 1)) (lv' := [(8, .int (x8_37 + 1)), (7, .int (x7_36 - (if 1 = 0 then 0 else 1))), (5, .int (x5_11 / ((y - 1) - x6_12))), (4, .int (x4_10 - x4_10 / x5_11 * x5_11)), (6, .int x6_12), (3, .int x3_9), (0, .ref m0), (1, .int x), (2, .int y)]) hx hb dX8_layOrder_117 hl (k := 1) rfl rfl (by decide) rfl (fun ls hl => ?_)
                        refine lv_goto (tgt := 80) hx hb dX8_layOrder_120 (by decide) ?_
                        exact ih_40 _ _ _ _ _ (Nat.lt_of_lt_of_le hv.2 (Nat.le_of_lt_succ hI_41)) hv.1 hP hD hS (lv_sub hl [0, 2, 3, 1, 4, 5, 6, 7, 8] rfl)
                    · have hv := hv.2 hc_42
                      refine lv_iload hx hb dX8_layOrder_90 (lv_at hl 3 rfl) ?_
                      refine lv_if_le (tgt := 123) hx hb dX8_layOrder_92 (by decide) (fun hc_46 => ?_) (fun hc_46 => ?_)
                      · have hv := hv.1 hc_46
                        refine lv_iload_n hx hb dX8_layOrder_123 rfl (lv_at hl 5 rfl) ?_
                        refine lv_iconst (v := 1) hx hb dX8_layOrder_124 (by decide) ?_
                        refine lv_iload hx hb dX8_layOrder_125 (lv_at hl 0 rfl) ?_
                        refine lv_ishl hx hb dX8_layOrder_127 ?_
                        refine lv_ior hx hb dX8_layOrder_128 ?_
                        refine lv_istore_n (lv' := [(3, .int (x3_9 ||| ((1 : Int32) <<< (x8_37 &&& 31)))), (8, .int x8_37), (5, .int (x5_11 / ((y - 1) - x6_12))), (4, .int (x4_10 - x4_10 / x5_11 * x5_11)), (7, .int x7_36), (6, .int x6_12), (0, .ref m0), (1, .int x), (2, .int y)]) hx hb dX8_layOrder_129 rfl hl (by decide) rfl (fun ls hl => ?_)
                        refine lv_aload_n hx hb dX8_layOrder_130 rfl (lv_at hl 6 rfl) ?_
                        refine va_get (D := G.1) (ci := 8) (v := .ref m12) (C := RX8) (T := TX8) (N := 29) hx hb hts hinX8 hown hKK.1 hP 0 rfl rfl 25 (by decide) kl55 (fun _ h9 => h9) rfl dX8_layOrder_131 ?_
                        refine lv_iload hx hb dX8_layOrder_134 (lv_at hl 5 rfl) ?_
                        refine lv_aload_n hx hb dX8_layOrder_136 rfl (lv_at hl 6 rfl) ?_
                        refine va_get (D := G.1) (ci := 8) (v := .ref m11) (C := RX8) (T := TX8) (N := 29) hx hb hts hinX8 hown hKK.1 hP 0 rfl rfl 24 (by decide) kl52 (fun _ h9 => h9) rfl dX8_layOrder_137 ?_
                        refine lv_iload hx hb dX8_layOrder_140 (lv_at hl 1 rfl) ?_
                        obtain ⟨hin, hv⟩ := hv
                        refine va_iald hx hb hKK.1 hP 11 0 rfl rfl hin dX8_layOrder_142 ?_
                        obtain ⟨hin, hv⟩ := hv
                        refine va_iast hx hb hKK.1 hP hD hS 12 0 rfl rfl hin dX8_layOrder_143 (fun H locs hP hD hS => ?_)
                        have hP : va_P G.1 vwCl [(m0, .inr (8, [.ref m1, .ref m2, .ref m3, .ref m4, .ref m5, .ref m6, .ref m7, .ref m8, .ref m9, .int fu, .int fd, .int fi, .int nu, .int nw, .int nf, .int bf, .int bn, .ref m10, .int ts, .int ap, .int fs, .int ln, .int fo, .int fa, .ref m11, .ref m12, .ref m13, .ref m14, .int wr])), aJ G m1 560 mw, aZ G m2 2 ik, aI G m3 20 zs, aI G m4 20 cl, aI G m5 20 hs, aI G m6 20 ks, aI G m7 20 wa, aI G m8 20 ne, aI G m9 4 mn, aI G m10 400 tx, aI G m11 6 th, aI G m12 6 (upd fm12_8 x6_12.toNatClampNeg (th x8_37.toNatClampNeg)), aI G m13 30 bk, aI G m14 30 bh] H := hP
                        have hD : va_D A [(m0, .inr (8, [.ref m1, .ref m2, .ref m3, .ref m4, .ref m5, .ref m6, .ref m7, .ref m8, .ref m9, .int fu, .int fd, .int fi, .int nu, .int nw, .int nf, .int bf, .int bn, .ref m10, .int ts, .int ap, .int fs, .int ln, .int fo, .int fa, .ref m11, .ref m12, .ref m13, .ref m14, .int wr])), aJ G m1 560 mw, aZ G m2 2 ik, aI G m3 20 zs, aI G m4 20 cl, aI G m5 20 hs, aI G m6 20 ks, aI G m7 20 wa, aI G m8 20 ne, aI G m9 4 mn, aI G m10 400 tx, aI G m11 6 th, aI G m12 6 (upd fm12_8 x6_12.toNatClampNeg (th x8_37.toNatClampNeg)), aI G m13 30 bk, aI G m14 30 bh] := hD
                        refine lv_iinc (v := (x6_12 + 1)) (lv' := [(6, .int (x6_12 + 1)), (3, .int (x3_9 ||| ((1 : Int32) <<< (x8_37 &&& 31)))), (8, .int x8_37), (5, .int (x5_11 / ((y - 1) - x6_12))), (4, .int (x4_10 - x4_10 / x5_11 * x5_11)), (7, .int x7_36), (0, .ref m0), (1, .int x), (2, .int y)]) hx hb dX8_layOrder_144 hl (k := 5) rfl rfl (by decide) rfl (fun ls hl => ?_)
                        refine lv_goto (tgt := 33) hx hb dX8_layOrder_147 (by decide) ?_
                        exact ih_15 _ _ _ _ _ _ _ _ (Nat.lt_of_lt_of_le hv.2 (Nat.le_of_lt_succ hI_16)) hv.1 hP hD hS (lv_sub hl [0, 3, 4, 1, 6, 7, 8] rfl)
                      · have hv := hv.2 hc_46
                        refine lv_iload hx hb dX8_layOrder_95 (lv_at hl 3 rfl) ?_
                        refine lv_iload_n hx hb dX8_layOrder_97 rfl (lv_at hl 5 rfl) ?_
                        refine lv_iload hx hb dX8_layOrder_98 (lv_at hl 0 rfl) ?_
                        refine lv_ishr hx hb dX8_layOrder_100 ?_
                        refine lv_iconst (v := 1) hx hb dX8_layOrder_101 (by decide) ?_
                        refine lv_iand hx hb dX8_layOrder_102 ?_
                        refine lv_if_ne (tgt := 110) hx hb dX8_layOrder_103 (by decide) (fun hc_47 => ?_) (fun hc_47 => ?_)
                        · have hv := hv.1 hc_47
                          refine lv_iconst (v := 0) hx hb dX8_layOrder_110 (by decide) ?_
                          refine x_calliR (x_runS (As := [.int 0]) (rest := [.int x7_36]) (n := 1) ⟨hx, hb, hml, hown, hts⟩ (k_X8_one l G  _ 0) gX8_layOrder_X8_one rfl (by decide +kernel) ⟨Nat.le_trans (Nat.le_of_ble_eq_true rfl) hRf, Nat.le_trans (Nat.le_of_ble_eq_true rfl) hRl⟩ hKK hSS hS hA hP hD [] (by decide) rfl rfl hl.1 rfl (Nat.le_of_ble_eq_true rfl) dX8_layOrder_111) hP hD hS hA [] rfl (fun r_48 _ H locs hw hP hS => ?_)
                          replace hw := hw.symm; subst hw
                          refine lv_isub hx hb dX8_layOrder_114 ?_
                          refine lv_istore (lv' := [(7, .int (x7_36 - (if 0 = 0 then 0 else 1))), (8, .int x8_37), (5, .int (x5_11 / ((y - 1) - x6_12))), (4, .int (x4_10 - x4_10 / x5_11 * x5_11)), (6, .int x6_12), (3, .int x3_9), (0, .ref m0), (1, .int x), (2, .int y)]) hx hb dX8_layOrder_115 hl (by decide) rfl (fun ls hl => ?_)
                          refine lv_iinc (v := (x8_37 + 1)) (lv' := [(8, .int (x8_37 + 1)), (7, .int (x7_36 - (if 0 = 0 then 0 else 1))), (5, .int (x5_11 / ((y - 1) - x6_12))), (4, .int (x4_10 - x4_10 / x5_11 * x5_11)), (6, .int x6_12), (3, .int x3_9), (0, .ref m0), (1, .int x), (2, .int y)]) hx hb dX8_layOrder_117 hl (k := 1) rfl rfl (by decide) rfl (fun ls hl => ?_)
                          refine lv_goto (tgt := 80) hx hb dX8_layOrder_120 (by decide) ?_
                          exact ih_40 _ _ _ _ _ (Nat.lt_of_lt_of_le hv.2 (Nat.le_of_lt_succ hI_41)) hv.1 hP hD hS (lv_sub hl [0, 2, 3, 1, 4, 5, 6, 7, 8] rfl)
                        · have hv := hv.2 hc_47
                          refine lv_iconst (v := 1) hx hb dX8_layOrder_106 (by decide) ?_
                          refine lv_goto (tgt := 111) hx hb dX8_layOrder_107 (by decide) ?_
                          refine x_calliR (x_runS (As := [.int 1]) (rest := [.int x7_36]) (n := 1) ⟨hx, hb, hml, hown, hts⟩ (k_X8_one l G  _ 1) gX8_layOrder_X8_one rfl (by decide +kernel) ⟨Nat.le_trans (Nat.le_of_ble_eq_true rfl) hRf, Nat.le_trans (Nat.le_of_ble_eq_true rfl) hRl⟩ hKK hSS hS hA hP hD [] (by decide) rfl rfl hl.1 rfl (Nat.le_of_ble_eq_true rfl) dX8_layOrder_111) hP hD hS hA [] rfl (fun r_49 _ H locs hw hP hS => ?_)
                          replace hw := hw.symm; subst hw
                          refine lv_isub hx hb dX8_layOrder_114 ?_
                          refine lv_istore (lv' := [(7, .int (x7_36 - (if 1 = 0 then 0 else 1))), (8, .int x8_37), (5, .int (x5_11 / ((y - 1) - x6_12))), (4, .int (x4_10 - x4_10 / x5_11 * x5_11)), (6, .int x6_12), (3, .int x3_9), (0, .ref m0), (1, .int x), (2, .int y)]) hx hb dX8_layOrder_115 hl (by decide) rfl (fun ls hl => ?_)
                          refine lv_iinc (v := (x8_37 + 1)) (lv' := [(8, .int (x8_37 + 1)), (7, .int (x7_36 - (if 1 = 0 then 0 else 1))), (5, .int (x5_11 / ((y - 1) - x6_12))), (4, .int (x4_10 - x4_10 / x5_11 * x5_11)), (6, .int x6_12), (3, .int x3_9), (0, .ref m0), (1, .int x), (2, .int y)]) hx hb dX8_layOrder_117 hl (k := 1) rfl rfl (by decide) rfl (fun ls hl => ?_)
                          refine lv_goto (tgt := 80) hx hb dX8_layOrder_120 (by decide) ?_
                          exact ih_40 _ _ _ _ _ (Nat.lt_of_lt_of_le hv.2 (Nat.le_of_lt_succ hI_41)) hv.1 hP hD hS (lv_sub hl [0, 2, 3, 1, 4, 5, 6, 7, 8] rfl)
                exact Lm_52 _ _ _ _ _ _ (Nat.lt_succ_self _) hi0 hP hD hS hl
        exact Lm_55 _ _ _ _ _ _ _ _ _ (Nat.lt_succ_self _) hi0 hP hD hS hl
      · have hv := hv.2 hc_7
        refine lv_iload hx hb dX8_layOrder_17 (lv_at hl 1 rfl) ?_
        refine lv_iload hx hb dX8_layOrder_19 (lv_at hl 0 rfl) ?_
        refine lv_imul hx hb dX8_layOrder_21 ?_
        refine lv_istore (lv' := [(5, .int (x5_1 * x6_2)), (6, .int x6_2), (4, .int x), (3, .int 0), (0, .ref m0), (1, .int x), (2, .int y)]) hx hb dX8_layOrder_22 hl (by decide) rfl (fun ls hl => ?_)
        refine lv_iinc (v := (x6_2 + 1)) (lv' := [(6, .int (x6_2 + 1)), (5, .int (x5_1 * x6_2)), (4, .int x), (3, .int 0), (0, .ref m0), (1, .int x), (2, .int y)]) hx hb dX8_layOrder_24 hl (k := 1) rfl rfl (by decide) rfl (fun ls hl => ?_)
        refine lv_goto (tgt := 11) hx hb dX8_layOrder_27 (by decide) ?_
        exact ih_5 _ _ _ _ _ (Nat.lt_of_lt_of_le hv.2 (Nat.le_of_lt_succ hI_6)) hv.1 hP hD hS hl
  exact Lm_58 _ _ _ _ _ _ (Nat.lt_succ_self _) hi0 hP hD hS hl
theorem k_X8_layOrder (l : Launch) (G : Gt) (m0 m1 m2 m3 m4 m5 m6 m7 m8 m9 m10 m11 m12 m13 m14 : Nat) (sz : Nat) (mw : Nat → Int64) (ik : Nat → Int32) (zs : Nat → Int32) (cl : Nat → Int32) (hs : Nat → Int32) (ks : Nat → Int32) (wa : Nat → Int32) (ne : Nat → Int32) (mn : Nat → Int32) (tx : Nat → Int32) (th : Nat → Int32) (od : Nat → Int32) (bk : Nat → Int32) (bh : Nat → Int32) (fu : Int32) (fd : Int32) (fi : Int32) (nu : Int32) (nw : Int32) (nf : Int32) (bf : Int32) (bn : Int32) (ts : Int32) (ap : Int32) (fs : Int32) (ln : Int32) (fo : Int32) (fa : Int32) (wr : Int32) (x : Int32) (y : Int32) (hp : True) : MetV l yX8_layOrder wsX8_layOrder 1 20 G [.ref m0, .int x, .int y] [(m0, .inr (8, [.ref m1, .ref m2, .ref m3, .ref m4, .ref m5, .ref m6, .ref m7, .ref m8, .ref m9, .int fu, .int fd, .int fi, .int nu, .int nw, .int nf, .int bf, .int bn, .ref m10, .int ts, .int ap, .int fs, .int ln, .int fo, .int fa, .ref m11, .ref m12, .ref m13, .ref m14, .int wr])), aJ G m1 560 mw, aZ G m2 2 ik, aI G m3 20 zs, aI G m4 20 cl, aI G m5 20 hs, aI G m6 20 ks, aI G m7 20 wa, aI G m8 20 ne, aI G m9 4 mn, aI G m10 400 tx, aI G m11 6 th, aI G m12 6 od, aI G m13 30 bk, aI G m14 30 bh] sz (fun (u : (Nat → Int32)) => True) (fun (u : (Nat → Int32)) => [(m0, .inr (8, [.ref m1, .ref m2, .ref m3, .ref m4, .ref m5, .ref m6, .ref m7, .ref m8, .ref m9, .int fu, .int fd, .int fi, .int nu, .int nw, .int nf, .int bf, .int bn, .ref m10, .int ts, .int ap, .int fs, .int ln, .int fo, .int fa, .ref m11, .ref m12, .ref m13, .ref m14, .int wr])), aJ G m1 560 mw, aZ G m2 2 ik, aI G m3 20 zs, aI G m4 20 cl, aI G m5 20 hs, aI G m6 20 ks, aI G m7 20 wa, aI G m8 20 ne, aI G m9 4 mn, aI G m10 400 tx, aI G m11 6 th, aI G m12 6 u, aI G m13 30 bk, aI G m14 30 bh]) :=
  c_X8_layOrder l G m0 m1 m2 m3 m4 m5 m6 m7 m8 m9 m10 m11 m12 m13 m14 sz mw ik zs cl hs ks wa ne mn tx th od bk bh fu fd fi nu nw nf bf bn ts ap fs ln fo fa wr x y (by
    sorry)

set_option maxHeartbeats 4000000 in
set_option maxRecDepth 100000 in
theorem c_X8_heatBy (l : Launch) (G : Gt) (m0 m1 m2 m3 m4 m5 m6 m7 m8 m9 m10 m11 m12 m13 m14 : Nat) (sz : Nat) (mw : Nat → Int64) (ik : Nat → Int32) (zs : Nat → Int32) (cl : Nat → Int32) (hs : Nat → Int32) (ks : Nat → Int32) (wa : Nat → Int32) (ne : Nat → Int32) (mn : Nat → Int32) (tx : Nat → Int32) (th : Nat → Int32) (od : Nat → Int32) (bk : Nat → Int32) (bh : Nat → Int32) (fu : Int32) (fd : Int32) (fi : Int32) (nu : Int32) (nw : Int32) (nf : Int32) (bf : Int32) (bn : Int32) (ts : Int32) (ap : Int32) (fs : Int32) (ln : Int32) (fo : Int32) (fa : Int32) (wr : Int32) (x : Int32) (y : Int32) (z : Int32) (hv : (True) ∧ (∀ (mw2_2 : Nat → Int64), (True) → (∃ (I7_5 : (Nat → Int64) → Int32 → Prop) (μ7_6 : (Nat → Int64) → Int32 → Nat), I7_5 mw2_2 0 ∧ (∀ (fm1_3 : (Nat → Int64)) (x4_4 : Int32), I7_5 fm1_3 x4_4 → (z ≤ x4_4 → (vp_in (140 + x) 560) ∧ (True)) ∧ (¬ (z ≤ x4_4) → (vp_in x4_4 6) ∧ ((vp_in (160 + (od x4_4.toNatClampNeg)) 560) ∧ (∃ (I34_12 : (Nat → Int64) → Int32 → Prop) (μ34_13 : (Nat → Int64) → Int32 → Nat), I34_12 (vp_updL fm1_3 ((160 + (od x4_4.toNatClampNeg)).toNatClampNeg) x.toInt64) 0 ∧ (∀ (fm1_10 : (Nat → Int64)) (x5_11 : Int32), I34_12 fm1_10 x5_11 → (y ≤ x5_11 → (vp_in x4_4 6) ∧ ((vp_in (160 + (od x4_4.toNatClampNeg)) 560) ∧ (I7_5 (vp_updL fm1_10 ((160 + (od x4_4.toNatClampNeg)).toNatClampNeg) (-1)) (x4_4 + 1) ∧ μ7_6 (vp_updL fm1_10 ((160 + (od x4_4.toNatClampNeg)).toNatClampNeg) (-1)) (x4_4 + 1) < μ7_6 fm1_3 x4_4))) ∧ (¬ (y ≤ x5_11) → (True) ∧ (∀ (r_17 : Int32) (mw2_18 : Nat → Int64), (True) → (I34_12 mw2_18 (x5_11 + 1) ∧ μ34_13 mw2_18 (x5_11 + 1) < μ34_13 fm1_10 x5_11))))))))))) : MetL l yX8_heatBy wsX8_heatBy 4 101 G [.ref m0, .int x, .int y, .int z] [(m0, .inr (8, [.ref m1, .ref m2, .ref m3, .ref m4, .ref m5, .ref m6, .ref m7, .ref m8, .ref m9, .int fu, .int fd, .int fi, .int nu, .int nw, .int nf, .int bf, .int bn, .ref m10, .int ts, .int ap, .int fs, .int ln, .int fo, .int fa, .ref m11, .ref m12, .ref m13, .ref m14, .int wr])), aJ G m1 560 mw, aZ G m2 2 ik, aI G m3 20 zs, aI G m4 20 cl, aI G m5 20 hs, aI G m6 20 ks, aI G m7 20 wa, aI G m8 20 ne, aI G m9 4 mn, aI G m10 400 tx, aI G m11 6 th, aI G m12 6 od, aI G m13 30 bk, aI G m14 30 bh] sz (fun (r : Int64) (u : (Nat → Int64)) => True) (fun (u : (Nat → Int64)) => [(m0, .inr (8, [.ref m1, .ref m2, .ref m3, .ref m4, .ref m5, .ref m6, .ref m7, .ref m8, .ref m9, .int fu, .int fd, .int fi, .int nu, .int nw, .int nf, .int bf, .int bn, .ref m10, .int ts, .int ap, .int fs, .int ln, .int fo, .int fa, .ref m11, .ref m12, .ref m13, .ref m14, .int wr])), aJ G m1 560 u, aZ G m2 2 ik, aI G m3 20 zs, aI G m4 20 cl, aI G m5 20 hs, aI G m6 20 ks, aI G m7 20 wa, aI G m8 20 ne, aI G m9 4 mn, aI G m10 400 tx, aI G m11 6 th, aI G m12 6 od, aI G m13 30 bk, aI G m14 30 bh]) := by
  refine x_startL (cc := cX8_heatBy) (maxL := 7) (ret := (some .long)) (by decide) rfl (Nat.le_of_ble_eq_true rfl) ?_
  intro p e s m args below meth c A R Q ls hRf hRl hQ C hP hD hS hA hSS hl
  obtain ⟨hx, hb, hr, hml, hown, hts, hlocks, hKK⟩ := C
  have hown : s.vm.findClass RX8 = some m.cls := hown
  have hl : lv_has ls 7 [(0, .ref m0), (1, .int x), (2, .int y), (3, .int z)] := hl
  have hinX8 : ∀ w ∈ u_ws RX8 TX8 29, w ∈ wsX8_heatBy := by decide +kernel
  have kl152 := hts (.constantLong RX8 152 (-1)) (by decide +kernel)
  have kl55 := hts (.fieldLink RX8 55 "WarmStonesModel" "order" "[I") (by decide +kernel)
  have kl7 := hts (.fieldLink RX8 7 "WarmStonesModel" "w" "[J") (by decide +kernel)
  refine lv_aload_n hx hb dX8_heatBy_0 rfl (lv_at hl 0 rfl) ?_
  obtain ⟨hp, hv⟩ := hv
  refine x_callv (wr := []) (w' := fun (u : (Nat → Int64)) => [(m0, .inr (8, [.ref m1, .ref m2, .ref m3, .ref m4, .ref m5, .ref m6, .ref m7, .ref m8, .ref m9, .int fu, .int fd, .int fi, .int nu, .int nw, .int nf, .int bf, .int bn, .ref m10, .int ts, .int ap, .int fs, .int ln, .int fo, .int fa, .ref m11, .ref m12, .ref m13, .ref m14, .int wr])), aJ G m1 560 u, aZ G m2 2 ik, aI G m3 20 zs, aI G m4 20 cl, aI G m5 20 hs, aI G m6 20 ks, aI G m7 20 wa, aI G m8 20 ne, aI G m9 4 mn, aI G m10 400 tx, aI G m11 6 th, aI G m12 6 od, aI G m13 30 bk, aI G m14 30 bh]) (x_runV (As := []) (rest := []) (n := 0) (C := RX8) (ci := 8) ⟨hx, hb, hml, hown, hts⟩ (k_X8_tryAllUp l G m0 m1 m2 m3 m4 m5 m6 m7 m8 m9 m10 m11 m12 m13 m14 _ mw ik zs cl hs ks wa ne mn tx th od bk bh fu fd fi nu nw nf bf bn ts ap fs ln fo fa wr hp) gX8_heatBy_X8_tryAllUp rfl (by decide +kernel) ⟨Nat.le_trans (Nat.le_of_ble_eq_true rfl) hRf, Nat.le_trans (Nat.le_of_ble_eq_true rfl) hRl⟩ hKK hSS hS hA hP hD [0, 1, 2, 3, 4, 5, 6, 7, 8, 9, 10, 11, 12, 13, 14] (by decide) rfl rfl rfl 0 rfl rfl hl.1 rfl (Nat.le_of_ble_eq_true rfl) dX8_heatBy_1) hP hD hS hA [0, 1, 2, 3, 4, 5, 6, 7, 8, 9, 10, 11, 12, 13, 14] [] [0, 1, 2, 3, 4, 5, 6, 7, 8, 9, 10, 11, 12, 13, 14] rfl rfl (by decide) (by decide) (by decide) (fun _ => rfl) (fun  u H locs hw hP hD hS => ?_)
  obtain ⟨mw2_2, rfl⟩ : ∃ z, z = u := ⟨_, rfl⟩
  have hP : va_P G.1 vwCl [(m0, .inr (8, [.ref m1, .ref m2, .ref m3, .ref m4, .ref m5, .ref m6, .ref m7, .ref m8, .ref m9, .int fu, .int fd, .int fi, .int nu, .int nw, .int nf, .int bf, .int bn, .ref m10, .int ts, .int ap, .int fs, .int ln, .int fo, .int fa, .ref m11, .ref m12, .ref m13, .ref m14, .int wr])), aJ G m1 560 mw2_2, aZ G m2 2 ik, aI G m3 20 zs, aI G m4 20 cl, aI G m5 20 hs, aI G m6 20 ks, aI G m7 20 wa, aI G m8 20 ne, aI G m9 4 mn, aI G m10 400 tx, aI G m11 6 th, aI G m12 6 od, aI G m13 30 bk, aI G m14 30 bh] H := hP
  have hD : va_D A [(m0, .inr (8, [.ref m1, .ref m2, .ref m3, .ref m4, .ref m5, .ref m6, .ref m7, .ref m8, .ref m9, .int fu, .int fd, .int fi, .int nu, .int nw, .int nf, .int bf, .int bn, .ref m10, .int ts, .int ap, .int fs, .int ln, .int fo, .int fa, .ref m11, .ref m12, .ref m13, .ref m14, .int wr])), aJ G m1 560 mw2_2, aZ G m2 2 ik, aI G m3 20 zs, aI G m4 20 cl, aI G m5 20 hs, aI G m6 20 ks, aI G m7 20 wa, aI G m8 20 ne, aI G m9 4 mn, aI G m10 400 tx, aI G m11 6 th, aI G m12 6 od, aI G m13 30 bk, aI G m14 30 bh] := hD
  have hv := hv mw2_2 hw
  refine lv_iconst (v := 0) hx hb dX8_heatBy_4 (by decide) ?_
  refine lv_istore (lv' := [(4, .int 0), (0, .ref m0), (1, .int x), (2, .int y), (3, .int z)]) hx hb dX8_heatBy_5 hl (by decide) rfl (fun ls hl => ?_)
  obtain ⟨I7_5, μ7_6, hi0, hs_22⟩ := hv
  have Lm_24 : ∀ (n_23 : Nat) (fm1_3 : (Nat → Int64)) (x4_4 : Int32) (H : Heap) (locs : List Loc) (ls : Array Slot), μ7_6 fm1_3 x4_4 < n_23 → I7_5 fm1_3 x4_4 → va_P G.1 vwCl [(m0, .inr (8, [.ref m1, .ref m2, .ref m3, .ref m4, .ref m5, .ref m6, .ref m7, .ref m8, .ref m9, .int fu, .int fd, .int fi, .int nu, .int nw, .int nf, .int bf, .int bn, .ref m10, .int ts, .int ap, .int fs, .int ln, .int fo, .int fa, .ref m11, .ref m12, .ref m13, .ref m14, .int wr])), aJ G m1 560 fm1_3, aZ G m2 2 ik, aI G m3 20 zs, aI G m4 20 cl, aI G m5 20 hs, aI G m6 20 ks, aI G m7 20 wa, aI G m8 20 ne, aI G m9 4 mn, aI G m10 400 tx, aI G m11 6 th, aI G m12 6 od, aI G m13 30 bk, aI G m14 30 bh] H → va_D A [(m0, .inr (8, [.ref m1, .ref m2, .ref m3, .ref m4, .ref m5, .ref m6, .ref m7, .ref m8, .ref m9, .int fu, .int fd, .int fi, .int nu, .int nw, .int nf, .int bf, .int bn, .ref m10, .int ts, .int ap, .int fs, .int ln, .int fo, .int fa, .ref m11, .ref m12, .ref m13, .ref m14, .int wr])), aJ G m1 560 fm1_3, aZ G m2 2 ik, aI G m3 20 zs, aI G m4 20 cl, aI G m5 20 hs, aI G m6 20 ks, aI G m7 20 wa, aI G m8 20 ne, aI G m9 4 mn, aI G m10 400 tx, aI G m11 6 th, aI G m12 6 od, aI G m13 30 bk, aI G m14 30 bh] → va_S A s.heap H locs → lv_has ls 7 [(4, .int x4_4), (0, .ref m0), (1, .int x), (2, .int y), (3, .int z)] → W p l e R s m args below meth c H locs 0 0 Q (F0 m 7 ls []) := by
    intro n_23
    induction n_23 with
    | zero => intro fm1_3 x4_4 H locs ls hm; exact absurd hm (Nat.not_lt_zero _)
    | succ n_23 ih_7 =>
      intro fm1_3 x4_4 H locs ls hI_8 hi hP hD hS hl
      have hv := hs_22 fm1_3 x4_4 hi
      refine lv_iload hx hb dX8_heatBy_7 (lv_at hl 0 rfl) ?_
      refine lv_iload_n hx hb dX8_heatBy_9 rfl (lv_at hl 4 rfl) ?_
      refine lv_icmp_ge (tgt := 80) hx hb dX8_heatBy_10 (by decide) (fun hc_9 => ?_) (fun hc_9 => ?_)
      · have hv := hv.1 hc_9
        refine lv_aload_n hx hb dX8_heatBy_80 rfl (lv_at hl 1 rfl) ?_
        refine va_get (D := G.1) (ci := 8) (v := .ref m1) (C := RX8) (T := TX8) (N := 29) hx hb hts hinX8 hown hKK.1 hP 0 rfl rfl 0 (by decide) kl7 (fun _ h9 => h9) rfl dX8_heatBy_81 ?_
        refine lv_sipush (v := 140) hx hb dX8_heatBy_84 (by decide) ?_
        refine lv_iload_n hx hb dX8_heatBy_87 rfl (lv_at hl 2 rfl) ?_
        refine lv_iadd hx hb dX8_heatBy_88 ?_
        obtain ⟨hin, hv⟩ := hv
        refine va_lald hx hb hKK.1 hP 1 2 rfl rfl hin dX8_heatBy_89 ?_
        exact x_lret (v := (fm1_3 (140 + x).toNatClampNeg)) fm1_3 hQ hx hb hr hlocks hS dX8_heatBy_90 hv hP hD
      · have hv := hv.2 hc_9
        refine lv_aload_n hx hb dX8_heatBy_13 rfl (lv_at hl 1 rfl) ?_
        refine va_get (D := G.1) (ci := 8) (v := .ref m1) (C := RX8) (T := TX8) (N := 29) hx hb hts hinX8 hown hKK.1 hP 0 rfl rfl 0 (by decide) kl7 (fun _ h9 => h9) rfl dX8_heatBy_14 ?_
        refine lv_sipush (v := 160) hx hb dX8_heatBy_17 (by decide) ?_
        refine lv_aload_n hx hb dX8_heatBy_20 rfl (lv_at hl 1 rfl) ?_
        refine va_get (D := G.1) (ci := 8) (v := .ref m12) (C := RX8) (T := TX8) (N := 29) hx hb hts hinX8 hown hKK.1 hP 0 rfl rfl 25 (by decide) kl55 (fun _ h9 => h9) rfl dX8_heatBy_21 ?_
        refine lv_iload hx hb dX8_heatBy_24 (lv_at hl 0 rfl) ?_
        obtain ⟨hin, hv⟩ := hv
        refine va_iald hx hb hKK.1 hP 12 0 rfl rfl hin dX8_heatBy_26 ?_
        refine lv_iadd hx hb dX8_heatBy_27 ?_
        refine lv_iload_n hx hb dX8_heatBy_28 rfl (lv_at hl 2 rfl) ?_
        refine lv_i2l hx hb dX8_heatBy_29 rfl ?_
        obtain ⟨hin, hv⟩ := hv
        refine va_last hx hb hKK.1 hP hD hS 1 2 rfl rfl hin dX8_heatBy_30 (fun H locs hP hD hS => ?_)
        have hP : va_P G.1 vwCl [(m0, .inr (8, [.ref m1, .ref m2, .ref m3, .ref m4, .ref m5, .ref m6, .ref m7, .ref m8, .ref m9, .int fu, .int fd, .int fi, .int nu, .int nw, .int nf, .int bf, .int bn, .ref m10, .int ts, .int ap, .int fs, .int ln, .int fo, .int fa, .ref m11, .ref m12, .ref m13, .ref m14, .int wr])), aJ G m1 560 (vp_updL fm1_3 ((160 + (od x4_4.toNatClampNeg)).toNatClampNeg) x.toInt64), aZ G m2 2 ik, aI G m3 20 zs, aI G m4 20 cl, aI G m5 20 hs, aI G m6 20 ks, aI G m7 20 wa, aI G m8 20 ne, aI G m9 4 mn, aI G m10 400 tx, aI G m11 6 th, aI G m12 6 od, aI G m13 30 bk, aI G m14 30 bh] H := hP
        have hD : va_D A [(m0, .inr (8, [.ref m1, .ref m2, .ref m3, .ref m4, .ref m5, .ref m6, .ref m7, .ref m8, .ref m9, .int fu, .int fd, .int fi, .int nu, .int nw, .int nf, .int bf, .int bn, .ref m10, .int ts, .int ap, .int fs, .int ln, .int fo, .int fa, .ref m11, .ref m12, .ref m13, .ref m14, .int wr])), aJ G m1 560 (vp_updL fm1_3 ((160 + (od x4_4.toNatClampNeg)).toNatClampNeg) x.toInt64), aZ G m2 2 ik, aI G m3 20 zs, aI G m4 20 cl, aI G m5 20 hs, aI G m6 20 ks, aI G m7 20 wa, aI G m8 20 ne, aI G m9 4 mn, aI G m10 400 tx, aI G m11 6 th, aI G m12 6 od, aI G m13 30 bk, aI G m14 30 bh] := hD
        refine lv_iconst (v := 0) hx hb dX8_heatBy_31 (by decide) ?_
        refine lv_istore (lv' := [(5, .int 0), (4, .int x4_4), (0, .ref m0), (1, .int x), (2, .int y), (3, .int z)]) hx hb dX8_heatBy_32 hl (by decide) rfl (fun ls hl => ?_)
        obtain ⟨I34_12, μ34_13, hi0, hs_19⟩ := hv
        have Lm_21 : ∀ (n_20 : Nat) (fm1_10 : (Nat → Int64)) (x5_11 : Int32) (H : Heap) (locs : List Loc) (ls : Array Slot), μ34_13 fm1_10 x5_11 < n_20 → I34_12 fm1_10 x5_11 → va_P G.1 vwCl [(m0, .inr (8, [.ref m1, .ref m2, .ref m3, .ref m4, .ref m5, .ref m6, .ref m7, .ref m8, .ref m9, .int fu, .int fd, .int fi, .int nu, .int nw, .int nf, .int bf, .int bn, .ref m10, .int ts, .int ap, .int fs, .int ln, .int fo, .int fa, .ref m11, .ref m12, .ref m13, .ref m14, .int wr])), aJ G m1 560 fm1_10, aZ G m2 2 ik, aI G m3 20 zs, aI G m4 20 cl, aI G m5 20 hs, aI G m6 20 ks, aI G m7 20 wa, aI G m8 20 ne, aI G m9 4 mn, aI G m10 400 tx, aI G m11 6 th, aI G m12 6 od, aI G m13 30 bk, aI G m14 30 bh] H → va_D A [(m0, .inr (8, [.ref m1, .ref m2, .ref m3, .ref m4, .ref m5, .ref m6, .ref m7, .ref m8, .ref m9, .int fu, .int fd, .int fi, .int nu, .int nw, .int nf, .int bf, .int bn, .ref m10, .int ts, .int ap, .int fs, .int ln, .int fo, .int fa, .ref m11, .ref m12, .ref m13, .ref m14, .int wr])), aJ G m1 560 fm1_10, aZ G m2 2 ik, aI G m3 20 zs, aI G m4 20 cl, aI G m5 20 hs, aI G m6 20 ks, aI G m7 20 wa, aI G m8 20 ne, aI G m9 4 mn, aI G m10 400 tx, aI G m11 6 th, aI G m12 6 od, aI G m13 30 bk, aI G m14 30 bh] → va_S A s.heap H locs → lv_has ls 7 [(5, .int x5_11), (4, .int x4_4), (0, .ref m0), (1, .int x), (2, .int y), (3, .int z)] → W p l e R s m args below meth c H locs 0 0 Q (F0 m 34 ls []) := by
          intro n_20
          induction n_20 with
          | zero => intro fm1_10 x5_11 H locs ls hm; exact absurd hm (Nat.not_lt_zero _)
          | succ n_20 ih_14 =>
            intro fm1_10 x5_11 H locs ls hI_15 hi hP hD hS hl
            have hv := hs_19 fm1_10 x5_11 hi
            refine lv_iload hx hb dX8_heatBy_34 (lv_at hl 0 rfl) ?_
            refine lv_iload_n hx hb dX8_heatBy_36 rfl (lv_at hl 4 rfl) ?_
            refine lv_icmp_ge (tgt := 55) hx hb dX8_heatBy_37 (by decide) (fun hc_16 => ?_) (fun hc_16 => ?_)
            · have hv := hv.1 hc_16
              refine lv_aload_n hx hb dX8_heatBy_55 rfl (lv_at hl 2 rfl) ?_
              refine va_get (D := G.1) (ci := 8) (v := .ref m1) (C := RX8) (T := TX8) (N := 29) hx hb hts hinX8 hown hKK.1 hP 0 rfl rfl 0 (by decide) kl7 (fun _ h9 => h9) rfl dX8_heatBy_56 ?_
              refine lv_sipush (v := 160) hx hb dX8_heatBy_59 (by decide) ?_
              refine lv_aload_n hx hb dX8_heatBy_62 rfl (lv_at hl 2 rfl) ?_
              refine va_get (D := G.1) (ci := 8) (v := .ref m12) (C := RX8) (T := TX8) (N := 29) hx hb hts hinX8 hown hKK.1 hP 0 rfl rfl 25 (by decide) kl55 (fun _ h9 => h9) rfl dX8_heatBy_63 ?_
              refine lv_iload hx hb dX8_heatBy_66 (lv_at hl 1 rfl) ?_
              obtain ⟨hin, hv⟩ := hv
              refine va_iald hx hb hKK.1 hP 12 0 rfl rfl hin dX8_heatBy_68 ?_
              refine lv_iadd hx hb dX8_heatBy_69 ?_
              refine lv_ldc2 (v := (-1)) hx hb hown kl152 dX8_heatBy_70 ?_
              obtain ⟨hin, hv⟩ := hv
              refine va_last hx hb hKK.1 hP hD hS 1 2 rfl rfl hin dX8_heatBy_73 (fun H locs hP hD hS => ?_)
              have hP : va_P G.1 vwCl [(m0, .inr (8, [.ref m1, .ref m2, .ref m3, .ref m4, .ref m5, .ref m6, .ref m7, .ref m8, .ref m9, .int fu, .int fd, .int fi, .int nu, .int nw, .int nf, .int bf, .int bn, .ref m10, .int ts, .int ap, .int fs, .int ln, .int fo, .int fa, .ref m11, .ref m12, .ref m13, .ref m14, .int wr])), aJ G m1 560 (vp_updL fm1_10 ((160 + (od x4_4.toNatClampNeg)).toNatClampNeg) (-1)), aZ G m2 2 ik, aI G m3 20 zs, aI G m4 20 cl, aI G m5 20 hs, aI G m6 20 ks, aI G m7 20 wa, aI G m8 20 ne, aI G m9 4 mn, aI G m10 400 tx, aI G m11 6 th, aI G m12 6 od, aI G m13 30 bk, aI G m14 30 bh] H := hP
              have hD : va_D A [(m0, .inr (8, [.ref m1, .ref m2, .ref m3, .ref m4, .ref m5, .ref m6, .ref m7, .ref m8, .ref m9, .int fu, .int fd, .int fi, .int nu, .int nw, .int nf, .int bf, .int bn, .ref m10, .int ts, .int ap, .int fs, .int ln, .int fo, .int fa, .ref m11, .ref m12, .ref m13, .ref m14, .int wr])), aJ G m1 560 (vp_updL fm1_10 ((160 + (od x4_4.toNatClampNeg)).toNatClampNeg) (-1)), aZ G m2 2 ik, aI G m3 20 zs, aI G m4 20 cl, aI G m5 20 hs, aI G m6 20 ks, aI G m7 20 wa, aI G m8 20 ne, aI G m9 4 mn, aI G m10 400 tx, aI G m11 6 th, aI G m12 6 od, aI G m13 30 bk, aI G m14 30 bh] := hD
              refine lv_iinc (v := (x4_4 + 1)) (lv' := [(4, .int (x4_4 + 1)), (5, .int x5_11), (0, .ref m0), (1, .int x), (2, .int y), (3, .int z)]) hx hb dX8_heatBy_74 hl (k := 1) rfl rfl (by decide) rfl (fun ls hl => ?_)
              refine lv_goto (tgt := 7) hx hb dX8_heatBy_77 (by decide) ?_
              exact ih_7 _ _ _ _ _ (Nat.lt_of_lt_of_le hv.2 (Nat.le_of_lt_succ hI_8)) hv.1 hP hD hS (lv_sub hl [0, 2, 3, 4, 5] rfl)
            · have hv := hv.2 hc_16
              refine lv_aload_n hx hb dX8_heatBy_40 rfl (lv_at hl 2 rfl) ?_
              refine lv_sipush (v := 140) hx hb dX8_heatBy_41 (by decide) ?_
              obtain ⟨hp, hv⟩ := hv
              refine x_calli (wr := []) (w' := fun (u : (Nat → Int64)) => [(m0, .inr (8, [.ref m1, .ref m2, .ref m3, .ref m4, .ref m5, .ref m6, .ref m7, .ref m8, .ref m9, .int fu, .int fd, .int fi, .int nu, .int nw, .int nf, .int bf, .int bn, .ref m10, .int ts, .int ap, .int fs, .int ln, .int fo, .int fa, .ref m11, .ref m12, .ref m13, .ref m14, .int wr])), aJ G m1 560 u, aZ G m2 2 ik, aI G m3 20 zs, aI G m4 20 cl, aI G m5 20 hs, aI G m6 20 ks, aI G m7 20 wa, aI G m8 20 ne, aI G m9 4 mn, aI G m10 400 tx, aI G m11 6 th, aI G m12 6 od, aI G m13 30 bk, aI G m14 30 bh]) (x_runV (As := [.int 140]) (rest := []) (n := 1) (C := RX8) (ci := 8) ⟨hx, hb, hml, hown, hts⟩ (k_X8_pass l G m0 m1 m2 m3 m4 m5 m6 m7 m8 m9 m10 m11 m12 m13 m14 _ fm1_10 ik zs cl hs ks wa ne mn tx th od bk bh fu fd fi nu nw nf bf bn ts ap fs ln fo fa wr 140 hp) gX8_heatBy_X8_pass rfl (by decide +kernel) ⟨Nat.le_trans (Nat.le_of_ble_eq_true rfl) hRf, Nat.le_trans (Nat.le_of_ble_eq_true rfl) hRl⟩ hKK hSS hS hA hP hD [0, 1, 2, 3, 4, 5, 6, 7, 8, 9, 10, 11, 12, 13, 14] (by decide) rfl rfl rfl 0 rfl rfl hl.1 rfl (Nat.le_of_ble_eq_true rfl) dX8_heatBy_44) hP hD hS hA [0, 1, 2, 3, 4, 5, 6, 7, 8, 9, 10, 11, 12, 13, 14] [] [0, 1, 2, 3, 4, 5, 6, 7, 8, 9, 10, 11, 12, 13, 14] rfl rfl (by decide) (by decide) (by decide) (fun _ => rfl) (fun r_17 u H locs hw hP hD hS => ?_)
              obtain ⟨mw2_18, rfl⟩ : ∃ z, z = u := ⟨_, rfl⟩
              have hP : va_P G.1 vwCl [(m0, .inr (8, [.ref m1, .ref m2, .ref m3, .ref m4, .ref m5, .ref m6, .ref m7, .ref m8, .ref m9, .int fu, .int fd, .int fi, .int nu, .int nw, .int nf, .int bf, .int bn, .ref m10, .int ts, .int ap, .int fs, .int ln, .int fo, .int fa, .ref m11, .ref m12, .ref m13, .ref m14, .int wr])), aJ G m1 560 mw2_18, aZ G m2 2 ik, aI G m3 20 zs, aI G m4 20 cl, aI G m5 20 hs, aI G m6 20 ks, aI G m7 20 wa, aI G m8 20 ne, aI G m9 4 mn, aI G m10 400 tx, aI G m11 6 th, aI G m12 6 od, aI G m13 30 bk, aI G m14 30 bh] H := hP
              have hD : va_D A [(m0, .inr (8, [.ref m1, .ref m2, .ref m3, .ref m4, .ref m5, .ref m6, .ref m7, .ref m8, .ref m9, .int fu, .int fd, .int fi, .int nu, .int nw, .int nf, .int bf, .int bn, .ref m10, .int ts, .int ap, .int fs, .int ln, .int fo, .int fa, .ref m11, .ref m12, .ref m13, .ref m14, .int wr])), aJ G m1 560 mw2_18, aZ G m2 2 ik, aI G m3 20 zs, aI G m4 20 cl, aI G m5 20 hs, aI G m6 20 ks, aI G m7 20 wa, aI G m8 20 ne, aI G m9 4 mn, aI G m10 400 tx, aI G m11 6 th, aI G m12 6 od, aI G m13 30 bk, aI G m14 30 bh] := hD
              have hv := hv r_17 mw2_18 hw
              refine lv_istore (lv' := [(6, .int r_17), (5, .int x5_11), (4, .int x4_4), (0, .ref m0), (1, .int x), (2, .int y), (3, .int z)]) hx hb dX8_heatBy_47 hl (by decide) rfl (fun ls hl => ?_)
              refine lv_iinc (v := (x5_11 + 1)) (lv' := [(5, .int (x5_11 + 1)), (6, .int r_17), (4, .int x4_4), (0, .ref m0), (1, .int x), (2, .int y), (3, .int z)]) hx hb dX8_heatBy_49 hl (k := 1) rfl rfl (by decide) rfl (fun ls hl => ?_)
              refine lv_goto (tgt := 34) hx hb dX8_heatBy_52 (by decide) ?_
              exact ih_14 _ _ _ _ _ (Nat.lt_of_lt_of_le hv.2 (Nat.le_of_lt_succ hI_15)) hv.1 hP hD hS (lv_sub hl [0, 2, 3, 4, 5, 6] rfl)
        exact Lm_21 _ _ _ _ _ _ (Nat.lt_succ_self _) hi0 hP hD hS hl
  exact Lm_24 _ _ _ _ _ _ (Nat.lt_succ_self _) hi0 hP hD hS hl
theorem k_X8_heatBy (l : Launch) (G : Gt) (m0 m1 m2 m3 m4 m5 m6 m7 m8 m9 m10 m11 m12 m13 m14 : Nat) (sz : Nat) (mw : Nat → Int64) (ik : Nat → Int32) (zs : Nat → Int32) (cl : Nat → Int32) (hs : Nat → Int32) (ks : Nat → Int32) (wa : Nat → Int32) (ne : Nat → Int32) (mn : Nat → Int32) (tx : Nat → Int32) (th : Nat → Int32) (od : Nat → Int32) (bk : Nat → Int32) (bh : Nat → Int32) (fu : Int32) (fd : Int32) (fi : Int32) (nu : Int32) (nw : Int32) (nf : Int32) (bf : Int32) (bn : Int32) (ts : Int32) (ap : Int32) (fs : Int32) (ln : Int32) (fo : Int32) (fa : Int32) (wr : Int32) (x : Int32) (y : Int32) (z : Int32) (hp : True) : MetL l yX8_heatBy wsX8_heatBy 4 101 G [.ref m0, .int x, .int y, .int z] [(m0, .inr (8, [.ref m1, .ref m2, .ref m3, .ref m4, .ref m5, .ref m6, .ref m7, .ref m8, .ref m9, .int fu, .int fd, .int fi, .int nu, .int nw, .int nf, .int bf, .int bn, .ref m10, .int ts, .int ap, .int fs, .int ln, .int fo, .int fa, .ref m11, .ref m12, .ref m13, .ref m14, .int wr])), aJ G m1 560 mw, aZ G m2 2 ik, aI G m3 20 zs, aI G m4 20 cl, aI G m5 20 hs, aI G m6 20 ks, aI G m7 20 wa, aI G m8 20 ne, aI G m9 4 mn, aI G m10 400 tx, aI G m11 6 th, aI G m12 6 od, aI G m13 30 bk, aI G m14 30 bh] sz (fun (r : Int64) (u : (Nat → Int64)) => True) (fun (u : (Nat → Int64)) => [(m0, .inr (8, [.ref m1, .ref m2, .ref m3, .ref m4, .ref m5, .ref m6, .ref m7, .ref m8, .ref m9, .int fu, .int fd, .int fi, .int nu, .int nw, .int nf, .int bf, .int bn, .ref m10, .int ts, .int ap, .int fs, .int ln, .int fo, .int fa, .ref m11, .ref m12, .ref m13, .ref m14, .int wr])), aJ G m1 560 u, aZ G m2 2 ik, aI G m3 20 zs, aI G m4 20 cl, aI G m5 20 hs, aI G m6 20 ks, aI G m7 20 wa, aI G m8 20 ne, aI G m9 4 mn, aI G m10 400 tx, aI G m11 6 th, aI G m12 6 od, aI G m13 30 bk, aI G m14 30 bh]) :=
  c_X8_heatBy l G m0 m1 m2 m3 m4 m5 m6 m7 m8 m9 m10 m11 m12 m13 m14 sz mw ik zs cl hs ks wa ne mn tx th od bk bh fu fd fi nu nw nf bf bn ts ap fs ln fo fa wr x y z (by
    sorry)

set_option maxHeartbeats 4000000 in
set_option maxRecDepth 100000 in
theorem c_X8_passed (l : Launch) (G : Gt) (m0 m1 m2 m3 m4 m5 m6 m7 m8 m9 m10 m11 m12 m13 m14 : Nat) (sz : Nat) (mw : Nat → Int64) (ik : Nat → Int32) (zs : Nat → Int32) (cl : Nat → Int32) (hs : Nat → Int32) (ks : Nat → Int32) (wa : Nat → Int32) (ne : Nat → Int32) (mn : Nat → Int32) (tx : Nat → Int32) (th : Nat → Int32) (od : Nat → Int32) (bk : Nat → Int32) (bh : Nat → Int32) (fu : Int32) (fd : Int32) (fi : Int32) (nu : Int32) (nw : Int32) (nf : Int32) (bf : Int32) (bn : Int32) (ts : Int32) (ap : Int32) (fs : Int32) (ln : Int32) (fo : Int32) (fa : Int32) (wr : Int32) (x : Int32) (y : Int32) (z : Int32) (v : Int32) (hv : (True) ∧ (∀ (r_1 : Int32), (True) → ((r_1 = 0 → True) ∧ (¬ (r_1 = 0) → (¬ y.toInt64 < 0 ∧ ¬ ((((1 : Int32) <<< ((mn 1) &&& 31)) - 1).toInt64) < y.toInt64 → ∃ (I40_9 : (Nat → Int32) → Int32 → Int32 → Int32 → Prop) (μ40_10 : (Nat → Int32) → Int32 → Int32 → Int32 → Nat), I40_9 th 0 1 0 ∧ (∀ (fm11_5 : (Nat → Int32)) (x5_6 : Int32) (x6_7 : Int32) (x7_8 : Int32), I40_9 fm11_5 x5_6 x6_7 x7_8 → ((mn 1) ≤ x7_8 → (¬ (¬ z.toInt64 < 1 ∧ ¬ 60 < z.toInt64) → True) ∧ (¬ z.toInt64 < 1 ∧ ¬ 60 < z.toInt64 → (¬ (¬ x5_6.toInt64 < 1 ∧ ¬ 6 < x5_6.toInt64) → True) ∧ (¬ x5_6.toInt64 < 1 ∧ ¬ 6 < x5_6.toInt64 → (¬ v.toInt64 < 0 ∧ ¬ x5_6.toInt64 < v.toInt64 → ∃ (I143_25 : (Nat → Int64) → (Nat → Int32) → Int32 → Int32 → Int64 → Prop) (μ143_26 : (Nat → Int64) → (Nat → Int32) → Int32 → Int32 → Int64 → Nat), I143_25 mw od 0 (-1) 0 ∧ (∀ (fm1_20 : (Nat → Int64)) (fm12_21 : (Nat → Int32)) (x10_22 : Int32) (x7_23 : Int32) (x8_24 : Int64), I143_25 fm1_20 fm12_21 x10_22 x7_23 x8_24 → (x6_7 ≤ x10_22 → (True) ∧ (∀ (od2_31 : Nat → Int32), (True) → ((¬ v = 0 → (vp_in (v - 1) 6) ∧ (True)) ∧ (v = 0 → True)))) ∧ (¬ (x6_7 ≤ x10_22) → (True) ∧ (∀ (od2_34 : Nat → Int32), (True) → ((True) ∧ (∀ (r_35 : Int64) (mw2_36 : Nat → Int64), (True) → ((x7_23 < 0 → I143_25 mw2_36 od2_34 (x10_22 + 1) x10_22 r_35 ∧ μ143_26 mw2_36 od2_34 (x10_22 + 1) x10_22 r_35 < μ143_26 fm1_20 fm12_21 x10_22 x7_23 x8_24) ∧ (¬ (x7_23 < 0) → (r_35 ≤ x8_24 → I143_25 mw2_36 od2_34 (x10_22 + 1) x7_23 x8_24 ∧ μ143_26 mw2_36 od2_34 (x10_22 + 1) x7_23 x8_24 < μ143_26 fm1_20 fm12_21 x10_22 x7_23 x8_24) ∧ (¬ (r_35 ≤ x8_24) → I143_25 mw2_36 od2_34 (x10_22 + 1) x10_22 r_35 ∧ μ143_26 mw2_36 od2_34 (x10_22 + 1) x10_22 r_35 < μ143_26 fm1_20 fm12_21 x10_22 x7_23 x8_24))))))))) ∧ (¬ (¬ v.toInt64 < 0 ∧ ¬ x5_6.toInt64 < v.toInt64) → True)))) ∧ (¬ ((mn 1) ≤ x7_8) → (¬ ((y >>> (x7_8 &&& 31)) &&& 1) = 1 → I40_9 fm11_5 x5_6 x6_7 (x7_8 + 1) ∧ μ40_10 fm11_5 x5_6 x6_7 (x7_8 + 1) < μ40_10 fm11_5 x5_6 x6_7 x7_8) ∧ (((y >>> (x7_8 &&& 31)) &&& 1) = 1 → (6 ≤ x5_6 → I40_9 fm11_5 (x5_6 + 1) (x6_7 * (x5_6 + 1)) (x7_8 + 1) ∧ μ40_10 fm11_5 (x5_6 + 1) (x6_7 * (x5_6 + 1)) (x7_8 + 1) < μ40_10 fm11_5 x5_6 x6_7 x7_8) ∧ (¬ (6 ≤ x5_6) → (vp_in x5_6 6) ∧ (I40_9 (upd fm11_5 x5_6.toNatClampNeg x7_8) (x5_6 + 1) (x6_7 * (x5_6 + 1)) (x7_8 + 1) ∧ μ40_10 (upd fm11_5 x5_6.toNatClampNeg x7_8) (x5_6 + 1) (x6_7 * (x5_6 + 1)) (x7_8 + 1) < μ40_10 fm11_5 x5_6 x6_7 x7_8)))))) ∧ (¬ (¬ y.toInt64 < 0 ∧ ¬ ((((1 : Int32) <<< ((mn 1) &&& 31)) - 1).toInt64) < y.toInt64) → True))))) : MetI l yX8_passed wsX8_passed 5 127 G [.ref m0, .int x, .int y, .int z, .int v] [(m0, .inr (8, [.ref m1, .ref m2, .ref m3, .ref m4, .ref m5, .ref m6, .ref m7, .ref m8, .ref m9, .int fu, .int fd, .int fi, .int nu, .int nw, .int nf, .int bf, .int bn, .ref m10, .int ts, .int ap, .int fs, .int ln, .int fo, .int fa, .ref m11, .ref m12, .ref m13, .ref m14, .int wr])), aJ G m1 560 mw, aZ G m2 2 ik, aI G m3 20 zs, aI G m4 20 cl, aI G m5 20 hs, aI G m6 20 ks, aI G m7 20 wa, aI G m8 20 ne, aI G m9 4 mn, aI G m10 400 tx, aI G m11 6 th, aI G m12 6 od, aI G m13 30 bk, aI G m14 30 bh] sz (fun (r : Int32) (u : (Nat → Int64) × (Nat → Int32) × (Nat → Int32)) => True) (fun (u : (Nat → Int64) × (Nat → Int32) × (Nat → Int32)) => [(m0, .inr (8, [.ref m1, .ref m2, .ref m3, .ref m4, .ref m5, .ref m6, .ref m7, .ref m8, .ref m9, .int fu, .int fd, .int fi, .int nu, .int nw, .int nf, .int bf, .int bn, .ref m10, .int ts, .int ap, .int fs, .int ln, .int fo, .int fa, .ref m11, .ref m12, .ref m13, .ref m14, .int wr])), aJ G m1 560 u.1, aZ G m2 2 ik, aI G m3 20 zs, aI G m4 20 cl, aI G m5 20 hs, aI G m6 20 ks, aI G m7 20 wa, aI G m8 20 ne, aI G m9 4 mn, aI G m10 400 tx, aI G m11 6 u.2.1, aI G m12 6 u.2.2, aI G m13 30 bk, aI G m14 30 bh]) := by
  refine x_startI (cc := cX8_passed) (maxL := 13) (ret := (some .int)) (by decide) rfl (Nat.le_of_ble_eq_true rfl) ?_
  intro p e s m args below meth c A R Q ls hRf hRl hQ C hP hD hS hA hSS hl
  obtain ⟨hx, hb, hr, hml, hown, hts, hlocks, hKK⟩ := C
  have hown : s.vm.findClass RX8 = some m.cls := hown
  have hl : lv_has ls 13 [(0, .ref m0), (1, .int x), (2, .int y), (3, .int z), (4, .int v)] := hl
  have hinX8 : ∀ w ∈ u_ws RX8 TX8 29, w ∈ wsX8_passed := by decide +kernel
  have kl164 := hts (.constant RX8 164 (-1000000001)) (by decide +kernel)
  have kl234 := hts (.constantLong RX8 234 (60)) (by decide +kernel)
  have kl246 := hts (.constantLong RX8 246 (6)) (by decide +kernel)
  have kl36 := hts (.fieldLink RX8 36 "WarmStonesModel" "many" "[I") (by decide +kernel)
  have kl52 := hts (.fieldLink RX8 52 "WarmStonesModel" "those" "[I") (by decide +kernel)
  have kl55 := hts (.fieldLink RX8 55 "WarmStonesModel" "order" "[I") (by decide +kernel)
  have kl73 := hts (.constant RX8 73 (-1000000002)) (by decide +kernel)
  refine lv_aload_n hx hb dX8_passed_0 rfl (lv_at hl 0 rfl) ?_
  refine lv_iload_n hx hb dX8_passed_1 rfl (lv_at hl 1 rfl) ?_
  obtain ⟨hp, hv⟩ := hv
  refine x_calliR (x_runV (As := [.int x]) (rest := []) (n := 1) (C := RX8) (ci := 8) ⟨hx, hb, hml, hown, hts⟩ (k_X8_isStone l G m0 m1 m2 m3 m4 m5 m6 m7 m8 m9 m10 m11 m12 m13 m14 _ mw ik zs cl hs ks wa ne mn tx th od bk bh fu fd fi nu nw nf bf bn ts ap fs ln fo fa wr x hp) gX8_passed_X8_isStone rfl (by decide +kernel) ⟨Nat.le_trans (Nat.le_of_ble_eq_true rfl) hRf, Nat.le_trans (Nat.le_of_ble_eq_true rfl) hRl⟩ hKK hSS hS hA hP hD [0, 1, 2, 3, 4, 5, 6, 7, 8, 9, 10, 11, 12, 13, 14] (by decide) rfl rfl rfl 0 rfl rfl hl.1 rfl (Nat.le_of_ble_eq_true rfl) dX8_passed_2) hP hD hS hA [0, 1, 2, 3, 4, 5, 6, 7, 8, 9, 10, 11, 12, 13, 14] rfl (fun r_1 _ H locs hw hP hS => ?_)
  have hv := hv r_1 hw
  refine lv_if_eq (tgt := 28) hx hb dX8_passed_5 (by decide) (fun hc_2 => ?_) (fun hc_2 => ?_)
  · have hv := hv.1 hc_2
    refine lv_ldc (v := (-1000000001)) hx hb hown kl164 dX8_passed_28 ?_
    exact x_iret (v := (-1000000001)) (mw, th, od) hQ hx hb hr hlocks hS dX8_passed_30 hv hP hD
  · have hv := hv.2 hc_2
    refine lv_iload_n hx hb dX8_passed_8 rfl (lv_at hl 2 rfl) ?_
    refine lv_i2l hx hb dX8_passed_9 rfl ?_
    refine lv_lconst (v := 0) hx hb dX8_passed_10 (by decide) ?_
    refine lv_iconst (v := 1) hx hb dX8_passed_11 (by decide) ?_
    refine lv_aload_n hx hb dX8_passed_12 rfl (lv_at hl 0 rfl) ?_
    refine va_get (D := G.1) (ci := 8) (v := .ref m9) (C := RX8) (T := TX8) (N := 29) hx hb hts hinX8 hown hKK.1 hP 0 rfl rfl 8 (by decide) kl36 (fun _ h9 => h9) rfl dX8_passed_13 ?_
    refine lv_iconst (v := 1) hx hb dX8_passed_16 (by decide) ?_
    refine va_iald hx hb hKK.1 hP 9 0 rfl rfl (by unfold vp_in; decide) dX8_passed_17 ?_
    refine lv_ishl hx hb dX8_passed_18 ?_
    refine lv_iconst (v := 1) hx hb dX8_passed_19 (by decide) ?_
    refine lv_isub hx hb dX8_passed_20 ?_
    refine lv_i2l hx hb dX8_passed_21 rfl ?_
    refine x_calliR (x_runS (As := [.long y.toInt64, .long 0, .long ((((1 : Int32) <<< ((mn 1) &&& 31)) - 1).toInt64)]) (rest := []) (n := 3) ⟨hx, hb, hml, hown, hts⟩ (k_X8_in l G  _ y.toInt64 0 ((((1 : Int32) <<< ((mn 1) &&& 31)) - 1).toInt64)) gX8_passed_X8_in rfl (by decide +kernel) ⟨Nat.le_trans (Nat.le_of_ble_eq_true rfl) hRf, Nat.le_trans (Nat.le_of_ble_eq_true rfl) hRl⟩ hKK hSS hS hA hP hD [] (by decide) rfl rfl hl.1 rfl (Nat.le_of_ble_eq_true rfl) dX8_passed_22) hP hD hS hA [] rfl (fun r_3 _ H locs hw hP hS => ?_)
    replace hw := hw.symm; subst hw
    refine lv_if_ne (tgt := 31) hx hb dX8_passed_25 (by decide) (fun hc_4 => ?_) (fun hc_4 => ?_)
    · have hv := hv.1 (tv_eqn.mp hc_4)
      refine lv_iconst (v := 0) hx hb dX8_passed_31 (by decide) ?_
      refine lv_istore (lv' := [(5, .int 0), (0, .ref m0), (1, .int x), (2, .int y), (3, .int z), (4, .int v)]) hx hb dX8_passed_32 hl (by decide) rfl (fun ls hl => ?_)
      refine lv_iconst (v := 1) hx hb dX8_passed_34 (by decide) ?_
      refine lv_istore (lv' := [(6, .int 1), (5, .int 0), (0, .ref m0), (1, .int x), (2, .int y), (3, .int z), (4, .int v)]) hx hb dX8_passed_35 hl (by decide) rfl (fun ls hl => ?_)
      refine lv_iconst (v := 0) hx hb dX8_passed_37 (by decide) ?_
      refine lv_istore (lv' := [(7, .int 0), (6, .int 1), (5, .int 0), (0, .ref m0), (1, .int x), (2, .int y), (3, .int z), (4, .int v)]) hx hb dX8_passed_38 hl (by decide) rfl (fun ls hl => ?_)
      obtain ⟨I40_9, μ40_10, hi0, hs_44⟩ := hv
      have Lm_46 : ∀ (n_45 : Nat) (fm11_5 : (Nat → Int32)) (x5_6 : Int32) (x6_7 : Int32) (x7_8 : Int32) (H : Heap) (locs : List Loc) (ls : Array Slot), μ40_10 fm11_5 x5_6 x6_7 x7_8 < n_45 → I40_9 fm11_5 x5_6 x6_7 x7_8 → va_P G.1 vwCl [(m0, .inr (8, [.ref m1, .ref m2, .ref m3, .ref m4, .ref m5, .ref m6, .ref m7, .ref m8, .ref m9, .int fu, .int fd, .int fi, .int nu, .int nw, .int nf, .int bf, .int bn, .ref m10, .int ts, .int ap, .int fs, .int ln, .int fo, .int fa, .ref m11, .ref m12, .ref m13, .ref m14, .int wr])), aJ G m1 560 mw, aZ G m2 2 ik, aI G m3 20 zs, aI G m4 20 cl, aI G m5 20 hs, aI G m6 20 ks, aI G m7 20 wa, aI G m8 20 ne, aI G m9 4 mn, aI G m10 400 tx, aI G m11 6 fm11_5, aI G m12 6 od, aI G m13 30 bk, aI G m14 30 bh] H → va_D A [(m0, .inr (8, [.ref m1, .ref m2, .ref m3, .ref m4, .ref m5, .ref m6, .ref m7, .ref m8, .ref m9, .int fu, .int fd, .int fi, .int nu, .int nw, .int nf, .int bf, .int bn, .ref m10, .int ts, .int ap, .int fs, .int ln, .int fo, .int fa, .ref m11, .ref m12, .ref m13, .ref m14, .int wr])), aJ G m1 560 mw, aZ G m2 2 ik, aI G m3 20 zs, aI G m4 20 cl, aI G m5 20 hs, aI G m6 20 ks, aI G m7 20 wa, aI G m8 20 ne, aI G m9 4 mn, aI G m10 400 tx, aI G m11 6 fm11_5, aI G m12 6 od, aI G m13 30 bk, aI G m14 30 bh] → va_S A s.heap H locs → lv_has ls 13 [(7, .int x7_8), (6, .int x6_7), (5, .int x5_6), (0, .ref m0), (1, .int x), (2, .int y), (3, .int z), (4, .int v)] → W p l e R s m args below meth c H locs 0 0 Q (F0 m 40 ls []) := by
        intro n_45
        induction n_45 with
        | zero => intro fm11_5 x5_6 x6_7 x7_8 H locs ls hm; exact absurd hm (Nat.not_lt_zero _)
        | succ n_45 ih_11 =>
          intro fm11_5 x5_6 x6_7 x7_8 H locs ls hI_12 hi hP hD hS hl
          have hv := hs_44 fm11_5 x5_6 x6_7 x7_8 hi
          refine lv_iload hx hb dX8_passed_40 (lv_at hl 0 rfl) ?_
          refine lv_aload_n hx hb dX8_passed_42 rfl (lv_at hl 3 rfl) ?_
          refine va_get (D := G.1) (ci := 8) (v := .ref m9) (C := RX8) (T := TX8) (N := 29) hx hb hts hinX8 hown hKK.1 hP 0 rfl rfl 8 (by decide) kl36 (fun _ h9 => h9) rfl dX8_passed_43 ?_
          refine lv_iconst (v := 1) hx hb dX8_passed_46 (by decide) ?_
          refine va_iald hx hb hKK.1 hP 9 0 rfl rfl (by unfold vp_in; decide) dX8_passed_47 ?_
          refine lv_icmp_ge (tgt := 93) hx hb dX8_passed_48 (by decide) (fun hc_13 => ?_) (fun hc_13 => ?_)
          · have hv := hv.1 hc_13
            refine lv_iload_n hx hb dX8_passed_93 rfl (lv_at hl 6 rfl) ?_
            refine lv_i2l hx hb dX8_passed_94 rfl ?_
            refine lv_lconst (v := 1) hx hb dX8_passed_95 (by decide) ?_
            refine lv_ldc2 (v := 60) hx hb hown kl234 dX8_passed_96 ?_
            refine x_calliR (x_runS (As := [.long z.toInt64, .long 1, .long 60]) (rest := []) (n := 3) ⟨hx, hb, hml, hown, hts⟩ (k_X8_in l G  _ z.toInt64 1 60) gX8_passed_X8_in rfl (by decide +kernel) ⟨Nat.le_trans (Nat.le_of_ble_eq_true rfl) hRf, Nat.le_trans (Nat.le_of_ble_eq_true rfl) hRl⟩ hKK hSS hS hA hP hD [] (by decide) rfl rfl hl.1 rfl (Nat.le_of_ble_eq_true rfl) dX8_passed_99) hP hD hS hA [] rfl (fun r_14 _ H locs hw hP hS => ?_)
            replace hw := hw.symm; subst hw
            refine lv_if_eq (tgt := 131) hx hb dX8_passed_102 (by decide) (fun hc_15 => ?_) (fun hc_15 => ?_)
            · have hv := hv.1 (tv_eq.mp hc_15)
              refine lv_ldc (v := (-1000000002)) hx hb hown kl73 dX8_passed_131 ?_
              exact x_iret (v := (-1000000002)) (mw, fm11_5, od) hQ hx hb hr hlocks hS dX8_passed_133 hv hP hD
            · have hv := hv.2 (tv_eqn.mp hc_15)
              refine lv_iload hx hb dX8_passed_105 (lv_at hl 2 rfl) ?_
              refine lv_i2l hx hb dX8_passed_107 rfl ?_
              refine lv_lconst (v := 1) hx hb dX8_passed_108 (by decide) ?_
              refine lv_ldc2 (v := 6) hx hb hown kl246 dX8_passed_109 ?_
              refine x_calliR (x_runS (As := [.long x5_6.toInt64, .long 1, .long 6]) (rest := []) (n := 3) ⟨hx, hb, hml, hown, hts⟩ (k_X8_in l G  _ x5_6.toInt64 1 6) gX8_passed_X8_in rfl (by decide +kernel) ⟨Nat.le_trans (Nat.le_of_ble_eq_true rfl) hRf, Nat.le_trans (Nat.le_of_ble_eq_true rfl) hRl⟩ hKK hSS hS hA hP hD [] (by decide) rfl rfl hl.1 rfl (Nat.le_of_ble_eq_true rfl) dX8_passed_112) hP hD hS hA [] rfl (fun r_16 _ H locs hw hP hS => ?_)
              replace hw := hw.symm; subst hw
              refine lv_if_eq (tgt := 131) hx hb dX8_passed_115 (by decide) (fun hc_17 => ?_) (fun hc_17 => ?_)
              · have hv := hv.1 (tv_eq.mp hc_17)
                refine lv_ldc (v := (-1000000002)) hx hb hown kl73 dX8_passed_131 ?_
                exact x_iret (v := (-1000000002)) (mw, fm11_5, od) hQ hx hb hr hlocks hS dX8_passed_133 hv hP hD
              · have hv := hv.2 (tv_eqn.mp hc_17)
                refine lv_iload hx hb dX8_passed_118 (lv_at hl 7 rfl) ?_
                refine lv_i2l hx hb dX8_passed_120 rfl ?_
                refine lv_lconst (v := 0) hx hb dX8_passed_121 (by decide) ?_
                refine lv_iload hx hb dX8_passed_122 (lv_at hl 2 rfl) ?_
                refine lv_i2l hx hb dX8_passed_124 rfl ?_
                refine x_calliR (x_runS (As := [.long v.toInt64, .long 0, .long x5_6.toInt64]) (rest := []) (n := 3) ⟨hx, hb, hml, hown, hts⟩ (k_X8_in l G  _ v.toInt64 0 x5_6.toInt64) gX8_passed_X8_in rfl (by decide +kernel) ⟨Nat.le_trans (Nat.le_of_ble_eq_true rfl) hRf, Nat.le_trans (Nat.le_of_ble_eq_true rfl) hRl⟩ hKK hSS hS hA hP hD [] (by decide) rfl rfl hl.1 rfl (Nat.le_of_ble_eq_true rfl) dX8_passed_125) hP hD hS hA [] rfl (fun r_18 _ H locs hw hP hS => ?_)
                replace hw := hw.symm; subst hw
                refine lv_if_ne (tgt := 134) hx hb dX8_passed_128 (by decide) (fun hc_19 => ?_) (fun hc_19 => ?_)
                · have hv := hv.1 (tv_eqn.mp hc_19)
                  refine lv_iconst (v := (-1)) hx hb dX8_passed_134 (by decide) ?_
                  refine lv_istore (lv' := [(7, .int (-1)), (6, .int x6_7), (5, .int x5_6), (0, .ref m0), (1, .int x), (2, .int y), (3, .int z), (4, .int v)]) hx hb dX8_passed_135 hl (by decide) rfl (fun ls hl => ?_)
                  refine lv_lconst (v := 0) hx hb dX8_passed_137 (by decide) ?_
                  refine lv_lstore (lv' := [(8, .long 0), (7, .int (-1)), (6, .int x6_7), (5, .int x5_6), (0, .ref m0), (1, .int x), (2, .int y), (3, .int z), (4, .int v)]) hx hb dX8_passed_138 hl (by decide) rfl (fun ls hl => ?_)
                  refine lv_iconst (v := 0) hx hb dX8_passed_140 (by decide) ?_
                  refine lv_istore (lv' := [(10, .int 0), (8, .long 0), (7, .int (-1)), (6, .int x6_7), (5, .int x5_6), (0, .ref m0), (1, .int x), (2, .int y), (3, .int z), (4, .int v)]) hx hb dX8_passed_141 hl (by decide) rfl (fun ls hl => ?_)
                  obtain ⟨I143_25, μ143_26, hi0, hs_39⟩ := hv
                  have Lm_41 : ∀ (n_40 : Nat) (fm1_20 : (Nat → Int64)) (fm12_21 : (Nat → Int32)) (x10_22 : Int32) (x7_23 : Int32) (x8_24 : Int64) (H : Heap) (locs : List Loc) (ls : Array Slot), μ143_26 fm1_20 fm12_21 x10_22 x7_23 x8_24 < n_40 → I143_25 fm1_20 fm12_21 x10_22 x7_23 x8_24 → va_P G.1 vwCl [(m0, .inr (8, [.ref m1, .ref m2, .ref m3, .ref m4, .ref m5, .ref m6, .ref m7, .ref m8, .ref m9, .int fu, .int fd, .int fi, .int nu, .int nw, .int nf, .int bf, .int bn, .ref m10, .int ts, .int ap, .int fs, .int ln, .int fo, .int fa, .ref m11, .ref m12, .ref m13, .ref m14, .int wr])), aJ G m1 560 fm1_20, aZ G m2 2 ik, aI G m3 20 zs, aI G m4 20 cl, aI G m5 20 hs, aI G m6 20 ks, aI G m7 20 wa, aI G m8 20 ne, aI G m9 4 mn, aI G m10 400 tx, aI G m11 6 fm11_5, aI G m12 6 fm12_21, aI G m13 30 bk, aI G m14 30 bh] H → va_D A [(m0, .inr (8, [.ref m1, .ref m2, .ref m3, .ref m4, .ref m5, .ref m6, .ref m7, .ref m8, .ref m9, .int fu, .int fd, .int fi, .int nu, .int nw, .int nf, .int bf, .int bn, .ref m10, .int ts, .int ap, .int fs, .int ln, .int fo, .int fa, .ref m11, .ref m12, .ref m13, .ref m14, .int wr])), aJ G m1 560 fm1_20, aZ G m2 2 ik, aI G m3 20 zs, aI G m4 20 cl, aI G m5 20 hs, aI G m6 20 ks, aI G m7 20 wa, aI G m8 20 ne, aI G m9 4 mn, aI G m10 400 tx, aI G m11 6 fm11_5, aI G m12 6 fm12_21, aI G m13 30 bk, aI G m14 30 bh] → va_S A s.heap H locs → lv_has ls 13 [(10, .int x10_22), (8, .long x8_24), (7, .int x7_23), (6, .int x6_7), (5, .int x5_6), (0, .ref m0), (1, .int x), (2, .int y), (3, .int z), (4, .int v)] → W p l e R s m args below meth c H locs 0 0 Q (F0 m 143 ls []) := by
                    intro n_40
                    induction n_40 with
                    | zero => intro fm1_20 fm12_21 x10_22 x7_23 x8_24 H locs ls hm; exact absurd hm (Nat.not_lt_zero _)
                    | succ n_40 ih_27 =>
                      intro fm1_20 fm12_21 x10_22 x7_23 x8_24 H locs ls hI_28 hi hP hD hS hl
                      have hv := hs_39 fm1_20 fm12_21 x10_22 x7_23 x8_24 hi
                      refine lv_iload hx hb dX8_passed_143 (lv_at hl 0 rfl) ?_
                      refine lv_iload hx hb dX8_passed_145 (lv_at hl 3 rfl) ?_
                      refine lv_icmp_ge (tgt := 195) hx hb dX8_passed_147 (by decide) (fun hc_29 => ?_) (fun hc_29 => ?_)
                      · have hv := hv.1 hc_29
                        refine lv_aload_n hx hb dX8_passed_195 rfl (lv_at hl 5 rfl) ?_
                        refine lv_iload hx hb dX8_passed_196 (lv_at hl 2 rfl) ?_
                        refine lv_iload hx hb dX8_passed_198 (lv_at hl 4 rfl) ?_
                        obtain ⟨hp, hv⟩ := hv
                        refine x_callv (wr := []) (w' := fun (u : (Nat → Int32)) => [(m0, .inr (8, [.ref m1, .ref m2, .ref m3, .ref m4, .ref m5, .ref m6, .ref m7, .ref m8, .ref m9, .int fu, .int fd, .int fi, .int nu, .int nw, .int nf, .int bf, .int bn, .ref m10, .int ts, .int ap, .int fs, .int ln, .int fo, .int fa, .ref m11, .ref m12, .ref m13, .ref m14, .int wr])), aJ G m1 560 fm1_20, aZ G m2 2 ik, aI G m3 20 zs, aI G m4 20 cl, aI G m5 20 hs, aI G m6 20 ks, aI G m7 20 wa, aI G m8 20 ne, aI G m9 4 mn, aI G m10 400 tx, aI G m11 6 fm11_5, aI G m12 6 u, aI G m13 30 bk, aI G m14 30 bh]) (x_runV (As := [.int x7_23, .int x5_6]) (rest := []) (n := 2) (C := RX8) (ci := 8) ⟨hx, hb, hml, hown, hts⟩ (k_X8_layOrder l G m0 m1 m2 m3 m4 m5 m6 m7 m8 m9 m10 m11 m12 m13 m14 _ fm1_20 ik zs cl hs ks wa ne mn tx fm11_5 fm12_21 bk bh fu fd fi nu nw nf bf bn ts ap fs ln fo fa wr x7_23 x5_6 hp) gX8_passed_X8_layOrder rfl (by decide +kernel) ⟨Nat.le_trans (Nat.le_of_ble_eq_true rfl) hRf, Nat.le_trans (Nat.le_of_ble_eq_true rfl) hRl⟩ hKK hSS hS hA hP hD [0, 1, 2, 3, 4, 5, 6, 7, 8, 9, 10, 11, 12, 13, 14] (by decide) rfl rfl rfl 0 rfl rfl hl.1 rfl (Nat.le_of_ble_eq_true rfl) dX8_passed_200) hP hD hS hA [0, 1, 2, 3, 4, 5, 6, 7, 8, 9, 10, 11, 12, 13, 14] [] [0, 1, 2, 3, 4, 5, 6, 7, 8, 9, 10, 11, 12, 13, 14] rfl rfl (by decide) (by decide) (by decide) (fun _ => rfl) (fun  u H locs hw hP hD hS => ?_)
                        obtain ⟨od2_31, rfl⟩ : ∃ z, z = u := ⟨_, rfl⟩
                        have hP : va_P G.1 vwCl [(m0, .inr (8, [.ref m1, .ref m2, .ref m3, .ref m4, .ref m5, .ref m6, .ref m7, .ref m8, .ref m9, .int fu, .int fd, .int fi, .int nu, .int nw, .int nf, .int bf, .int bn, .ref m10, .int ts, .int ap, .int fs, .int ln, .int fo, .int fa, .ref m11, .ref m12, .ref m13, .ref m14, .int wr])), aJ G m1 560 fm1_20, aZ G m2 2 ik, aI G m3 20 zs, aI G m4 20 cl, aI G m5 20 hs, aI G m6 20 ks, aI G m7 20 wa, aI G m8 20 ne, aI G m9 4 mn, aI G m10 400 tx, aI G m11 6 fm11_5, aI G m12 6 od2_31, aI G m13 30 bk, aI G m14 30 bh] H := hP
                        have hD : va_D A [(m0, .inr (8, [.ref m1, .ref m2, .ref m3, .ref m4, .ref m5, .ref m6, .ref m7, .ref m8, .ref m9, .int fu, .int fd, .int fi, .int nu, .int nw, .int nf, .int bf, .int bn, .ref m10, .int ts, .int ap, .int fs, .int ln, .int fo, .int fa, .ref m11, .ref m12, .ref m13, .ref m14, .int wr])), aJ G m1 560 fm1_20, aZ G m2 2 ik, aI G m3 20 zs, aI G m4 20 cl, aI G m5 20 hs, aI G m6 20 ks, aI G m7 20 wa, aI G m8 20 ne, aI G m9 4 mn, aI G m10 400 tx, aI G m11 6 fm11_5, aI G m12 6 od2_31, aI G m13 30 bk, aI G m14 30 bh] := hD
                        have hv := hv od2_31 hw
                        refine lv_iload hx hb dX8_passed_203 (lv_at hl 9 rfl) ?_
                        refine lv_if_ne (tgt := 214) hx hb dX8_passed_205 (by decide) (fun hc_32 => ?_) (fun hc_32 => ?_)
                        · have hv := hv.1 hc_32
                          refine lv_aload_n hx hb dX8_passed_214 rfl (lv_at hl 5 rfl) ?_
                          refine va_get (D := G.1) (ci := 8) (v := .ref m12) (C := RX8) (T := TX8) (N := 29) hx hb hts hinX8 hown hKK.1 hP 0 rfl rfl 25 (by decide) kl55 (fun _ h9 => h9) rfl dX8_passed_215 ?_
                          refine lv_iload hx hb dX8_passed_218 (lv_at hl 9 rfl) ?_
                          refine lv_iconst (v := 1) hx hb dX8_passed_220 (by decide) ?_
                          refine lv_isub hx hb dX8_passed_221 ?_
                          obtain ⟨hin, hv⟩ := hv
                          refine va_iald hx hb hKK.1 hP 12 0 rfl rfl hin dX8_passed_222 ?_
                          exact x_iret (v := (od2_31 (v - 1).toNatClampNeg)) (fm1_20, fm11_5, od2_31) hQ hx hb hr hlocks hS dX8_passed_223 hv hP hD
                        · have hv := hv.2 hc_32
                          refine lv_lload hx hb dX8_passed_208 (lv_at hl 1 rfl) ?_
                          refine lv_l2i hx hb dX8_passed_210 rfl ?_
                          refine lv_goto (tgt := 223) hx hb dX8_passed_211 (by decide) ?_
                          exact x_iret (v := x8_24.toInt32) (fm1_20, fm11_5, od2_31) hQ hx hb hr hlocks hS dX8_passed_223 hv hP hD
                      · have hv := hv.2 hc_29
                        refine lv_aload_n hx hb dX8_passed_150 rfl (lv_at hl 5 rfl) ?_
                        refine lv_iload hx hb dX8_passed_151 (lv_at hl 0 rfl) ?_
                        refine lv_iload hx hb dX8_passed_153 (lv_at hl 4 rfl) ?_
                        obtain ⟨hp, hv⟩ := hv
                        refine x_callv (wr := []) (w' := fun (u : (Nat → Int32)) => [(m0, .inr (8, [.ref m1, .ref m2, .ref m3, .ref m4, .ref m5, .ref m6, .ref m7, .ref m8, .ref m9, .int fu, .int fd, .int fi, .int nu, .int nw, .int nf, .int bf, .int bn, .ref m10, .int ts, .int ap, .int fs, .int ln, .int fo, .int fa, .ref m11, .ref m12, .ref m13, .ref m14, .int wr])), aJ G m1 560 fm1_20, aZ G m2 2 ik, aI G m3 20 zs, aI G m4 20 cl, aI G m5 20 hs, aI G m6 20 ks, aI G m7 20 wa, aI G m8 20 ne, aI G m9 4 mn, aI G m10 400 tx, aI G m11 6 fm11_5, aI G m12 6 u, aI G m13 30 bk, aI G m14 30 bh]) (x_runV (As := [.int x10_22, .int x5_6]) (rest := []) (n := 2) (C := RX8) (ci := 8) ⟨hx, hb, hml, hown, hts⟩ (k_X8_layOrder l G m0 m1 m2 m3 m4 m5 m6 m7 m8 m9 m10 m11 m12 m13 m14 _ fm1_20 ik zs cl hs ks wa ne mn tx fm11_5 fm12_21 bk bh fu fd fi nu nw nf bf bn ts ap fs ln fo fa wr x10_22 x5_6 hp) gX8_passed_X8_layOrder rfl (by decide +kernel) ⟨Nat.le_trans (Nat.le_of_ble_eq_true rfl) hRf, Nat.le_trans (Nat.le_of_ble_eq_true rfl) hRl⟩ hKK hSS hS hA hP hD [0, 1, 2, 3, 4, 5, 6, 7, 8, 9, 10, 11, 12, 13, 14] (by decide) rfl rfl rfl 0 rfl rfl hl.1 rfl (Nat.le_of_ble_eq_true rfl) dX8_passed_155) hP hD hS hA [0, 1, 2, 3, 4, 5, 6, 7, 8, 9, 10, 11, 12, 13, 14] [] [0, 1, 2, 3, 4, 5, 6, 7, 8, 9, 10, 11, 12, 13, 14] rfl rfl (by decide) (by decide) (by decide) (fun _ => rfl) (fun  u H locs hw hP hD hS => ?_)
                        obtain ⟨od2_34, rfl⟩ : ∃ z, z = u := ⟨_, rfl⟩
                        have hP : va_P G.1 vwCl [(m0, .inr (8, [.ref m1, .ref m2, .ref m3, .ref m4, .ref m5, .ref m6, .ref m7, .ref m8, .ref m9, .int fu, .int fd, .int fi, .int nu, .int nw, .int nf, .int bf, .int bn, .ref m10, .int ts, .int ap, .int fs, .int ln, .int fo, .int fa, .ref m11, .ref m12, .ref m13, .ref m14, .int wr])), aJ G m1 560 fm1_20, aZ G m2 2 ik, aI G m3 20 zs, aI G m4 20 cl, aI G m5 20 hs, aI G m6 20 ks, aI G m7 20 wa, aI G m8 20 ne, aI G m9 4 mn, aI G m10 400 tx, aI G m11 6 fm11_5, aI G m12 6 od2_34, aI G m13 30 bk, aI G m14 30 bh] H := hP
                        have hD : va_D A [(m0, .inr (8, [.ref m1, .ref m2, .ref m3, .ref m4, .ref m5, .ref m6, .ref m7, .ref m8, .ref m9, .int fu, .int fd, .int fi, .int nu, .int nw, .int nf, .int bf, .int bn, .ref m10, .int ts, .int ap, .int fs, .int ln, .int fo, .int fa, .ref m11, .ref m12, .ref m13, .ref m14, .int wr])), aJ G m1 560 fm1_20, aZ G m2 2 ik, aI G m3 20 zs, aI G m4 20 cl, aI G m5 20 hs, aI G m6 20 ks, aI G m7 20 wa, aI G m8 20 ne, aI G m9 4 mn, aI G m10 400 tx, aI G m11 6 fm11_5, aI G m12 6 od2_34, aI G m13 30 bk, aI G m14 30 bh] := hD
                        have hv := hv od2_34 hw
                        refine lv_aload_n hx hb dX8_passed_158 rfl (lv_at hl 5 rfl) ?_
                        refine lv_iload_n hx hb dX8_passed_159 rfl (lv_at hl 6 rfl) ?_
                        refine lv_iload_n hx hb dX8_passed_160 rfl (lv_at hl 8 rfl) ?_
                        refine lv_iload hx hb dX8_passed_161 (lv_at hl 4 rfl) ?_
                        obtain ⟨hp, hv⟩ := hv
                        refine x_calll (wr := []) (w' := fun (u : (Nat → Int64)) => [(m0, .inr (8, [.ref m1, .ref m2, .ref m3, .ref m4, .ref m5, .ref m6, .ref m7, .ref m8, .ref m9, .int fu, .int fd, .int fi, .int nu, .int nw, .int nf, .int bf, .int bn, .ref m10, .int ts, .int ap, .int fs, .int ln, .int fo, .int fa, .ref m11, .ref m12, .ref m13, .ref m14, .int wr])), aJ G m1 560 u, aZ G m2 2 ik, aI G m3 20 zs, aI G m4 20 cl, aI G m5 20 hs, aI G m6 20 ks, aI G m7 20 wa, aI G m8 20 ne, aI G m9 4 mn, aI G m10 400 tx, aI G m11 6 fm11_5, aI G m12 6 od2_34, aI G m13 30 bk, aI G m14 30 bh]) (x_runV (As := [.int x, .int z, .int x5_6]) (rest := []) (n := 3) (C := RX8) (ci := 8) ⟨hx, hb, hml, hown, hts⟩ (k_X8_heatBy l G m0 m1 m2 m3 m4 m5 m6 m7 m8 m9 m10 m11 m12 m13 m14 _ fm1_20 ik zs cl hs ks wa ne mn tx fm11_5 od2_34 bk bh fu fd fi nu nw nf bf bn ts ap fs ln fo fa wr x z x5_6 hp) gX8_passed_X8_heatBy rfl (by decide +kernel) ⟨Nat.le_trans (Nat.le_of_ble_eq_true rfl) hRf, Nat.le_trans (Nat.le_of_ble_eq_true rfl) hRl⟩ hKK hSS hS hA hP hD [0, 1, 2, 3, 4, 5, 6, 7, 8, 9, 10, 11, 12, 13, 14] (by decide) rfl rfl rfl 0 rfl rfl hl.1 rfl (Nat.le_of_ble_eq_true rfl) dX8_passed_163) hP hD hS hA [0, 1, 2, 3, 4, 5, 6, 7, 8, 9, 10, 11, 12, 13, 14] [] [0, 1, 2, 3, 4, 5, 6, 7, 8, 9, 10, 11, 12, 13, 14] rfl rfl (by decide) (by decide) (by decide) (fun _ => rfl) (fun r_35 u H locs hw hP hD hS => ?_)
                        obtain ⟨mw2_36, rfl⟩ : ∃ z, z = u := ⟨_, rfl⟩
                        have hP : va_P G.1 vwCl [(m0, .inr (8, [.ref m1, .ref m2, .ref m3, .ref m4, .ref m5, .ref m6, .ref m7, .ref m8, .ref m9, .int fu, .int fd, .int fi, .int nu, .int nw, .int nf, .int bf, .int bn, .ref m10, .int ts, .int ap, .int fs, .int ln, .int fo, .int fa, .ref m11, .ref m12, .ref m13, .ref m14, .int wr])), aJ G m1 560 mw2_36, aZ G m2 2 ik, aI G m3 20 zs, aI G m4 20 cl, aI G m5 20 hs, aI G m6 20 ks, aI G m7 20 wa, aI G m8 20 ne, aI G m9 4 mn, aI G m10 400 tx, aI G m11 6 fm11_5, aI G m12 6 od2_34, aI G m13 30 bk, aI G m14 30 bh] H := hP
                        have hD : va_D A [(m0, .inr (8, [.ref m1, .ref m2, .ref m3, .ref m4, .ref m5, .ref m6, .ref m7, .ref m8, .ref m9, .int fu, .int fd, .int fi, .int nu, .int nw, .int nf, .int bf, .int bn, .ref m10, .int ts, .int ap, .int fs, .int ln, .int fo, .int fa, .ref m11, .ref m12, .ref m13, .ref m14, .int wr])), aJ G m1 560 mw2_36, aZ G m2 2 ik, aI G m3 20 zs, aI G m4 20 cl, aI G m5 20 hs, aI G m6 20 ks, aI G m7 20 wa, aI G m8 20 ne, aI G m9 4 mn, aI G m10 400 tx, aI G m11 6 fm11_5, aI G m12 6 od2_34, aI G m13 30 bk, aI G m14 30 bh] := hD
                        have hv := hv r_35 mw2_36 hw
                        refine lv_lstore (lv' := [(11, .long r_35), (10, .int x10_22), (8, .long x8_24), (7, .int x7_23), (6, .int x6_7), (5, .int x5_6), (0, .ref m0), (1, .int x), (2, .int y), (3, .int z), (4, .int v)]) hx hb dX8_passed_166 hl (by decide) rfl (fun ls hl => ?_)
                        refine lv_iload hx hb dX8_passed_168 (lv_at hl 3 rfl) ?_
                        refine lv_if_lt (tgt := 181) hx hb dX8_passed_170 (by decide) (fun hc_37 => ?_) (fun hc_37 => ?_)
                        · have hv := hv.1 hc_37
                          refine lv_iload hx hb dX8_passed_181 (lv_at hl 1 rfl) ?_
                          refine lv_istore (lv' := [(7, .int x10_22), (11, .long r_35), (10, .int x10_22), (8, .long x8_24), (6, .int x6_7), (5, .int x5_6), (0, .ref m0), (1, .int x), (2, .int y), (3, .int z), (4, .int v)]) hx hb dX8_passed_183 hl (by decide) rfl (fun ls hl => ?_)
                          refine lv_lload hx hb dX8_passed_185 (lv_at hl 1 rfl) ?_
                          refine lv_lstore (lv' := [(8, .long r_35), (7, .int x10_22), (11, .long r_35), (10, .int x10_22), (6, .int x6_7), (5, .int x5_6), (0, .ref m0), (1, .int x), (2, .int y), (3, .int z), (4, .int v)]) hx hb dX8_passed_187 hl (by decide) rfl (fun ls hl => ?_)
                          refine lv_iinc (v := (x10_22 + 1)) (lv' := [(10, .int (x10_22 + 1)), (8, .long r_35), (7, .int x10_22), (11, .long r_35), (6, .int x6_7), (5, .int x5_6), (0, .ref m0), (1, .int x), (2, .int y), (3, .int z), (4, .int v)]) hx hb dX8_passed_189 hl (k := 3) rfl rfl (by decide) rfl (fun ls hl => ?_)
                          refine lv_goto (tgt := 143) hx hb dX8_passed_192 (by decide) ?_
                          exact ih_27 _ _ _ _ _ _ _ _ (Nat.lt_of_lt_of_le hv.2 (Nat.le_of_lt_succ hI_28)) hv.1 hP hD hS (lv_sub hl [0, 1, 2, 4, 5, 6, 7, 8, 9, 10] rfl)
                        · have hv := hv.2 hc_37
                          refine lv_lload hx hb dX8_passed_173 (lv_at hl 0 rfl) ?_
                          refine lv_lload hx hb dX8_passed_175 (lv_at hl 2 rfl) ?_
                          refine W.lcmp hx hb dX8_passed_177 ?_
                          refine lv_if_le (tgt := 189) hx hb dX8_passed_178 (by decide) (fun hc_38 => ?_) (fun hc_38 => ?_)
                          · have hv := hv.1 ((lg_cmp_le _ _).mp hc_38)
                            refine lv_iinc (v := (x10_22 + 1)) (lv' := [(10, .int (x10_22 + 1)), (11, .long r_35), (8, .long x8_24), (7, .int x7_23), (6, .int x6_7), (5, .int x5_6), (0, .ref m0), (1, .int x), (2, .int y), (3, .int z), (4, .int v)]) hx hb dX8_passed_189 hl (k := 1) rfl rfl (by decide) rfl (fun ls hl => ?_)
                            refine lv_goto (tgt := 143) hx hb dX8_passed_192 (by decide) ?_
                            exact ih_27 _ _ _ _ _ _ _ _ (Nat.lt_of_lt_of_le hv.2 (Nat.le_of_lt_succ hI_28)) hv.1 hP hD hS (lv_sub hl [0, 2, 3, 4, 5, 6, 7, 8, 9, 10] rfl)
                          · have hv := hv.2 (fun h => hc_38 ((lg_cmp_le _ _).mpr h))
                            refine lv_iload hx hb dX8_passed_181 (lv_at hl 1 rfl) ?_
                            refine lv_istore (lv' := [(7, .int x10_22), (11, .long r_35), (10, .int x10_22), (8, .long x8_24), (6, .int x6_7), (5, .int x5_6), (0, .ref m0), (1, .int x), (2, .int y), (3, .int z), (4, .int v)]) hx hb dX8_passed_183 hl (by decide) rfl (fun ls hl => ?_)
                            refine lv_lload hx hb dX8_passed_185 (lv_at hl 1 rfl) ?_
                            refine lv_lstore (lv' := [(8, .long r_35), (7, .int x10_22), (11, .long r_35), (10, .int x10_22), (6, .int x6_7), (5, .int x5_6), (0, .ref m0), (1, .int x), (2, .int y), (3, .int z), (4, .int v)]) hx hb dX8_passed_187 hl (by decide) rfl (fun ls hl => ?_)
                            refine lv_iinc (v := (x10_22 + 1)) (lv' := [(10, .int (x10_22 + 1)), (8, .long r_35), (7, .int x10_22), (11, .long r_35), (6, .int x6_7), (5, .int x5_6), (0, .ref m0), (1, .int x), (2, .int y), (3, .int z), (4, .int v)]) hx hb dX8_passed_189 hl (k := 3) rfl rfl (by decide) rfl (fun ls hl => ?_)
                            refine lv_goto (tgt := 143) hx hb dX8_passed_192 (by decide) ?_
                            exact ih_27 _ _ _ _ _ _ _ _ (Nat.lt_of_lt_of_le hv.2 (Nat.le_of_lt_succ hI_28)) hv.1 hP hD hS (lv_sub hl [0, 1, 2, 4, 5, 6, 7, 8, 9, 10] rfl)
                  exact Lm_41 _ _ _ _ _ _ _ _ _ (Nat.lt_succ_self _) hi0 hP hD hS hl
                · have hv := hv.2 (tv_eq.mp hc_19)
                  refine lv_ldc (v := (-1000000002)) hx hb hown kl73 dX8_passed_131 ?_
                  exact x_iret (v := (-1000000002)) (mw, fm11_5, od) hQ hx hb hr hlocks hS dX8_passed_133 hv hP hD
          · have hv := hv.2 hc_13
            refine lv_iload_n hx hb dX8_passed_51 rfl (lv_at hl 5 rfl) ?_
            refine lv_iload hx hb dX8_passed_52 (lv_at hl 0 rfl) ?_
            refine lv_ishr hx hb dX8_passed_54 ?_
            refine lv_iconst (v := 1) hx hb dX8_passed_55 (by decide) ?_
            refine lv_iand hx hb dX8_passed_56 ?_
            refine lv_iconst (v := 1) hx hb dX8_passed_57 (by decide) ?_
            refine lv_icmp_ne (tgt := 87) hx hb dX8_passed_58 (by decide) (fun hc_42 => ?_) (fun hc_42 => ?_)
            · have hv := hv.1 hc_42
              refine lv_iinc (v := (x7_8 + 1)) (lv' := [(7, .int (x7_8 + 1)), (6, .int x6_7), (5, .int x5_6), (0, .ref m0), (1, .int x), (2, .int y), (3, .int z), (4, .int v)]) hx hb dX8_passed_87 hl (k := 0) rfl rfl (by decide) rfl (fun ls hl => ?_)
              refine lv_goto (tgt := 40) hx hb dX8_passed_90 (by decide) ?_
              exact ih_11 _ _ _ _ _ _ _ (Nat.lt_of_lt_of_le hv.2 (Nat.le_of_lt_succ hI_12)) hv.1 hP hD hS hl
            · have hv := hv.2 hc_42
              refine lv_iload hx hb dX8_passed_61 (lv_at hl 2 rfl) ?_
              refine lv_bipush (v := 6) hx hb dX8_passed_63 (by decide) ?_
              refine lv_icmp_ge (tgt := 77) hx hb dX8_passed_65 (by decide) (fun hc_43 => ?_) (fun hc_43 => ?_)
              · have hv := hv.1 hc_43
                refine lv_iinc (v := (x5_6 + 1)) (lv' := [(5, .int (x5_6 + 1)), (7, .int x7_8), (6, .int x6_7), (0, .ref m0), (1, .int x), (2, .int y), (3, .int z), (4, .int v)]) hx hb dX8_passed_77 hl (k := 2) rfl rfl (by decide) rfl (fun ls hl => ?_)
                refine lv_iload hx hb dX8_passed_80 (lv_at hl 2 rfl) ?_
                refine lv_iload hx hb dX8_passed_82 (lv_at hl 0 rfl) ?_
                refine lv_imul hx hb dX8_passed_84 ?_
                refine lv_istore (lv' := [(6, .int (x6_7 * (x5_6 + 1))), (5, .int (x5_6 + 1)), (7, .int x7_8), (0, .ref m0), (1, .int x), (2, .int y), (3, .int z), (4, .int v)]) hx hb dX8_passed_85 hl (by decide) rfl (fun ls hl => ?_)
                refine lv_iinc (v := (x7_8 + 1)) (lv' := [(7, .int (x7_8 + 1)), (6, .int (x6_7 * (x5_6 + 1))), (5, .int (x5_6 + 1)), (0, .ref m0), (1, .int x), (2, .int y), (3, .int z), (4, .int v)]) hx hb dX8_passed_87 hl (k := 2) rfl rfl (by decide) rfl (fun ls hl => ?_)
                refine lv_goto (tgt := 40) hx hb dX8_passed_90 (by decide) ?_
                exact ih_11 _ _ _ _ _ _ _ (Nat.lt_of_lt_of_le hv.2 (Nat.le_of_lt_succ hI_12)) hv.1 hP hD hS hl
              · have hv := hv.2 hc_43
                refine lv_aload_n hx hb dX8_passed_68 rfl (lv_at hl 3 rfl) ?_
                refine va_get (D := G.1) (ci := 8) (v := .ref m11) (C := RX8) (T := TX8) (N := 29) hx hb hts hinX8 hown hKK.1 hP 0 rfl rfl 24 (by decide) kl52 (fun _ h9 => h9) rfl dX8_passed_69 ?_
                refine lv_iload hx hb dX8_passed_72 (lv_at hl 2 rfl) ?_
                refine lv_iload hx hb dX8_passed_74 (lv_at hl 0 rfl) ?_
                obtain ⟨hin, hv⟩ := hv
                refine va_iast hx hb hKK.1 hP hD hS 11 0 rfl rfl hin dX8_passed_76 (fun H locs hP hD hS => ?_)
                have hP : va_P G.1 vwCl [(m0, .inr (8, [.ref m1, .ref m2, .ref m3, .ref m4, .ref m5, .ref m6, .ref m7, .ref m8, .ref m9, .int fu, .int fd, .int fi, .int nu, .int nw, .int nf, .int bf, .int bn, .ref m10, .int ts, .int ap, .int fs, .int ln, .int fo, .int fa, .ref m11, .ref m12, .ref m13, .ref m14, .int wr])), aJ G m1 560 mw, aZ G m2 2 ik, aI G m3 20 zs, aI G m4 20 cl, aI G m5 20 hs, aI G m6 20 ks, aI G m7 20 wa, aI G m8 20 ne, aI G m9 4 mn, aI G m10 400 tx, aI G m11 6 (upd fm11_5 x5_6.toNatClampNeg x7_8), aI G m12 6 od, aI G m13 30 bk, aI G m14 30 bh] H := hP
                have hD : va_D A [(m0, .inr (8, [.ref m1, .ref m2, .ref m3, .ref m4, .ref m5, .ref m6, .ref m7, .ref m8, .ref m9, .int fu, .int fd, .int fi, .int nu, .int nw, .int nf, .int bf, .int bn, .ref m10, .int ts, .int ap, .int fs, .int ln, .int fo, .int fa, .ref m11, .ref m12, .ref m13, .ref m14, .int wr])), aJ G m1 560 mw, aZ G m2 2 ik, aI G m3 20 zs, aI G m4 20 cl, aI G m5 20 hs, aI G m6 20 ks, aI G m7 20 wa, aI G m8 20 ne, aI G m9 4 mn, aI G m10 400 tx, aI G m11 6 (upd fm11_5 x5_6.toNatClampNeg x7_8), aI G m12 6 od, aI G m13 30 bk, aI G m14 30 bh] := hD
                refine lv_iinc (v := (x5_6 + 1)) (lv' := [(5, .int (x5_6 + 1)), (7, .int x7_8), (6, .int x6_7), (0, .ref m0), (1, .int x), (2, .int y), (3, .int z), (4, .int v)]) hx hb dX8_passed_77 hl (k := 2) rfl rfl (by decide) rfl (fun ls hl => ?_)
                refine lv_iload hx hb dX8_passed_80 (lv_at hl 2 rfl) ?_
                refine lv_iload hx hb dX8_passed_82 (lv_at hl 0 rfl) ?_
                refine lv_imul hx hb dX8_passed_84 ?_
                refine lv_istore (lv' := [(6, .int (x6_7 * (x5_6 + 1))), (5, .int (x5_6 + 1)), (7, .int x7_8), (0, .ref m0), (1, .int x), (2, .int y), (3, .int z), (4, .int v)]) hx hb dX8_passed_85 hl (by decide) rfl (fun ls hl => ?_)
                refine lv_iinc (v := (x7_8 + 1)) (lv' := [(7, .int (x7_8 + 1)), (6, .int (x6_7 * (x5_6 + 1))), (5, .int (x5_6 + 1)), (0, .ref m0), (1, .int x), (2, .int y), (3, .int z), (4, .int v)]) hx hb dX8_passed_87 hl (k := 2) rfl rfl (by decide) rfl (fun ls hl => ?_)
                refine lv_goto (tgt := 40) hx hb dX8_passed_90 (by decide) ?_
                exact ih_11 _ _ _ _ _ _ _ (Nat.lt_of_lt_of_le hv.2 (Nat.le_of_lt_succ hI_12)) hv.1 hP hD hS hl
      exact Lm_46 _ _ _ _ _ _ _ _ (Nat.lt_succ_self _) hi0 hP hD hS hl
    · have hv := hv.2 (tv_eq.mp hc_4)
      refine lv_ldc (v := (-1000000001)) hx hb hown kl164 dX8_passed_28 ?_
      exact x_iret (v := (-1000000001)) (mw, th, od) hQ hx hb hr hlocks hS dX8_passed_30 hv hP hD
theorem k_X8_passed (l : Launch) (G : Gt) (m0 m1 m2 m3 m4 m5 m6 m7 m8 m9 m10 m11 m12 m13 m14 : Nat) (sz : Nat) (mw : Nat → Int64) (ik : Nat → Int32) (zs : Nat → Int32) (cl : Nat → Int32) (hs : Nat → Int32) (ks : Nat → Int32) (wa : Nat → Int32) (ne : Nat → Int32) (mn : Nat → Int32) (tx : Nat → Int32) (th : Nat → Int32) (od : Nat → Int32) (bk : Nat → Int32) (bh : Nat → Int32) (fu : Int32) (fd : Int32) (fi : Int32) (nu : Int32) (nw : Int32) (nf : Int32) (bf : Int32) (bn : Int32) (ts : Int32) (ap : Int32) (fs : Int32) (ln : Int32) (fo : Int32) (fa : Int32) (wr : Int32) (x : Int32) (y : Int32) (z : Int32) (v : Int32) (hp : True) : MetI l yX8_passed wsX8_passed 5 127 G [.ref m0, .int x, .int y, .int z, .int v] [(m0, .inr (8, [.ref m1, .ref m2, .ref m3, .ref m4, .ref m5, .ref m6, .ref m7, .ref m8, .ref m9, .int fu, .int fd, .int fi, .int nu, .int nw, .int nf, .int bf, .int bn, .ref m10, .int ts, .int ap, .int fs, .int ln, .int fo, .int fa, .ref m11, .ref m12, .ref m13, .ref m14, .int wr])), aJ G m1 560 mw, aZ G m2 2 ik, aI G m3 20 zs, aI G m4 20 cl, aI G m5 20 hs, aI G m6 20 ks, aI G m7 20 wa, aI G m8 20 ne, aI G m9 4 mn, aI G m10 400 tx, aI G m11 6 th, aI G m12 6 od, aI G m13 30 bk, aI G m14 30 bh] sz (fun (r : Int32) (u : (Nat → Int64) × (Nat → Int32) × (Nat → Int32)) => True) (fun (u : (Nat → Int64) × (Nat → Int32) × (Nat → Int32)) => [(m0, .inr (8, [.ref m1, .ref m2, .ref m3, .ref m4, .ref m5, .ref m6, .ref m7, .ref m8, .ref m9, .int fu, .int fd, .int fi, .int nu, .int nw, .int nf, .int bf, .int bn, .ref m10, .int ts, .int ap, .int fs, .int ln, .int fo, .int fa, .ref m11, .ref m12, .ref m13, .ref m14, .int wr])), aJ G m1 560 u.1, aZ G m2 2 ik, aI G m3 20 zs, aI G m4 20 cl, aI G m5 20 hs, aI G m6 20 ks, aI G m7 20 wa, aI G m8 20 ne, aI G m9 4 mn, aI G m10 400 tx, aI G m11 6 u.2.1, aI G m12 6 u.2.2, aI G m13 30 bk, aI G m14 30 bh]) :=
  c_X8_passed l G m0 m1 m2 m3 m4 m5 m6 m7 m8 m9 m10 m11 m12 m13 m14 sz mw ik zs cl hs ks wa ne mn tx th od bk bh fu fd fi nu nw nf bf bn ts ap fs ln fo fa wr x y z v (by
    sorry)

set_option maxHeartbeats 4000000 in
set_option maxRecDepth 100000 in
theorem c_X8_gift (l : Launch) (G : Gt) (m0 m1 m2 m3 m4 m5 m6 m7 m8 m9 m10 m11 m12 m13 m14 : Nat) (sz : Nat) (mw : Nat → Int64) (ik : Nat → Int32) (zs : Nat → Int32) (cl : Nat → Int32) (hs : Nat → Int32) (ks : Nat → Int32) (wa : Nat → Int32) (ne : Nat → Int32) (mn : Nat → Int32) (tx : Nat → Int32) (th : Nat → Int32) (od : Nat → Int32) (bk : Nat → Int32) (bh : Nat → Int32) (fu : Int32) (fd : Int32) (fi : Int32) (nu : Int32) (nw : Int32) (nf : Int32) (bf : Int32) (bn : Int32) (ts : Int32) (ap : Int32) (fs : Int32) (ln : Int32) (fo : Int32) (fa : Int32) (wr : Int32) (x : Int32) (y : Int32) (hv : (True) ∧ (∀ (r_1 : Int32), (True) → ((¬ r_1 = 0 → (¬ y.toInt64 < 0 ∧ ¬ 99 < y.toInt64 → ∃ (I31_7 : Int64 → Int32 → Prop) (μ31_8 : Int64 → Int32 → Nat), I31_7 0 0 ∧ (∀ (x3_5 : Int64) (x5_6 : Int32), I31_7 x3_5 x5_6 → ((mn 1) ≤ x5_6 → True) ∧ (¬ ((mn 1) ≤ x5_6) → (x5_6 = x → I31_7 x3_5 (x5_6 + 1) ∧ μ31_8 x3_5 (x5_6 + 1) < μ31_8 x3_5 x5_6) ∧ (¬ (x5_6 = x) → (vp_in x5_6 20) ∧ ((¬ (ne x5_6.toNatClampNeg) = 0 → (vp_in x5_6 20) ∧ ((vp_in x5_6 20) ∧ ((¬ (ks x5_6.toNatClampNeg) = 4 → (vp_in (10 + x5_6) 560) ∧ (I31_7 (x3_5 + (if ((mw (10 + x5_6).toNatClampNeg) - ((ne x5_6.toNatClampNeg) + (y * fu)).toInt64) < 0 then 0 else ((mw (10 + x5_6).toNatClampNeg) - ((ne x5_6.toNatClampNeg) + (y * fu)).toInt64))) (x5_6 + 1) ∧ μ31_8 (x3_5 + (if ((mw (10 + x5_6).toNatClampNeg) - ((ne x5_6.toNatClampNeg) + (y * fu)).toInt64) < 0 then 0 else ((mw (10 + x5_6).toNatClampNeg) - ((ne x5_6.toNatClampNeg) + (y * fu)).toInt64))) (x5_6 + 1) < μ31_8 x3_5 x5_6)) ∧ ((ks x5_6.toNatClampNeg) = 4 → (vp_in (10 + x5_6) 560) ∧ (I31_7 (x3_5 + (if ((mw (10 + x5_6).toNatClampNeg) - ((ne x5_6.toNatClampNeg) + (y * (fu / 2))).toInt64) < 0 then 0 else ((mw (10 + x5_6).toNatClampNeg) - ((ne x5_6.toNatClampNeg) + (y * (fu / 2))).toInt64))) (x5_6 + 1) ∧ μ31_8 (x3_5 + (if ((mw (10 + x5_6).toNatClampNeg) - ((ne x5_6.toNatClampNeg) + (y * (fu / 2))).toInt64) < 0 then 0 else ((mw (10 + x5_6).toNatClampNeg) - ((ne x5_6.toNatClampNeg) + (y * (fu / 2))).toInt64))) (x5_6 + 1) < μ31_8 x3_5 x5_6))))) ∧ ((ne x5_6.toNatClampNeg) = 0 → (vp_in (10 + x5_6) 560) ∧ (I31_7 (x3_5 + (if ((mw (10 + x5_6).toNatClampNeg) - 0) < 0 then 0 else ((mw (10 + x5_6).toNatClampNeg) - 0))) (x5_6 + 1) ∧ μ31_8 (x3_5 + (if ((mw (10 + x5_6).toNatClampNeg) - 0) < 0 then 0 else ((mw (10 + x5_6).toNatClampNeg) - 0))) (x5_6 + 1) < μ31_8 x3_5 x5_6))))))) ∧ (¬ (¬ y.toInt64 < 0 ∧ ¬ 99 < y.toInt64) → True)) ∧ (r_1 = 0 → True)))) : MetI l yX8_gift wsX8_gift 2 46 G [.ref m0, .int x, .int y] [(m0, .inr (8, [.ref m1, .ref m2, .ref m3, .ref m4, .ref m5, .ref m6, .ref m7, .ref m8, .ref m9, .int fu, .int fd, .int fi, .int nu, .int nw, .int nf, .int bf, .int bn, .ref m10, .int ts, .int ap, .int fs, .int ln, .int fo, .int fa, .ref m11, .ref m12, .ref m13, .ref m14, .int wr])), aJ G m1 560 mw, aZ G m2 2 ik, aI G m3 20 zs, aI G m4 20 cl, aI G m5 20 hs, aI G m6 20 ks, aI G m7 20 wa, aI G m8 20 ne, aI G m9 4 mn, aI G m10 400 tx, aI G m11 6 th, aI G m12 6 od, aI G m13 30 bk, aI G m14 30 bh] sz (fun (r : Int32) (_ : Unit) => True) (fun (_ : Unit) => [(m0, .inr (8, [.ref m1, .ref m2, .ref m3, .ref m4, .ref m5, .ref m6, .ref m7, .ref m8, .ref m9, .int fu, .int fd, .int fi, .int nu, .int nw, .int nf, .int bf, .int bn, .ref m10, .int ts, .int ap, .int fs, .int ln, .int fo, .int fa, .ref m11, .ref m12, .ref m13, .ref m14, .int wr])), aJ G m1 560 mw, aZ G m2 2 ik, aI G m3 20 zs, aI G m4 20 cl, aI G m5 20 hs, aI G m6 20 ks, aI G m7 20 wa, aI G m8 20 ne, aI G m9 4 mn, aI G m10 400 tx, aI G m11 6 th, aI G m12 6 od, aI G m13 30 bk, aI G m14 30 bh]) := by
  refine x_startI (cc := cX8_gift) (maxL := 8) (ret := (some .int)) (by decide) rfl (Nat.le_of_ble_eq_true rfl) ?_
  intro p e s m args below meth c A R Q ls hRf hRl hQ C hP hD hS hA hSS hl
  obtain ⟨hx, hb, hr, hml, hown, hts, hlocks, hKK⟩ := C
  have hown : s.vm.findClass RX8 = some m.cls := hown
  have hl : lv_has ls 8 [(0, .ref m0), (1, .int x), (2, .int y)] := hl
  have hinX8 : ∀ w ∈ u_ws RX8 TX8 29, w ∈ wsX8_gift := by decide +kernel
  have kl164 := hts (.constant RX8 164 (-1000000001)) (by decide +kernel)
  have kl254 := hts (.constantLong RX8 254 (99)) (by decide +kernel)
  have kl27 := hts (.fieldLink RX8 27 "WarmStonesModel" "kinds" "[I") (by decide +kernel)
  have kl33 := hts (.fieldLink RX8 33 "WarmStonesModel" "needs" "[I") (by decide +kernel)
  have kl36 := hts (.fieldLink RX8 36 "WarmStonesModel" "many" "[I") (by decide +kernel)
  have kl39 := hts (.fieldLink RX8 39 "WarmStonesModel" "frostUp" "I") (by decide +kernel)
  have kl7 := hts (.fieldLink RX8 7 "WarmStonesModel" "w" "[J") (by decide +kernel)
  have kl73 := hts (.constant RX8 73 (-1000000002)) (by decide +kernel)
  refine lv_aload_n hx hb dX8_gift_0 rfl (lv_at hl 0 rfl) ?_
  refine lv_iload_n hx hb dX8_gift_1 rfl (lv_at hl 1 rfl) ?_
  obtain ⟨hp, hv⟩ := hv
  refine x_calliR (x_runV (As := [.int x]) (rest := []) (n := 1) (C := RX8) (ci := 8) ⟨hx, hb, hml, hown, hts⟩ (k_X8_isPerson l G m0 m1 m2 m3 m4 m5 m6 m7 m8 m9 m10 m11 m12 m13 m14 _ mw ik zs cl hs ks wa ne mn tx th od bk bh fu fd fi nu nw nf bf bn ts ap fs ln fo fa wr x hp) gX8_gift_X8_isPerson rfl (by decide +kernel) ⟨Nat.le_trans (Nat.le_of_ble_eq_true rfl) hRf, Nat.le_trans (Nat.le_of_ble_eq_true rfl) hRl⟩ hKK hSS hS hA hP hD [0, 1, 2, 3, 4, 5, 6, 7, 8, 9, 10, 11, 12, 13, 14] (by decide) rfl rfl rfl 0 rfl rfl hl.1 rfl (Nat.le_of_ble_eq_true rfl) dX8_gift_2) hP hD hS hA [0, 1, 2, 3, 4, 5, 6, 7, 8, 9, 10, 11, 12, 13, 14] rfl (fun r_1 _ H locs hw hP hS => ?_)
  have hv := hv r_1 hw
  refine lv_if_ne (tgt := 11) hx hb dX8_gift_5 (by decide) (fun hc_2 => ?_) (fun hc_2 => ?_)
  · have hv := hv.1 hc_2
    refine lv_iload_n hx hb dX8_gift_11 rfl (lv_at hl 2 rfl) ?_
    refine lv_i2l hx hb dX8_gift_12 rfl ?_
    refine lv_lconst (v := 0) hx hb dX8_gift_13 (by decide) ?_
    refine lv_ldc2 (v := 99) hx hb hown kl254 dX8_gift_14 ?_
    refine x_calliR (x_runS (As := [.long y.toInt64, .long 0, .long 99]) (rest := []) (n := 3) ⟨hx, hb, hml, hown, hts⟩ (k_X8_in l G  _ y.toInt64 0 99) gX8_gift_X8_in rfl (by decide +kernel) ⟨Nat.le_trans (Nat.le_of_ble_eq_true rfl) hRf, Nat.le_trans (Nat.le_of_ble_eq_true rfl) hRl⟩ hKK hSS hS hA hP hD [] (by decide) rfl rfl hl.1 rfl (Nat.le_of_ble_eq_true rfl) dX8_gift_17) hP hD hS hA [] rfl (fun r_3 _ H locs hw hP hS => ?_)
    replace hw := hw.symm; subst hw
    refine lv_if_ne (tgt := 26) hx hb dX8_gift_20 (by decide) (fun hc_4 => ?_) (fun hc_4 => ?_)
    · have hv := hv.1 (tv_eqn.mp hc_4)
      refine lv_lconst (v := 0) hx hb dX8_gift_26 (by decide) ?_
      refine lv_lstore_n (lv' := [(3, .long 0), (0, .ref m0), (1, .int x), (2, .int y)]) hx hb dX8_gift_27 rfl hl (by decide) rfl (fun ls hl => ?_)
      refine lv_iconst (v := 0) hx hb dX8_gift_28 (by decide) ?_
      refine lv_istore (lv' := [(5, .int 0), (3, .long 0), (0, .ref m0), (1, .int x), (2, .int y)]) hx hb dX8_gift_29 hl (by decide) rfl (fun ls hl => ?_)
      obtain ⟨I31_7, μ31_8, hi0, hs_18⟩ := hv
      have Lm_20 : ∀ (n_19 : Nat) (x3_5 : Int64) (x5_6 : Int32) (H : Heap) (locs : List Loc) (ls : Array Slot), μ31_8 x3_5 x5_6 < n_19 → I31_7 x3_5 x5_6 → va_P G.1 vwCl [(m0, .inr (8, [.ref m1, .ref m2, .ref m3, .ref m4, .ref m5, .ref m6, .ref m7, .ref m8, .ref m9, .int fu, .int fd, .int fi, .int nu, .int nw, .int nf, .int bf, .int bn, .ref m10, .int ts, .int ap, .int fs, .int ln, .int fo, .int fa, .ref m11, .ref m12, .ref m13, .ref m14, .int wr])), aJ G m1 560 mw, aZ G m2 2 ik, aI G m3 20 zs, aI G m4 20 cl, aI G m5 20 hs, aI G m6 20 ks, aI G m7 20 wa, aI G m8 20 ne, aI G m9 4 mn, aI G m10 400 tx, aI G m11 6 th, aI G m12 6 od, aI G m13 30 bk, aI G m14 30 bh] H → va_D A [(m0, .inr (8, [.ref m1, .ref m2, .ref m3, .ref m4, .ref m5, .ref m6, .ref m7, .ref m8, .ref m9, .int fu, .int fd, .int fi, .int nu, .int nw, .int nf, .int bf, .int bn, .ref m10, .int ts, .int ap, .int fs, .int ln, .int fo, .int fa, .ref m11, .ref m12, .ref m13, .ref m14, .int wr])), aJ G m1 560 mw, aZ G m2 2 ik, aI G m3 20 zs, aI G m4 20 cl, aI G m5 20 hs, aI G m6 20 ks, aI G m7 20 wa, aI G m8 20 ne, aI G m9 4 mn, aI G m10 400 tx, aI G m11 6 th, aI G m12 6 od, aI G m13 30 bk, aI G m14 30 bh] → va_S A s.heap H locs → lv_has ls 8 [(5, .int x5_6), (3, .long x3_5), (0, .ref m0), (1, .int x), (2, .int y)] → W p l e R s m args below meth c H locs 0 0 Q (F0 m 31 ls []) := by
        intro n_19
        induction n_19 with
        | zero => intro x3_5 x5_6 H locs ls hm; exact absurd hm (Nat.not_lt_zero _)
        | succ n_19 ih_9 =>
          intro x3_5 x5_6 H locs ls hI_10 hi hP hD hS hl
          have hv := hs_18 x3_5 x5_6 hi
          refine lv_iload hx hb dX8_gift_31 (lv_at hl 0 rfl) ?_
          refine lv_aload_n hx hb dX8_gift_33 rfl (lv_at hl 2 rfl) ?_
          refine va_get (D := G.1) (ci := 8) (v := .ref m9) (C := RX8) (T := TX8) (N := 29) hx hb hts hinX8 hown hKK.1 hP 0 rfl rfl 8 (by decide) kl36 (fun _ h9 => h9) rfl dX8_gift_34 ?_
          refine lv_iconst (v := 1) hx hb dX8_gift_37 (by decide) ?_
          refine va_iald hx hb hKK.1 hP 9 0 rfl rfl (by unfold vp_in; decide) dX8_gift_38 ?_
          refine lv_icmp_ge (tgt := 125) hx hb dX8_gift_39 (by decide) (fun hc_11 => ?_) (fun hc_11 => ?_)
          · have hv := hv.1 hc_11
            refine lv_lload_n hx hb dX8_gift_125 rfl (lv_at hl 1 rfl) ?_
            refine lv_l2i hx hb dX8_gift_126 rfl ?_
            exact x_iret (v := x3_5.toInt32) () hQ hx hb hr hlocks hS dX8_gift_127 hv hP hD
          · have hv := hv.2 hc_11
            refine lv_iload hx hb dX8_gift_42 (lv_at hl 0 rfl) ?_
            refine lv_iload_n hx hb dX8_gift_44 rfl (lv_at hl 3 rfl) ?_
            refine lv_icmp_eq (tgt := 119) hx hb dX8_gift_45 (by decide) (fun hc_12 => ?_) (fun hc_12 => ?_)
            · have hv := hv.1 hc_12
              refine lv_iinc (v := (x5_6 + 1)) (lv' := [(5, .int (x5_6 + 1)), (3, .long x3_5), (0, .ref m0), (1, .int x), (2, .int y)]) hx hb dX8_gift_119 hl (k := 0) rfl rfl (by decide) rfl (fun ls hl => ?_)
              refine lv_goto (tgt := 31) hx hb dX8_gift_122 (by decide) ?_
              exact ih_9 _ _ _ _ _ (Nat.lt_of_lt_of_le hv.2 (Nat.le_of_lt_succ hI_10)) hv.1 hP hD hS hl
            · have hv := hv.2 hc_12
              refine lv_aload_n hx hb dX8_gift_48 rfl (lv_at hl 2 rfl) ?_
              refine va_get (D := G.1) (ci := 8) (v := .ref m8) (C := RX8) (T := TX8) (N := 29) hx hb hts hinX8 hown hKK.1 hP 0 rfl rfl 7 (by decide) kl33 (fun _ h9 => h9) rfl dX8_gift_49 ?_
              refine lv_iload hx hb dX8_gift_52 (lv_at hl 0 rfl) ?_
              obtain ⟨hin, hv⟩ := hv
              refine va_iald hx hb hKK.1 hP 8 0 rfl rfl hin dX8_gift_54 ?_
              refine lv_if_ne (tgt := 62) hx hb dX8_gift_55 (by decide) (fun hc_13 => ?_) (fun hc_13 => ?_)
              · have hv := hv.1 hc_13
                refine lv_aload_n hx hb dX8_gift_62 rfl (lv_at hl 2 rfl) ?_
                refine va_get (D := G.1) (ci := 8) (v := .ref m8) (C := RX8) (T := TX8) (N := 29) hx hb hts hinX8 hown hKK.1 hP 0 rfl rfl 7 (by decide) kl33 (fun _ h9 => h9) rfl dX8_gift_63 ?_
                refine lv_iload hx hb dX8_gift_66 (lv_at hl 0 rfl) ?_
                obtain ⟨hin, hv⟩ := hv
                refine va_iald hx hb hKK.1 hP 8 0 rfl rfl hin dX8_gift_68 ?_
                refine lv_iload_n hx hb dX8_gift_69 rfl (lv_at hl 4 rfl) ?_
                refine lv_aload_n hx hb dX8_gift_70 rfl (lv_at hl 2 rfl) ?_
                refine va_get (D := G.1) (ci := 8) (v := .ref m6) (C := RX8) (T := TX8) (N := 29) hx hb hts hinX8 hown hKK.1 hP 0 rfl rfl 5 (by decide) kl27 (fun _ h9 => h9) rfl dX8_gift_71 ?_
                refine lv_iload hx hb dX8_gift_74 (lv_at hl 0 rfl) ?_
                obtain ⟨hin, hv⟩ := hv
                refine va_iald hx hb hKK.1 hP 6 0 rfl rfl hin dX8_gift_76 ?_
                refine lv_iconst (v := 4) hx hb dX8_gift_77 (by decide) ?_
                refine lv_icmp_ne (tgt := 90) hx hb dX8_gift_78 (by decide) (fun hc_14 => ?_) (fun hc_14 => ?_)
                · have hv := hv.1 hc_14
                  refine lv_aload_n hx hb dX8_gift_90 rfl (lv_at hl 2 rfl) ?_
                  refine va_get (D := G.1) (ci := 8) (v := .int fu) (C := RX8) (T := TX8) (N := 29) hx hb hts hinX8 hown hKK.1 hP 0 rfl rfl 9 (by decide) kl39 (fun _ h9 => h9) rfl dX8_gift_91 ?_
                  refine lv_imul hx hb dX8_gift_94 ?_
                  refine lv_iadd hx hb dX8_gift_95 ?_
                  refine lv_i2l hx hb dX8_gift_96 rfl ?_
                  refine lv_lstore (lv' := [(6, .long (((ne x5_6.toNatClampNeg) + (y * fu)).toInt64)), (5, .int x5_6), (3, .long x3_5), (0, .ref m0), (1, .int x), (2, .int y)]) hx hb dX8_gift_97 hl (by decide) rfl (fun ls hl => ?_)
                  refine lv_lload_n hx hb dX8_gift_99 rfl (lv_at hl 2 rfl) ?_
                  refine lv_lconst (v := 0) hx hb dX8_gift_100 (by decide) ?_
                  refine lv_aload_n hx hb dX8_gift_101 rfl (lv_at hl 3 rfl) ?_
                  refine va_get (D := G.1) (ci := 8) (v := .ref m1) (C := RX8) (T := TX8) (N := 29) hx hb hts hinX8 hown hKK.1 hP 0 rfl rfl 0 (by decide) kl7 (fun _ h9 => h9) rfl dX8_gift_102 ?_
                  refine lv_bipush (v := 10) hx hb dX8_gift_105 (by decide) ?_
                  refine lv_iload hx hb dX8_gift_107 (lv_at hl 1 rfl) ?_
                  refine lv_iadd hx hb dX8_gift_109 ?_
                  obtain ⟨hin, hv⟩ := hv
                  refine va_lald hx hb hKK.1 hP 1 2 rfl rfl hin dX8_gift_110 ?_
                  refine lv_lload hx hb dX8_gift_111 (lv_at hl 0 rfl) ?_
                  refine lv_lsub hx hb dX8_gift_113 ?_
                  refine x_calllR (x_runS (As := [.long 0, .long ((mw (10 + x5_6).toNatClampNeg) - ((ne x5_6.toNatClampNeg) + (y * fu)).toInt64)]) (rest := [.long x3_5]) (n := 2) ⟨hx, hb, hml, hown, hts⟩ (k_X8_greater l G  _ 0 ((mw (10 + x5_6).toNatClampNeg) - ((ne x5_6.toNatClampNeg) + (y * fu)).toInt64)) gX8_gift_X8_greater rfl (by decide +kernel) ⟨Nat.le_trans (Nat.le_of_ble_eq_true rfl) hRf, Nat.le_trans (Nat.le_of_ble_eq_true rfl) hRl⟩ hKK hSS hS hA hP hD [] (by decide) rfl rfl hl.1 rfl (Nat.le_of_ble_eq_true rfl) dX8_gift_114) hP hD hS hA [] rfl (fun r_15 _ H locs hw hP hS => ?_)
                  replace hw := hw.symm; subst hw
                  refine lv_ladd hx hb dX8_gift_117 ?_
                  refine lv_lstore_n (lv' := [(3, .long (x3_5 + (if ((mw (10 + x5_6).toNatClampNeg) - ((ne x5_6.toNatClampNeg) + (y * fu)).toInt64) < 0 then 0 else ((mw (10 + x5_6).toNatClampNeg) - ((ne x5_6.toNatClampNeg) + (y * fu)).toInt64)))), (6, .long (((ne x5_6.toNatClampNeg) + (y * fu)).toInt64)), (5, .int x5_6), (0, .ref m0), (1, .int x), (2, .int y)]) hx hb dX8_gift_118 rfl hl (by decide) rfl (fun ls hl => ?_)
                  refine lv_iinc (v := (x5_6 + 1)) (lv' := [(5, .int (x5_6 + 1)), (3, .long (x3_5 + (if ((mw (10 + x5_6).toNatClampNeg) - ((ne x5_6.toNatClampNeg) + (y * fu)).toInt64) < 0 then 0 else ((mw (10 + x5_6).toNatClampNeg) - ((ne x5_6.toNatClampNeg) + (y * fu)).toInt64)))), (6, .long (((ne x5_6.toNatClampNeg) + (y * fu)).toInt64)), (0, .ref m0), (1, .int x), (2, .int y)]) hx hb dX8_gift_119 hl (k := 2) rfl rfl (by decide) rfl (fun ls hl => ?_)
                  refine lv_goto (tgt := 31) hx hb dX8_gift_122 (by decide) ?_
                  exact ih_9 _ _ _ _ _ (Nat.lt_of_lt_of_le hv.2 (Nat.le_of_lt_succ hI_10)) hv.1 hP hD hS (lv_sub hl [0, 1, 3, 4, 5] rfl)
                · have hv := hv.2 hc_14
                  refine lv_aload_n hx hb dX8_gift_81 rfl (lv_at hl 2 rfl) ?_
                  refine va_get (D := G.1) (ci := 8) (v := .int fu) (C := RX8) (T := TX8) (N := 29) hx hb hts hinX8 hown hKK.1 hP 0 rfl rfl 9 (by decide) kl39 (fun _ h9 => h9) rfl dX8_gift_82 ?_
                  refine lv_iconst (v := 2) hx hb dX8_gift_85 (by decide) ?_
                  refine lv_idiv hx hb dX8_gift_86 (by decide) ?_
                  refine lv_goto (tgt := 94) hx hb dX8_gift_87 (by decide) ?_
                  refine lv_imul hx hb dX8_gift_94 ?_
                  refine lv_iadd hx hb dX8_gift_95 ?_
                  refine lv_i2l hx hb dX8_gift_96 rfl ?_
                  refine lv_lstore (lv' := [(6, .long (((ne x5_6.toNatClampNeg) + (y * (fu / 2))).toInt64)), (5, .int x5_6), (3, .long x3_5), (0, .ref m0), (1, .int x), (2, .int y)]) hx hb dX8_gift_97 hl (by decide) rfl (fun ls hl => ?_)
                  refine lv_lload_n hx hb dX8_gift_99 rfl (lv_at hl 2 rfl) ?_
                  refine lv_lconst (v := 0) hx hb dX8_gift_100 (by decide) ?_
                  refine lv_aload_n hx hb dX8_gift_101 rfl (lv_at hl 3 rfl) ?_
                  refine va_get (D := G.1) (ci := 8) (v := .ref m1) (C := RX8) (T := TX8) (N := 29) hx hb hts hinX8 hown hKK.1 hP 0 rfl rfl 0 (by decide) kl7 (fun _ h9 => h9) rfl dX8_gift_102 ?_
                  refine lv_bipush (v := 10) hx hb dX8_gift_105 (by decide) ?_
                  refine lv_iload hx hb dX8_gift_107 (lv_at hl 1 rfl) ?_
                  refine lv_iadd hx hb dX8_gift_109 ?_
                  obtain ⟨hin, hv⟩ := hv
                  refine va_lald hx hb hKK.1 hP 1 2 rfl rfl hin dX8_gift_110 ?_
                  refine lv_lload hx hb dX8_gift_111 (lv_at hl 0 rfl) ?_
                  refine lv_lsub hx hb dX8_gift_113 ?_
                  refine x_calllR (x_runS (As := [.long 0, .long ((mw (10 + x5_6).toNatClampNeg) - ((ne x5_6.toNatClampNeg) + (y * (fu / 2))).toInt64)]) (rest := [.long x3_5]) (n := 2) ⟨hx, hb, hml, hown, hts⟩ (k_X8_greater l G  _ 0 ((mw (10 + x5_6).toNatClampNeg) - ((ne x5_6.toNatClampNeg) + (y * (fu / 2))).toInt64)) gX8_gift_X8_greater rfl (by decide +kernel) ⟨Nat.le_trans (Nat.le_of_ble_eq_true rfl) hRf, Nat.le_trans (Nat.le_of_ble_eq_true rfl) hRl⟩ hKK hSS hS hA hP hD [] (by decide) rfl rfl hl.1 rfl (Nat.le_of_ble_eq_true rfl) dX8_gift_114) hP hD hS hA [] rfl (fun r_16 _ H locs hw hP hS => ?_)
                  replace hw := hw.symm; subst hw
                  refine lv_ladd hx hb dX8_gift_117 ?_
                  refine lv_lstore_n (lv' := [(3, .long (x3_5 + (if ((mw (10 + x5_6).toNatClampNeg) - ((ne x5_6.toNatClampNeg) + (y * (fu / 2))).toInt64) < 0 then 0 else ((mw (10 + x5_6).toNatClampNeg) - ((ne x5_6.toNatClampNeg) + (y * (fu / 2))).toInt64)))), (6, .long (((ne x5_6.toNatClampNeg) + (y * (fu / 2))).toInt64)), (5, .int x5_6), (0, .ref m0), (1, .int x), (2, .int y)]) hx hb dX8_gift_118 rfl hl (by decide) rfl (fun ls hl => ?_)
                  refine lv_iinc (v := (x5_6 + 1)) (lv' := [(5, .int (x5_6 + 1)), (3, .long (x3_5 + (if ((mw (10 + x5_6).toNatClampNeg) - ((ne x5_6.toNatClampNeg) + (y * (fu / 2))).toInt64) < 0 then 0 else ((mw (10 + x5_6).toNatClampNeg) - ((ne x5_6.toNatClampNeg) + (y * (fu / 2))).toInt64)))), (6, .long (((ne x5_6.toNatClampNeg) + (y * (fu / 2))).toInt64)), (0, .ref m0), (1, .int x), (2, .int y)]) hx hb dX8_gift_119 hl (k := 2) rfl rfl (by decide) rfl (fun ls hl => ?_)
                  refine lv_goto (tgt := 31) hx hb dX8_gift_122 (by decide) ?_
                  exact ih_9 _ _ _ _ _ (Nat.lt_of_lt_of_le hv.2 (Nat.le_of_lt_succ hI_10)) hv.1 hP hD hS (lv_sub hl [0, 1, 3, 4, 5] rfl)
              · have hv := hv.2 hc_13
                refine lv_lconst (v := 0) hx hb dX8_gift_58 (by decide) ?_
                refine lv_goto (tgt := 97) hx hb dX8_gift_59 (by decide) ?_
                refine lv_lstore (lv' := [(6, .long 0), (5, .int x5_6), (3, .long x3_5), (0, .ref m0), (1, .int x), (2, .int y)]) hx hb dX8_gift_97 hl (by decide) rfl (fun ls hl => ?_)
                refine lv_lload_n hx hb dX8_gift_99 rfl (lv_at hl 2 rfl) ?_
                refine lv_lconst (v := 0) hx hb dX8_gift_100 (by decide) ?_
                refine lv_aload_n hx hb dX8_gift_101 rfl (lv_at hl 3 rfl) ?_
                refine va_get (D := G.1) (ci := 8) (v := .ref m1) (C := RX8) (T := TX8) (N := 29) hx hb hts hinX8 hown hKK.1 hP 0 rfl rfl 0 (by decide) kl7 (fun _ h9 => h9) rfl dX8_gift_102 ?_
                refine lv_bipush (v := 10) hx hb dX8_gift_105 (by decide) ?_
                refine lv_iload hx hb dX8_gift_107 (lv_at hl 1 rfl) ?_
                refine lv_iadd hx hb dX8_gift_109 ?_
                obtain ⟨hin, hv⟩ := hv
                refine va_lald hx hb hKK.1 hP 1 2 rfl rfl hin dX8_gift_110 ?_
                refine lv_lload hx hb dX8_gift_111 (lv_at hl 0 rfl) ?_
                refine lv_lsub hx hb dX8_gift_113 ?_
                refine x_calllR (x_runS (As := [.long 0, .long ((mw (10 + x5_6).toNatClampNeg) - 0)]) (rest := [.long x3_5]) (n := 2) ⟨hx, hb, hml, hown, hts⟩ (k_X8_greater l G  _ 0 ((mw (10 + x5_6).toNatClampNeg) - 0)) gX8_gift_X8_greater rfl (by decide +kernel) ⟨Nat.le_trans (Nat.le_of_ble_eq_true rfl) hRf, Nat.le_trans (Nat.le_of_ble_eq_true rfl) hRl⟩ hKK hSS hS hA hP hD [] (by decide) rfl rfl hl.1 rfl (Nat.le_of_ble_eq_true rfl) dX8_gift_114) hP hD hS hA [] rfl (fun r_17 _ H locs hw hP hS => ?_)
                replace hw := hw.symm; subst hw
                refine lv_ladd hx hb dX8_gift_117 ?_
                refine lv_lstore_n (lv' := [(3, .long (x3_5 + (if ((mw (10 + x5_6).toNatClampNeg) - 0) < 0 then 0 else ((mw (10 + x5_6).toNatClampNeg) - 0)))), (6, .long 0), (5, .int x5_6), (0, .ref m0), (1, .int x), (2, .int y)]) hx hb dX8_gift_118 rfl hl (by decide) rfl (fun ls hl => ?_)
                refine lv_iinc (v := (x5_6 + 1)) (lv' := [(5, .int (x5_6 + 1)), (3, .long (x3_5 + (if ((mw (10 + x5_6).toNatClampNeg) - 0) < 0 then 0 else ((mw (10 + x5_6).toNatClampNeg) - 0)))), (6, .long 0), (0, .ref m0), (1, .int x), (2, .int y)]) hx hb dX8_gift_119 hl (k := 2) rfl rfl (by decide) rfl (fun ls hl => ?_)
                refine lv_goto (tgt := 31) hx hb dX8_gift_122 (by decide) ?_
                exact ih_9 _ _ _ _ _ (Nat.lt_of_lt_of_le hv.2 (Nat.le_of_lt_succ hI_10)) hv.1 hP hD hS (lv_sub hl [0, 1, 3, 4, 5] rfl)
      exact Lm_20 _ _ _ _ _ _ (Nat.lt_succ_self _) hi0 hP hD hS hl
    · have hv := hv.2 (tv_eq.mp hc_4)
      refine lv_ldc (v := (-1000000002)) hx hb hown kl73 dX8_gift_23 ?_
      exact x_iret (v := (-1000000002)) () hQ hx hb hr hlocks hS dX8_gift_25 hv hP hD
  · have hv := hv.2 hc_2
    refine lv_ldc (v := (-1000000001)) hx hb hown kl164 dX8_gift_8 ?_
    exact x_iret (v := (-1000000001)) () hQ hx hb hr hlocks hS dX8_gift_10 hv hP hD
theorem k_X8_gift (l : Launch) (G : Gt) (m0 m1 m2 m3 m4 m5 m6 m7 m8 m9 m10 m11 m12 m13 m14 : Nat) (sz : Nat) (mw : Nat → Int64) (ik : Nat → Int32) (zs : Nat → Int32) (cl : Nat → Int32) (hs : Nat → Int32) (ks : Nat → Int32) (wa : Nat → Int32) (ne : Nat → Int32) (mn : Nat → Int32) (tx : Nat → Int32) (th : Nat → Int32) (od : Nat → Int32) (bk : Nat → Int32) (bh : Nat → Int32) (fu : Int32) (fd : Int32) (fi : Int32) (nu : Int32) (nw : Int32) (nf : Int32) (bf : Int32) (bn : Int32) (ts : Int32) (ap : Int32) (fs : Int32) (ln : Int32) (fo : Int32) (fa : Int32) (wr : Int32) (x : Int32) (y : Int32) (hp : True) : MetI l yX8_gift wsX8_gift 2 46 G [.ref m0, .int x, .int y] [(m0, .inr (8, [.ref m1, .ref m2, .ref m3, .ref m4, .ref m5, .ref m6, .ref m7, .ref m8, .ref m9, .int fu, .int fd, .int fi, .int nu, .int nw, .int nf, .int bf, .int bn, .ref m10, .int ts, .int ap, .int fs, .int ln, .int fo, .int fa, .ref m11, .ref m12, .ref m13, .ref m14, .int wr])), aJ G m1 560 mw, aZ G m2 2 ik, aI G m3 20 zs, aI G m4 20 cl, aI G m5 20 hs, aI G m6 20 ks, aI G m7 20 wa, aI G m8 20 ne, aI G m9 4 mn, aI G m10 400 tx, aI G m11 6 th, aI G m12 6 od, aI G m13 30 bk, aI G m14 30 bh] sz (fun (r : Int32) (_ : Unit) => True) (fun (_ : Unit) => [(m0, .inr (8, [.ref m1, .ref m2, .ref m3, .ref m4, .ref m5, .ref m6, .ref m7, .ref m8, .ref m9, .int fu, .int fd, .int fi, .int nu, .int nw, .int nf, .int bf, .int bn, .ref m10, .int ts, .int ap, .int fs, .int ln, .int fo, .int fa, .ref m11, .ref m12, .ref m13, .ref m14, .int wr])), aJ G m1 560 mw, aZ G m2 2 ik, aI G m3 20 zs, aI G m4 20 cl, aI G m5 20 hs, aI G m6 20 ks, aI G m7 20 wa, aI G m8 20 ne, aI G m9 4 mn, aI G m10 400 tx, aI G m11 6 th, aI G m12 6 od, aI G m13 30 bk, aI G m14 30 bh]) :=
  c_X8_gift l G m0 m1 m2 m3 m4 m5 m6 m7 m8 m9 m10 m11 m12 m13 m14 sz mw ik zs cl hs ks wa ne mn tx th od bk bh fu fd fi nu nw nf bf bn ts ap fs ln fo fa wr x y (by
    sorry)

set_option maxHeartbeats 4000000 in
set_option maxRecDepth 100000 in
theorem c_X8_palms (l : Launch) (G : Gt) (m0 m1 m2 m3 m4 m5 m6 m7 m8 m9 m10 m11 m12 m13 m14 : Nat) (sz : Nat) (mw : Nat → Int64) (ik : Nat → Int32) (zs : Nat → Int32) (cl : Nat → Int32) (hs : Nat → Int32) (ks : Nat → Int32) (wa : Nat → Int32) (ne : Nat → Int32) (mn : Nat → Int32) (tx : Nat → Int32) (th : Nat → Int32) (od : Nat → Int32) (bk : Nat → Int32) (bh : Nat → Int32) (fu : Int32) (fd : Int32) (fi : Int32) (nu : Int32) (nw : Int32) (nf : Int32) (bf : Int32) (bn : Int32) (ts : Int32) (ap : Int32) (fs : Int32) (ln : Int32) (fo : Int32) (fa : Int32) (wr : Int32) (x : Int32) (y : Int32) (z : Int32) (v : Int32) (i_ : Int32) (hv : (True) ∧ (∀ (r_1 : Int32), (True) → ((¬ r_1 = 0 → (¬ (¬ y.toInt64 < 1 ∧ ¬ 60 < y.toInt64) → True) ∧ (¬ y.toInt64 < 1 ∧ ¬ 60 < y.toInt64 → (¬ (¬ z.toInt64 < 0 ∧ ¬ 9999 < z.toInt64) → True) ∧ (¬ z.toInt64 < 0 ∧ ¬ 9999 < z.toInt64 → (¬ v.toInt64 < 0 ∧ ¬ 9999 < v.toInt64 → ∃ (I57_12 : (Nat → Int64) → Int32 → Int32 → Prop) (μ57_13 : (Nat → Int64) → Int32 → Int32 → Nat), I57_12 mw 0 0 ∧ (∀ (fm1_9 : (Nat → Int64)) (x6_10 : Int32) (x7_11 : Int32), I57_12 fm1_9 x6_10 x7_11 → ((mn 1) ≤ x7_11 → (¬ i_ = (-1) → True) ∧ (i_ = (-1) → True)) ∧ (¬ ((mn 1) ≤ x7_11) → ∃ (I71_21 : (Nat → Int64) → Int32 → Int32 → Prop) (μ71_22 : (Nat → Int64) → Int32 → Int32 → Nat), I71_21 fm1_9 x6_10 1 ∧ (∀ (fm1_18 : (Nat → Int64)) (x6_19 : Int32) (x8_20 : Int32), I71_21 fm1_18 x6_19 x8_20 → (y < x8_20 → I57_12 fm1_18 x6_19 (x7_11 + 1) ∧ μ57_13 fm1_18 x6_19 (x7_11 + 1) < μ57_13 fm1_9 x6_10 x7_11) ∧ (¬ (y < x8_20) → (True) ∧ (∀ (mw2_27 : Nat → Int64), (True) → ((vp_in (160 + x7_11) 560) ∧ (∃ (I97_30 : (Nat → Int64) → Int32 → Prop) (μ97_31 : (Nat → Int64) → Int32 → Nat), I97_30 (vp_updL mw2_27 ((160 + x7_11).toNatClampNeg) x.toInt64) 0 ∧ (∀ (fm1_28 : (Nat → Int64)) (x9_29 : Int32), I97_30 fm1_28 x9_29 → (y ≤ x9_29 → (vp_in (140 + x) 560) ∧ ((¬ (¬ (fm1_28 (140 + x).toNatClampNeg) < ((z - v).toInt64) ∧ ¬ ((z + v).toInt64) < (fm1_28 (140 + x).toNatClampNeg)) → I71_21 fm1_28 x6_19 (x8_20 + 1) ∧ μ71_22 fm1_28 x6_19 (x8_20 + 1) < μ71_22 fm1_18 x6_19 x8_20) ∧ (¬ (fm1_28 (140 + x).toNatClampNeg) < ((z - v).toInt64) ∧ ¬ ((z + v).toInt64) < (fm1_28 (140 + x).toNatClampNeg) → (¬ x6_19 = i_ → I71_21 fm1_28 (x6_19 + 1) (x8_20 + 1) ∧ μ71_22 fm1_28 (x6_19 + 1) (x8_20 + 1) < μ71_22 fm1_18 x6_19 x8_20) ∧ (x6_19 = i_ → True)))) ∧ (¬ (y ≤ x9_29) → (x8_20 ≤ x9_29 → (vp_in (160 + x7_11) 560) ∧ ((True) ∧ (∀ (r_39 : Int32) (mw2_40 : Nat → Int64), (True) → (I97_30 mw2_40 (x9_29 + 1) ∧ μ97_31 mw2_40 (x9_29 + 1) < μ97_31 fm1_28 x9_29)))) ∧ (¬ (x8_20 ≤ x9_29) → (vp_in (160 + x7_11) 560) ∧ ((True) ∧ (∀ (r_41 : Int32) (mw2_42 : Nat → Int64), (True) → (I97_30 mw2_42 (x9_29 + 1) ∧ μ97_31 mw2_42 (x9_29 + 1) < μ97_31 fm1_28 x9_29)))))))))))))) ∧ (¬ (¬ v.toInt64 < 0 ∧ ¬ 9999 < v.toInt64) → True)))) ∧ (r_1 = 0 → True)))) : MetI l yX8_palms wsX8_palms 4 101 G [.ref m0, .int x, .int y, .int z, .int v, .int i_] [(m0, .inr (8, [.ref m1, .ref m2, .ref m3, .ref m4, .ref m5, .ref m6, .ref m7, .ref m8, .ref m9, .int fu, .int fd, .int fi, .int nu, .int nw, .int nf, .int bf, .int bn, .ref m10, .int ts, .int ap, .int fs, .int ln, .int fo, .int fa, .ref m11, .ref m12, .ref m13, .ref m14, .int wr])), aJ G m1 560 mw, aZ G m2 2 ik, aI G m3 20 zs, aI G m4 20 cl, aI G m5 20 hs, aI G m6 20 ks, aI G m7 20 wa, aI G m8 20 ne, aI G m9 4 mn, aI G m10 400 tx, aI G m11 6 th, aI G m12 6 od, aI G m13 30 bk, aI G m14 30 bh] sz (fun (r : Int32) (u : (Nat → Int64)) => True) (fun (u : (Nat → Int64)) => [(m0, .inr (8, [.ref m1, .ref m2, .ref m3, .ref m4, .ref m5, .ref m6, .ref m7, .ref m8, .ref m9, .int fu, .int fd, .int fi, .int nu, .int nw, .int nf, .int bf, .int bn, .ref m10, .int ts, .int ap, .int fs, .int ln, .int fo, .int fa, .ref m11, .ref m12, .ref m13, .ref m14, .int wr])), aJ G m1 560 u, aZ G m2 2 ik, aI G m3 20 zs, aI G m4 20 cl, aI G m5 20 hs, aI G m6 20 ks, aI G m7 20 wa, aI G m8 20 ne, aI G m9 4 mn, aI G m10 400 tx, aI G m11 6 th, aI G m12 6 od, aI G m13 30 bk, aI G m14 30 bh]) := by
  refine x_startI (cc := cX8_palms) (maxL := 11) (ret := (some .int)) (by decide) rfl (Nat.le_of_ble_eq_true rfl) ?_
  intro p e s m args below meth c A R Q ls hRf hRl hQ C hP hD hS hA hSS hl
  obtain ⟨hx, hb, hr, hml, hown, hts, hlocks, hKK⟩ := C
  have hown : s.vm.findClass RX8 = some m.cls := hown
  have hl : lv_has ls 11 [(0, .ref m0), (1, .int x), (2, .int y), (3, .int z), (4, .int v), (5, .int i_)] := hl
  have hinX8 : ∀ w ∈ u_ws RX8 TX8 29, w ∈ wsX8_palms := by decide +kernel
  have kl152 := hts (.constantLong RX8 152 (-1)) (by decide +kernel)
  have kl164 := hts (.constant RX8 164 (-1000000001)) (by decide +kernel)
  have kl222 := hts (.constantLong RX8 222 (9999)) (by decide +kernel)
  have kl234 := hts (.constantLong RX8 234 (60)) (by decide +kernel)
  have kl36 := hts (.fieldLink RX8 36 "WarmStonesModel" "many" "[I") (by decide +kernel)
  have kl7 := hts (.fieldLink RX8 7 "WarmStonesModel" "w" "[J") (by decide +kernel)
  have kl73 := hts (.constant RX8 73 (-1000000002)) (by decide +kernel)
  refine lv_aload_n hx hb dX8_palms_0 rfl (lv_at hl 0 rfl) ?_
  refine lv_iload_n hx hb dX8_palms_1 rfl (lv_at hl 1 rfl) ?_
  obtain ⟨hp, hv⟩ := hv
  refine x_calliR (x_runV (As := [.int x]) (rest := []) (n := 1) (C := RX8) (ci := 8) ⟨hx, hb, hml, hown, hts⟩ (k_X8_isStone l G m0 m1 m2 m3 m4 m5 m6 m7 m8 m9 m10 m11 m12 m13 m14 _ mw ik zs cl hs ks wa ne mn tx th od bk bh fu fd fi nu nw nf bf bn ts ap fs ln fo fa wr x hp) gX8_palms_X8_isStone rfl (by decide +kernel) ⟨Nat.le_trans (Nat.le_of_ble_eq_true rfl) hRf, Nat.le_trans (Nat.le_of_ble_eq_true rfl) hRl⟩ hKK hSS hS hA hP hD [0, 1, 2, 3, 4, 5, 6, 7, 8, 9, 10, 11, 12, 13, 14] (by decide) rfl rfl rfl 0 rfl rfl hl.1 rfl (Nat.le_of_ble_eq_true rfl) dX8_palms_2) hP hD hS hA [0, 1, 2, 3, 4, 5, 6, 7, 8, 9, 10, 11, 12, 13, 14] rfl (fun r_1 _ H locs hw hP hS => ?_)
  have hv := hv r_1 hw
  refine lv_if_ne (tgt := 11) hx hb dX8_palms_5 (by decide) (fun hc_2 => ?_) (fun hc_2 => ?_)
  · have hv := hv.1 hc_2
    refine lv_iload_n hx hb dX8_palms_11 rfl (lv_at hl 2 rfl) ?_
    refine lv_i2l hx hb dX8_palms_12 rfl ?_
    refine lv_lconst (v := 1) hx hb dX8_palms_13 (by decide) ?_
    refine lv_ldc2 (v := 60) hx hb hown kl234 dX8_palms_14 ?_
    refine x_calliR (x_runS (As := [.long y.toInt64, .long 1, .long 60]) (rest := []) (n := 3) ⟨hx, hb, hml, hown, hts⟩ (k_X8_in l G  _ y.toInt64 1 60) gX8_palms_X8_in rfl (by decide +kernel) ⟨Nat.le_trans (Nat.le_of_ble_eq_true rfl) hRf, Nat.le_trans (Nat.le_of_ble_eq_true rfl) hRl⟩ hKK hSS hS hA hP hD [] (by decide) rfl rfl hl.1 rfl (Nat.le_of_ble_eq_true rfl) dX8_palms_17) hP hD hS hA [] rfl (fun r_3 _ H locs hw hP hS => ?_)
    replace hw := hw.symm; subst hw
    refine lv_if_eq (tgt := 48) hx hb dX8_palms_20 (by decide) (fun hc_4 => ?_) (fun hc_4 => ?_)
    · have hv := hv.1 (tv_eq.mp hc_4)
      refine lv_ldc (v := (-1000000002)) hx hb hown kl73 dX8_palms_48 ?_
      exact x_iret (v := (-1000000002)) mw hQ hx hb hr hlocks hS dX8_palms_50 hv hP hD
    · have hv := hv.2 (tv_eqn.mp hc_4)
      refine lv_iload_n hx hb dX8_palms_23 rfl (lv_at hl 3 rfl) ?_
      refine lv_i2l hx hb dX8_palms_24 rfl ?_
      refine lv_lconst (v := 0) hx hb dX8_palms_25 (by decide) ?_
      refine lv_ldc2 (v := 9999) hx hb hown kl222 dX8_palms_26 ?_
      refine x_calliR (x_runS (As := [.long z.toInt64, .long 0, .long 9999]) (rest := []) (n := 3) ⟨hx, hb, hml, hown, hts⟩ (k_X8_in l G  _ z.toInt64 0 9999) gX8_palms_X8_in rfl (by decide +kernel) ⟨Nat.le_trans (Nat.le_of_ble_eq_true rfl) hRf, Nat.le_trans (Nat.le_of_ble_eq_true rfl) hRl⟩ hKK hSS hS hA hP hD [] (by decide) rfl rfl hl.1 rfl (Nat.le_of_ble_eq_true rfl) dX8_palms_29) hP hD hS hA [] rfl (fun r_5 _ H locs hw hP hS => ?_)
      replace hw := hw.symm; subst hw
      refine lv_if_eq (tgt := 48) hx hb dX8_palms_32 (by decide) (fun hc_6 => ?_) (fun hc_6 => ?_)
      · have hv := hv.1 (tv_eq.mp hc_6)
        refine lv_ldc (v := (-1000000002)) hx hb hown kl73 dX8_palms_48 ?_
        exact x_iret (v := (-1000000002)) mw hQ hx hb hr hlocks hS dX8_palms_50 hv hP hD
      · have hv := hv.2 (tv_eqn.mp hc_6)
        refine lv_iload hx hb dX8_palms_35 (lv_at hl 4 rfl) ?_
        refine lv_i2l hx hb dX8_palms_37 rfl ?_
        refine lv_lconst (v := 0) hx hb dX8_palms_38 (by decide) ?_
        refine lv_ldc2 (v := 9999) hx hb hown kl222 dX8_palms_39 ?_
        refine x_calliR (x_runS (As := [.long v.toInt64, .long 0, .long 9999]) (rest := []) (n := 3) ⟨hx, hb, hml, hown, hts⟩ (k_X8_in l G  _ v.toInt64 0 9999) gX8_palms_X8_in rfl (by decide +kernel) ⟨Nat.le_trans (Nat.le_of_ble_eq_true rfl) hRf, Nat.le_trans (Nat.le_of_ble_eq_true rfl) hRl⟩ hKK hSS hS hA hP hD [] (by decide) rfl rfl hl.1 rfl (Nat.le_of_ble_eq_true rfl) dX8_palms_42) hP hD hS hA [] rfl (fun r_7 _ H locs hw hP hS => ?_)
        replace hw := hw.symm; subst hw
        refine lv_if_ne (tgt := 51) hx hb dX8_palms_45 (by decide) (fun hc_8 => ?_) (fun hc_8 => ?_)
        · have hv := hv.1 (tv_eqn.mp hc_8)
          refine lv_iconst (v := 0) hx hb dX8_palms_51 (by decide) ?_
          refine lv_istore (lv' := [(6, .int 0), (0, .ref m0), (1, .int x), (2, .int y), (3, .int z), (4, .int v), (5, .int i_)]) hx hb dX8_palms_52 hl (by decide) rfl (fun ls hl => ?_)
          refine lv_iconst (v := 0) hx hb dX8_palms_54 (by decide) ?_
          refine lv_istore (lv' := [(7, .int 0), (6, .int 0), (0, .ref m0), (1, .int x), (2, .int y), (3, .int z), (4, .int v), (5, .int i_)]) hx hb dX8_palms_55 hl (by decide) rfl (fun ls hl => ?_)
          obtain ⟨I57_12, μ57_13, hi0, hs_49⟩ := hv
          have Lm_51 : ∀ (n_50 : Nat) (fm1_9 : (Nat → Int64)) (x6_10 : Int32) (x7_11 : Int32) (H : Heap) (locs : List Loc) (ls : Array Slot), μ57_13 fm1_9 x6_10 x7_11 < n_50 → I57_12 fm1_9 x6_10 x7_11 → va_P G.1 vwCl [(m0, .inr (8, [.ref m1, .ref m2, .ref m3, .ref m4, .ref m5, .ref m6, .ref m7, .ref m8, .ref m9, .int fu, .int fd, .int fi, .int nu, .int nw, .int nf, .int bf, .int bn, .ref m10, .int ts, .int ap, .int fs, .int ln, .int fo, .int fa, .ref m11, .ref m12, .ref m13, .ref m14, .int wr])), aJ G m1 560 fm1_9, aZ G m2 2 ik, aI G m3 20 zs, aI G m4 20 cl, aI G m5 20 hs, aI G m6 20 ks, aI G m7 20 wa, aI G m8 20 ne, aI G m9 4 mn, aI G m10 400 tx, aI G m11 6 th, aI G m12 6 od, aI G m13 30 bk, aI G m14 30 bh] H → va_D A [(m0, .inr (8, [.ref m1, .ref m2, .ref m3, .ref m4, .ref m5, .ref m6, .ref m7, .ref m8, .ref m9, .int fu, .int fd, .int fi, .int nu, .int nw, .int nf, .int bf, .int bn, .ref m10, .int ts, .int ap, .int fs, .int ln, .int fo, .int fa, .ref m11, .ref m12, .ref m13, .ref m14, .int wr])), aJ G m1 560 fm1_9, aZ G m2 2 ik, aI G m3 20 zs, aI G m4 20 cl, aI G m5 20 hs, aI G m6 20 ks, aI G m7 20 wa, aI G m8 20 ne, aI G m9 4 mn, aI G m10 400 tx, aI G m11 6 th, aI G m12 6 od, aI G m13 30 bk, aI G m14 30 bh] → va_S A s.heap H locs → lv_has ls 11 [(7, .int x7_11), (6, .int x6_10), (0, .ref m0), (1, .int x), (2, .int y), (3, .int z), (4, .int v), (5, .int i_)] → W p l e R s m args below meth c H locs 0 0 Q (F0 m 57 ls []) := by
            intro n_50
            induction n_50 with
            | zero => intro fm1_9 x6_10 x7_11 H locs ls hm; exact absurd hm (Nat.not_lt_zero _)
            | succ n_50 ih_14 =>
              intro fm1_9 x6_10 x7_11 H locs ls hI_15 hi hP hD hS hl
              have hv := hs_49 fm1_9 x6_10 x7_11 hi
              refine lv_iload hx hb dX8_palms_57 (lv_at hl 0 rfl) ?_
              refine lv_aload_n hx hb dX8_palms_59 rfl (lv_at hl 2 rfl) ?_
              refine va_get (D := G.1) (ci := 8) (v := .ref m9) (C := RX8) (T := TX8) (N := 29) hx hb hts hinX8 hown hKK.1 hP 0 rfl rfl 8 (by decide) kl36 (fun _ h9 => h9) rfl dX8_palms_60 ?_
              refine lv_iconst (v := 1) hx hb dX8_palms_63 (by decide) ?_
              refine va_iald hx hb hKK.1 hP 9 0 rfl rfl (by unfold vp_in; decide) dX8_palms_64 ?_
              refine lv_icmp_ge (tgt := 201) hx hb dX8_palms_65 (by decide) (fun hc_16 => ?_) (fun hc_16 => ?_)
              · have hv := hv.1 hc_16
                refine lv_iload hx hb dX8_palms_201 (lv_at hl 7 rfl) ?_
                refine lv_iconst (v := (-1)) hx hb dX8_palms_203 (by decide) ?_
                refine lv_icmp_ne (tgt := 212) hx hb dX8_palms_204 (by decide) (fun hc_17 => ?_) (fun hc_17 => ?_)
                · have hv := hv.1 hc_17
                  refine lv_iconst (v := (-1)) hx hb dX8_palms_212 (by decide) ?_
                  exact x_iret (v := (-1)) fm1_9 hQ hx hb hr hlocks hS dX8_palms_213 hv hP hD
                · have hv := hv.2 hc_17
                  refine lv_iload hx hb dX8_palms_207 (lv_at hl 1 rfl) ?_
                  refine lv_goto (tgt := 213) hx hb dX8_palms_209 (by decide) ?_
                  exact x_iret (v := x6_10) fm1_9 hQ hx hb hr hlocks hS dX8_palms_213 hv hP hD
              · have hv := hv.2 hc_16
                refine lv_iconst (v := 1) hx hb dX8_palms_68 (by decide) ?_
                refine lv_istore (lv' := [(8, .int 1), (7, .int x7_11), (6, .int x6_10), (0, .ref m0), (1, .int x), (2, .int y), (3, .int z), (4, .int v), (5, .int i_)]) hx hb dX8_palms_69 hl (by decide) rfl (fun ls hl => ?_)
                obtain ⟨I71_21, μ71_22, hi0, hs_46⟩ := hv
                have Lm_48 : ∀ (n_47 : Nat) (fm1_18 : (Nat → Int64)) (x6_19 : Int32) (x8_20 : Int32) (H : Heap) (locs : List Loc) (ls : Array Slot), μ71_22 fm1_18 x6_19 x8_20 < n_47 → I71_21 fm1_18 x6_19 x8_20 → va_P G.1 vwCl [(m0, .inr (8, [.ref m1, .ref m2, .ref m3, .ref m4, .ref m5, .ref m6, .ref m7, .ref m8, .ref m9, .int fu, .int fd, .int fi, .int nu, .int nw, .int nf, .int bf, .int bn, .ref m10, .int ts, .int ap, .int fs, .int ln, .int fo, .int fa, .ref m11, .ref m12, .ref m13, .ref m14, .int wr])), aJ G m1 560 fm1_18, aZ G m2 2 ik, aI G m3 20 zs, aI G m4 20 cl, aI G m5 20 hs, aI G m6 20 ks, aI G m7 20 wa, aI G m8 20 ne, aI G m9 4 mn, aI G m10 400 tx, aI G m11 6 th, aI G m12 6 od, aI G m13 30 bk, aI G m14 30 bh] H → va_D A [(m0, .inr (8, [.ref m1, .ref m2, .ref m3, .ref m4, .ref m5, .ref m6, .ref m7, .ref m8, .ref m9, .int fu, .int fd, .int fi, .int nu, .int nw, .int nf, .int bf, .int bn, .ref m10, .int ts, .int ap, .int fs, .int ln, .int fo, .int fa, .ref m11, .ref m12, .ref m13, .ref m14, .int wr])), aJ G m1 560 fm1_18, aZ G m2 2 ik, aI G m3 20 zs, aI G m4 20 cl, aI G m5 20 hs, aI G m6 20 ks, aI G m7 20 wa, aI G m8 20 ne, aI G m9 4 mn, aI G m10 400 tx, aI G m11 6 th, aI G m12 6 od, aI G m13 30 bk, aI G m14 30 bh] → va_S A s.heap H locs → lv_has ls 11 [(8, .int x8_20), (7, .int x7_11), (6, .int x6_19), (0, .ref m0), (1, .int x), (2, .int y), (3, .int z), (4, .int v), (5, .int i_)] → W p l e R s m args below meth c H locs 0 0 Q (F0 m 71 ls []) := by
                  intro n_47
                  induction n_47 with
                  | zero => intro fm1_18 x6_19 x8_20 H locs ls hm; exact absurd hm (Nat.not_lt_zero _)
                  | succ n_47 ih_23 =>
                    intro fm1_18 x6_19 x8_20 H locs ls hI_24 hi hP hD hS hl
                    have hv := hs_46 fm1_18 x6_19 x8_20 hi
                    refine lv_iload hx hb dX8_palms_71 (lv_at hl 0 rfl) ?_
                    refine lv_iload_n hx hb dX8_palms_73 rfl (lv_at hl 5 rfl) ?_
                    refine lv_icmp_gt (tgt := 195) hx hb dX8_palms_74 (by decide) (fun hc_25 => ?_) (fun hc_25 => ?_)
                    · have hv := hv.1 hc_25
                      refine lv_iinc (v := (x7_11 + 1)) (lv' := [(7, .int (x7_11 + 1)), (8, .int x8_20), (6, .int x6_19), (0, .ref m0), (1, .int x), (2, .int y), (3, .int z), (4, .int v), (5, .int i_)]) hx hb dX8_palms_195 hl (k := 1) rfl rfl (by decide) rfl (fun ls hl => ?_)
                      refine lv_goto (tgt := 57) hx hb dX8_palms_198 (by decide) ?_
                      exact ih_14 _ _ _ _ _ _ (Nat.lt_of_lt_of_le hv.2 (Nat.le_of_lt_succ hI_15)) hv.1 hP hD hS (lv_sub hl [0, 2, 3, 4, 5, 6, 7, 8] rfl)
                    · have hv := hv.2 hc_25
                      refine lv_aload_n hx hb dX8_palms_77 rfl (lv_at hl 3 rfl) ?_
                      obtain ⟨hp, hv⟩ := hv
                      refine x_callv (wr := []) (w' := fun (u : (Nat → Int64)) => [(m0, .inr (8, [.ref m1, .ref m2, .ref m3, .ref m4, .ref m5, .ref m6, .ref m7, .ref m8, .ref m9, .int fu, .int fd, .int fi, .int nu, .int nw, .int nf, .int bf, .int bn, .ref m10, .int ts, .int ap, .int fs, .int ln, .int fo, .int fa, .ref m11, .ref m12, .ref m13, .ref m14, .int wr])), aJ G m1 560 u, aZ G m2 2 ik, aI G m3 20 zs, aI G m4 20 cl, aI G m5 20 hs, aI G m6 20 ks, aI G m7 20 wa, aI G m8 20 ne, aI G m9 4 mn, aI G m10 400 tx, aI G m11 6 th, aI G m12 6 od, aI G m13 30 bk, aI G m14 30 bh]) (x_runV (As := []) (rest := []) (n := 0) (C := RX8) (ci := 8) ⟨hx, hb, hml, hown, hts⟩ (k_X8_tryAllUp l G m0 m1 m2 m3 m4 m5 m6 m7 m8 m9 m10 m11 m12 m13 m14 _ fm1_18 ik zs cl hs ks wa ne mn tx th od bk bh fu fd fi nu nw nf bf bn ts ap fs ln fo fa wr hp) gX8_palms_X8_tryAllUp rfl (by decide +kernel) ⟨Nat.le_trans (Nat.le_of_ble_eq_true rfl) hRf, Nat.le_trans (Nat.le_of_ble_eq_true rfl) hRl⟩ hKK hSS hS hA hP hD [0, 1, 2, 3, 4, 5, 6, 7, 8, 9, 10, 11, 12, 13, 14] (by decide) rfl rfl rfl 0 rfl rfl hl.1 rfl (Nat.le_of_ble_eq_true rfl) dX8_palms_78) hP hD hS hA [0, 1, 2, 3, 4, 5, 6, 7, 8, 9, 10, 11, 12, 13, 14] [] [0, 1, 2, 3, 4, 5, 6, 7, 8, 9, 10, 11, 12, 13, 14] rfl rfl (by decide) (by decide) (by decide) (fun _ => rfl) (fun  u H locs hw hP hD hS => ?_)
                      obtain ⟨mw2_27, rfl⟩ : ∃ z, z = u := ⟨_, rfl⟩
                      have hP : va_P G.1 vwCl [(m0, .inr (8, [.ref m1, .ref m2, .ref m3, .ref m4, .ref m5, .ref m6, .ref m7, .ref m8, .ref m9, .int fu, .int fd, .int fi, .int nu, .int nw, .int nf, .int bf, .int bn, .ref m10, .int ts, .int ap, .int fs, .int ln, .int fo, .int fa, .ref m11, .ref m12, .ref m13, .ref m14, .int wr])), aJ G m1 560 mw2_27, aZ G m2 2 ik, aI G m3 20 zs, aI G m4 20 cl, aI G m5 20 hs, aI G m6 20 ks, aI G m7 20 wa, aI G m8 20 ne, aI G m9 4 mn, aI G m10 400 tx, aI G m11 6 th, aI G m12 6 od, aI G m13 30 bk, aI G m14 30 bh] H := hP
                      have hD : va_D A [(m0, .inr (8, [.ref m1, .ref m2, .ref m3, .ref m4, .ref m5, .ref m6, .ref m7, .ref m8, .ref m9, .int fu, .int fd, .int fi, .int nu, .int nw, .int nf, .int bf, .int bn, .ref m10, .int ts, .int ap, .int fs, .int ln, .int fo, .int fa, .ref m11, .ref m12, .ref m13, .ref m14, .int wr])), aJ G m1 560 mw2_27, aZ G m2 2 ik, aI G m3 20 zs, aI G m4 20 cl, aI G m5 20 hs, aI G m6 20 ks, aI G m7 20 wa, aI G m8 20 ne, aI G m9 4 mn, aI G m10 400 tx, aI G m11 6 th, aI G m12 6 od, aI G m13 30 bk, aI G m14 30 bh] := hD
                      have hv := hv mw2_27 hw
                      refine lv_aload_n hx hb dX8_palms_81 rfl (lv_at hl 3 rfl) ?_
                      refine va_get (D := G.1) (ci := 8) (v := .ref m1) (C := RX8) (T := TX8) (N := 29) hx hb hts hinX8 hown hKK.1 hP 0 rfl rfl 0 (by decide) kl7 (fun _ h9 => h9) rfl dX8_palms_82 ?_
                      refine lv_sipush (v := 160) hx hb dX8_palms_85 (by decide) ?_
                      refine lv_iload hx hb dX8_palms_88 (lv_at hl 1 rfl) ?_
                      refine lv_iadd hx hb dX8_palms_90 ?_
                      refine lv_iload_n hx hb dX8_palms_91 rfl (lv_at hl 4 rfl) ?_
                      refine lv_i2l hx hb dX8_palms_92 rfl ?_
                      obtain ⟨hin, hv⟩ := hv
                      refine va_last hx hb hKK.1 hP hD hS 1 2 rfl rfl hin dX8_palms_93 (fun H locs hP hD hS => ?_)
                      have hP : va_P G.1 vwCl [(m0, .inr (8, [.ref m1, .ref m2, .ref m3, .ref m4, .ref m5, .ref m6, .ref m7, .ref m8, .ref m9, .int fu, .int fd, .int fi, .int nu, .int nw, .int nf, .int bf, .int bn, .ref m10, .int ts, .int ap, .int fs, .int ln, .int fo, .int fa, .ref m11, .ref m12, .ref m13, .ref m14, .int wr])), aJ G m1 560 (vp_updL mw2_27 ((160 + x7_11).toNatClampNeg) x.toInt64), aZ G m2 2 ik, aI G m3 20 zs, aI G m4 20 cl, aI G m5 20 hs, aI G m6 20 ks, aI G m7 20 wa, aI G m8 20 ne, aI G m9 4 mn, aI G m10 400 tx, aI G m11 6 th, aI G m12 6 od, aI G m13 30 bk, aI G m14 30 bh] H := hP
                      have hD : va_D A [(m0, .inr (8, [.ref m1, .ref m2, .ref m3, .ref m4, .ref m5, .ref m6, .ref m7, .ref m8, .ref m9, .int fu, .int fd, .int fi, .int nu, .int nw, .int nf, .int bf, .int bn, .ref m10, .int ts, .int ap, .int fs, .int ln, .int fo, .int fa, .ref m11, .ref m12, .ref m13, .ref m14, .int wr])), aJ G m1 560 (vp_updL mw2_27 ((160 + x7_11).toNatClampNeg) x.toInt64), aZ G m2 2 ik, aI G m3 20 zs, aI G m4 20 cl, aI G m5 20 hs, aI G m6 20 ks, aI G m7 20 wa, aI G m8 20 ne, aI G m9 4 mn, aI G m10 400 tx, aI G m11 6 th, aI G m12 6 od, aI G m13 30 bk, aI G m14 30 bh] := hD
                      refine lv_iconst (v := 0) hx hb dX8_palms_94 (by decide) ?_
                      refine lv_istore (lv' := [(9, .int 0), (8, .int x8_20), (7, .int x7_11), (6, .int x6_19), (0, .ref m0), (1, .int x), (2, .int y), (3, .int z), (4, .int v), (5, .int i_)]) hx hb dX8_palms_95 hl (by decide) rfl (fun ls hl => ?_)
                      obtain ⟨I97_30, μ97_31, hi0, hs_43⟩ := hv
                      have Lm_45 : ∀ (n_44 : Nat) (fm1_28 : (Nat → Int64)) (x9_29 : Int32) (H : Heap) (locs : List Loc) (ls : Array Slot), μ97_31 fm1_28 x9_29 < n_44 → I97_30 fm1_28 x9_29 → va_P G.1 vwCl [(m0, .inr (8, [.ref m1, .ref m2, .ref m3, .ref m4, .ref m5, .ref m6, .ref m7, .ref m8, .ref m9, .int fu, .int fd, .int fi, .int nu, .int nw, .int nf, .int bf, .int bn, .ref m10, .int ts, .int ap, .int fs, .int ln, .int fo, .int fa, .ref m11, .ref m12, .ref m13, .ref m14, .int wr])), aJ G m1 560 fm1_28, aZ G m2 2 ik, aI G m3 20 zs, aI G m4 20 cl, aI G m5 20 hs, aI G m6 20 ks, aI G m7 20 wa, aI G m8 20 ne, aI G m9 4 mn, aI G m10 400 tx, aI G m11 6 th, aI G m12 6 od, aI G m13 30 bk, aI G m14 30 bh] H → va_D A [(m0, .inr (8, [.ref m1, .ref m2, .ref m3, .ref m4, .ref m5, .ref m6, .ref m7, .ref m8, .ref m9, .int fu, .int fd, .int fi, .int nu, .int nw, .int nf, .int bf, .int bn, .ref m10, .int ts, .int ap, .int fs, .int ln, .int fo, .int fa, .ref m11, .ref m12, .ref m13, .ref m14, .int wr])), aJ G m1 560 fm1_28, aZ G m2 2 ik, aI G m3 20 zs, aI G m4 20 cl, aI G m5 20 hs, aI G m6 20 ks, aI G m7 20 wa, aI G m8 20 ne, aI G m9 4 mn, aI G m10 400 tx, aI G m11 6 th, aI G m12 6 od, aI G m13 30 bk, aI G m14 30 bh] → va_S A s.heap H locs → lv_has ls 11 [(9, .int x9_29), (8, .int x8_20), (7, .int x7_11), (6, .int x6_19), (0, .ref m0), (1, .int x), (2, .int y), (3, .int z), (4, .int v), (5, .int i_)] → W p l e R s m args below meth c H locs 0 0 Q (F0 m 97 ls []) := by
                        intro n_44
                        induction n_44 with
                        | zero => intro fm1_28 x9_29 H locs ls hm; exact absurd hm (Nat.not_lt_zero _)
                        | succ n_44 ih_32 =>
                          intro fm1_28 x9_29 H locs ls hI_33 hi hP hD hS hl
                          have hv := hs_43 fm1_28 x9_29 hi
                          refine lv_iload hx hb dX8_palms_97 (lv_at hl 0 rfl) ?_
                          refine lv_iload_n hx hb dX8_palms_99 rfl (lv_at hl 6 rfl) ?_
                          refine lv_icmp_ge (tgt := 144) hx hb dX8_palms_100 (by decide) (fun hc_34 => ?_) (fun hc_34 => ?_)
                          · have hv := hv.1 hc_34
                            refine lv_aload_n hx hb dX8_palms_144 rfl (lv_at hl 4 rfl) ?_
                            refine va_get (D := G.1) (ci := 8) (v := .ref m1) (C := RX8) (T := TX8) (N := 29) hx hb hts hinX8 hown hKK.1 hP 0 rfl rfl 0 (by decide) kl7 (fun _ h9 => h9) rfl dX8_palms_145 ?_
                            refine lv_sipush (v := 140) hx hb dX8_palms_148 (by decide) ?_
                            refine lv_iload_n hx hb dX8_palms_151 rfl (lv_at hl 5 rfl) ?_
                            refine lv_iadd hx hb dX8_palms_152 ?_
                            obtain ⟨hin, hv⟩ := hv
                            refine va_lald hx hb hKK.1 hP 1 2 rfl rfl hin dX8_palms_153 ?_
                            refine lv_iload_n hx hb dX8_palms_154 rfl (lv_at hl 7 rfl) ?_
                            refine lv_iload hx hb dX8_palms_155 (lv_at hl 8 rfl) ?_
                            refine lv_isub hx hb dX8_palms_157 ?_
                            refine lv_i2l hx hb dX8_palms_158 rfl ?_
                            refine lv_iload_n hx hb dX8_palms_159 rfl (lv_at hl 7 rfl) ?_
                            refine lv_iload hx hb dX8_palms_160 (lv_at hl 8 rfl) ?_
                            refine lv_iadd hx hb dX8_palms_162 ?_
                            refine lv_i2l hx hb dX8_palms_163 rfl ?_
                            refine x_calliR (x_runS (As := [.long (fm1_28 (140 + x).toNatClampNeg), .long ((z - v).toInt64), .long ((z + v).toInt64)]) (rest := []) (n := 3) ⟨hx, hb, hml, hown, hts⟩ (k_X8_in l G  _ (fm1_28 (140 + x).toNatClampNeg) ((z - v).toInt64) ((z + v).toInt64)) gX8_palms_X8_in rfl (by decide +kernel) ⟨Nat.le_trans (Nat.le_of_ble_eq_true rfl) hRf, Nat.le_trans (Nat.le_of_ble_eq_true rfl) hRl⟩ hKK hSS hS hA hP hD [] (by decide) rfl rfl hl.1 rfl (Nat.le_of_ble_eq_true rfl) dX8_palms_164) hP hD hS hA [] rfl (fun r_35 _ H locs hw hP hS => ?_)
                            replace hw := hw.symm; subst hw
                            refine lv_if_eq (tgt := 189) hx hb dX8_palms_167 (by decide) (fun hc_36 => ?_) (fun hc_36 => ?_)
                            · have hv := hv.1 (tv_eq.mp hc_36)
                              refine lv_iinc (v := (x8_20 + 1)) (lv' := [(8, .int (x8_20 + 1)), (9, .int x9_29), (7, .int x7_11), (6, .int x6_19), (0, .ref m0), (1, .int x), (2, .int y), (3, .int z), (4, .int v), (5, .int i_)]) hx hb dX8_palms_189 hl (k := 1) rfl rfl (by decide) rfl (fun ls hl => ?_)
                              refine lv_goto (tgt := 71) hx hb dX8_palms_192 (by decide) ?_
                              exact ih_23 _ _ _ _ _ _ (Nat.lt_of_lt_of_le hv.2 (Nat.le_of_lt_succ hI_24)) hv.1 hP hD hS (lv_sub hl [0, 2, 3, 4, 5, 6, 7, 8, 9] rfl)
                            · have hv := hv.2 (tv_eqn.mp hc_36)
                              refine lv_iload hx hb dX8_palms_170 (lv_at hl 3 rfl) ?_
                              refine lv_iload hx hb dX8_palms_172 (lv_at hl 9 rfl) ?_
                              refine lv_icmp_ne (tgt := 186) hx hb dX8_palms_174 (by decide) (fun hc_37 => ?_) (fun hc_37 => ?_)
                              · have hv := hv.1 hc_37
                                refine lv_iinc (v := (x6_19 + 1)) (lv' := [(6, .int (x6_19 + 1)), (9, .int x9_29), (8, .int x8_20), (7, .int x7_11), (0, .ref m0), (1, .int x), (2, .int y), (3, .int z), (4, .int v), (5, .int i_)]) hx hb dX8_palms_186 hl (k := 3) rfl rfl (by decide) rfl (fun ls hl => ?_)
                                refine lv_iinc (v := (x8_20 + 1)) (lv' := [(8, .int (x8_20 + 1)), (6, .int (x6_19 + 1)), (9, .int x9_29), (7, .int x7_11), (0, .ref m0), (1, .int x), (2, .int y), (3, .int z), (4, .int v), (5, .int i_)]) hx hb dX8_palms_189 hl (k := 2) rfl rfl (by decide) rfl (fun ls hl => ?_)
                                refine lv_goto (tgt := 71) hx hb dX8_palms_192 (by decide) ?_
                                exact ih_23 _ _ _ _ _ _ (Nat.lt_of_lt_of_le hv.2 (Nat.le_of_lt_succ hI_24)) hv.1 hP hD hS (lv_sub hl [0, 3, 1, 4, 5, 6, 7, 8, 9] rfl)
                              · have hv := hv.2 hc_37
                                refine lv_bipush (v := 100) hx hb dX8_palms_177 (by decide) ?_
                                refine lv_iload hx hb dX8_palms_179 (lv_at hl 2 rfl) ?_
                                refine lv_imul hx hb dX8_palms_181 ?_
                                refine lv_iload hx hb dX8_palms_182 (lv_at hl 1 rfl) ?_
                                refine lv_iadd hx hb dX8_palms_184 ?_
                                exact x_iret (v := ((100 * x7_11) + x8_20)) fm1_28 hQ hx hb hr hlocks hS dX8_palms_185 hv hP hD
                          · have hv := hv.2 hc_34
                            refine lv_aload_n hx hb dX8_palms_103 rfl (lv_at hl 4 rfl) ?_
                            refine va_get (D := G.1) (ci := 8) (v := .ref m1) (C := RX8) (T := TX8) (N := 29) hx hb hts hinX8 hown hKK.1 hP 0 rfl rfl 0 (by decide) kl7 (fun _ h9 => h9) rfl dX8_palms_104 ?_
                            refine lv_sipush (v := 160) hx hb dX8_palms_107 (by decide) ?_
                            refine lv_iload hx hb dX8_palms_110 (lv_at hl 2 rfl) ?_
                            refine lv_iadd hx hb dX8_palms_112 ?_
                            refine lv_iload hx hb dX8_palms_113 (lv_at hl 0 rfl) ?_
                            refine lv_iload hx hb dX8_palms_115 (lv_at hl 1 rfl) ?_
                            refine lv_icmp_ge (tgt := 125) hx hb dX8_palms_117 (by decide) (fun hc_38 => ?_) (fun hc_38 => ?_)
                            · have hv := hv.1 hc_38
                              refine lv_ldc2 (v := (-1)) hx hb hown kl152 dX8_palms_125 ?_
                              obtain ⟨hin, hv⟩ := hv
                              refine va_last hx hb hKK.1 hP hD hS 1 2 rfl rfl hin dX8_palms_128 (fun H locs hP hD hS => ?_)
                              have hP : va_P G.1 vwCl [(m0, .inr (8, [.ref m1, .ref m2, .ref m3, .ref m4, .ref m5, .ref m6, .ref m7, .ref m8, .ref m9, .int fu, .int fd, .int fi, .int nu, .int nw, .int nf, .int bf, .int bn, .ref m10, .int ts, .int ap, .int fs, .int ln, .int fo, .int fa, .ref m11, .ref m12, .ref m13, .ref m14, .int wr])), aJ G m1 560 (vp_updL fm1_28 ((160 + x7_11).toNatClampNeg) (-1)), aZ G m2 2 ik, aI G m3 20 zs, aI G m4 20 cl, aI G m5 20 hs, aI G m6 20 ks, aI G m7 20 wa, aI G m8 20 ne, aI G m9 4 mn, aI G m10 400 tx, aI G m11 6 th, aI G m12 6 od, aI G m13 30 bk, aI G m14 30 bh] H := hP
                              have hD : va_D A [(m0, .inr (8, [.ref m1, .ref m2, .ref m3, .ref m4, .ref m5, .ref m6, .ref m7, .ref m8, .ref m9, .int fu, .int fd, .int fi, .int nu, .int nw, .int nf, .int bf, .int bn, .ref m10, .int ts, .int ap, .int fs, .int ln, .int fo, .int fa, .ref m11, .ref m12, .ref m13, .ref m14, .int wr])), aJ G m1 560 (vp_updL fm1_28 ((160 + x7_11).toNatClampNeg) (-1)), aZ G m2 2 ik, aI G m3 20 zs, aI G m4 20 cl, aI G m5 20 hs, aI G m6 20 ks, aI G m7 20 wa, aI G m8 20 ne, aI G m9 4 mn, aI G m10 400 tx, aI G m11 6 th, aI G m12 6 od, aI G m13 30 bk, aI G m14 30 bh] := hD
                              refine lv_aload_n hx hb dX8_palms_129 rfl (lv_at hl 4 rfl) ?_
                              refine lv_sipush (v := 140) hx hb dX8_palms_130 (by decide) ?_
                              obtain ⟨hp, hv⟩ := hv
                              refine x_calli (wr := []) (w' := fun (u : (Nat → Int64)) => [(m0, .inr (8, [.ref m1, .ref m2, .ref m3, .ref m4, .ref m5, .ref m6, .ref m7, .ref m8, .ref m9, .int fu, .int fd, .int fi, .int nu, .int nw, .int nf, .int bf, .int bn, .ref m10, .int ts, .int ap, .int fs, .int ln, .int fo, .int fa, .ref m11, .ref m12, .ref m13, .ref m14, .int wr])), aJ G m1 560 u, aZ G m2 2 ik, aI G m3 20 zs, aI G m4 20 cl, aI G m5 20 hs, aI G m6 20 ks, aI G m7 20 wa, aI G m8 20 ne, aI G m9 4 mn, aI G m10 400 tx, aI G m11 6 th, aI G m12 6 od, aI G m13 30 bk, aI G m14 30 bh]) (x_runV (As := [.int 140]) (rest := []) (n := 1) (C := RX8) (ci := 8) ⟨hx, hb, hml, hown, hts⟩ (k_X8_pass l G m0 m1 m2 m3 m4 m5 m6 m7 m8 m9 m10 m11 m12 m13 m14 _ (vp_updL fm1_28 ((160 + x7_11).toNatClampNeg) (-1)) ik zs cl hs ks wa ne mn tx th od bk bh fu fd fi nu nw nf bf bn ts ap fs ln fo fa wr 140 hp) gX8_palms_X8_pass rfl (by decide +kernel) ⟨Nat.le_trans (Nat.le_of_ble_eq_true rfl) hRf, Nat.le_trans (Nat.le_of_ble_eq_true rfl) hRl⟩ hKK hSS hS hA hP hD [0, 1, 2, 3, 4, 5, 6, 7, 8, 9, 10, 11, 12, 13, 14] (by decide) rfl rfl rfl 0 rfl rfl hl.1 rfl (Nat.le_of_ble_eq_true rfl) dX8_palms_133) hP hD hS hA [0, 1, 2, 3, 4, 5, 6, 7, 8, 9, 10, 11, 12, 13, 14] [] [0, 1, 2, 3, 4, 5, 6, 7, 8, 9, 10, 11, 12, 13, 14] rfl rfl (by decide) (by decide) (by decide) (fun _ => rfl) (fun r_39 u H locs hw hP hD hS => ?_)
                              obtain ⟨mw2_40, rfl⟩ : ∃ z, z = u := ⟨_, rfl⟩
                              have hP : va_P G.1 vwCl [(m0, .inr (8, [.ref m1, .ref m2, .ref m3, .ref m4, .ref m5, .ref m6, .ref m7, .ref m8, .ref m9, .int fu, .int fd, .int fi, .int nu, .int nw, .int nf, .int bf, .int bn, .ref m10, .int ts, .int ap, .int fs, .int ln, .int fo, .int fa, .ref m11, .ref m12, .ref m13, .ref m14, .int wr])), aJ G m1 560 mw2_40, aZ G m2 2 ik, aI G m3 20 zs, aI G m4 20 cl, aI G m5 20 hs, aI G m6 20 ks, aI G m7 20 wa, aI G m8 20 ne, aI G m9 4 mn, aI G m10 400 tx, aI G m11 6 th, aI G m12 6 od, aI G m13 30 bk, aI G m14 30 bh] H := hP
                              have hD : va_D A [(m0, .inr (8, [.ref m1, .ref m2, .ref m3, .ref m4, .ref m5, .ref m6, .ref m7, .ref m8, .ref m9, .int fu, .int fd, .int fi, .int nu, .int nw, .int nf, .int bf, .int bn, .ref m10, .int ts, .int ap, .int fs, .int ln, .int fo, .int fa, .ref m11, .ref m12, .ref m13, .ref m14, .int wr])), aJ G m1 560 mw2_40, aZ G m2 2 ik, aI G m3 20 zs, aI G m4 20 cl, aI G m5 20 hs, aI G m6 20 ks, aI G m7 20 wa, aI G m8 20 ne, aI G m9 4 mn, aI G m10 400 tx, aI G m11 6 th, aI G m12 6 od, aI G m13 30 bk, aI G m14 30 bh] := hD
                              have hv := hv r_39 mw2_40 hw
                              refine lv_istore (lv' := [(10, .int r_39), (9, .int x9_29), (8, .int x8_20), (7, .int x7_11), (6, .int x6_19), (0, .ref m0), (1, .int x), (2, .int y), (3, .int z), (4, .int v), (5, .int i_)]) hx hb dX8_palms_136 hl (by decide) rfl (fun ls hl => ?_)
                              refine lv_iinc (v := (x9_29 + 1)) (lv' := [(9, .int (x9_29 + 1)), (10, .int r_39), (8, .int x8_20), (7, .int x7_11), (6, .int x6_19), (0, .ref m0), (1, .int x), (2, .int y), (3, .int z), (4, .int v), (5, .int i_)]) hx hb dX8_palms_138 hl (k := 1) rfl rfl (by decide) rfl (fun ls hl => ?_)
                              refine lv_goto (tgt := 97) hx hb dX8_palms_141 (by decide) ?_
                              exact ih_32 _ _ _ _ _ (Nat.lt_of_lt_of_le hv.2 (Nat.le_of_lt_succ hI_33)) hv.1 hP hD hS (lv_sub hl [0, 2, 3, 4, 5, 6, 7, 8, 9, 10] rfl)
                            · have hv := hv.2 hc_38
                              refine lv_iload_n hx hb dX8_palms_120 rfl (lv_at hl 5 rfl) ?_
                              refine lv_i2l hx hb dX8_palms_121 rfl ?_
                              refine lv_goto (tgt := 128) hx hb dX8_palms_122 (by decide) ?_
                              obtain ⟨hin, hv⟩ := hv
                              refine va_last hx hb hKK.1 hP hD hS 1 2 rfl rfl hin dX8_palms_128 (fun H locs hP hD hS => ?_)
                              have hP : va_P G.1 vwCl [(m0, .inr (8, [.ref m1, .ref m2, .ref m3, .ref m4, .ref m5, .ref m6, .ref m7, .ref m8, .ref m9, .int fu, .int fd, .int fi, .int nu, .int nw, .int nf, .int bf, .int bn, .ref m10, .int ts, .int ap, .int fs, .int ln, .int fo, .int fa, .ref m11, .ref m12, .ref m13, .ref m14, .int wr])), aJ G m1 560 (vp_updL fm1_28 ((160 + x7_11).toNatClampNeg) x.toInt64), aZ G m2 2 ik, aI G m3 20 zs, aI G m4 20 cl, aI G m5 20 hs, aI G m6 20 ks, aI G m7 20 wa, aI G m8 20 ne, aI G m9 4 mn, aI G m10 400 tx, aI G m11 6 th, aI G m12 6 od, aI G m13 30 bk, aI G m14 30 bh] H := hP
                              have hD : va_D A [(m0, .inr (8, [.ref m1, .ref m2, .ref m3, .ref m4, .ref m5, .ref m6, .ref m7, .ref m8, .ref m9, .int fu, .int fd, .int fi, .int nu, .int nw, .int nf, .int bf, .int bn, .ref m10, .int ts, .int ap, .int fs, .int ln, .int fo, .int fa, .ref m11, .ref m12, .ref m13, .ref m14, .int wr])), aJ G m1 560 (vp_updL fm1_28 ((160 + x7_11).toNatClampNeg) x.toInt64), aZ G m2 2 ik, aI G m3 20 zs, aI G m4 20 cl, aI G m5 20 hs, aI G m6 20 ks, aI G m7 20 wa, aI G m8 20 ne, aI G m9 4 mn, aI G m10 400 tx, aI G m11 6 th, aI G m12 6 od, aI G m13 30 bk, aI G m14 30 bh] := hD
                              refine lv_aload_n hx hb dX8_palms_129 rfl (lv_at hl 4 rfl) ?_
                              refine lv_sipush (v := 140) hx hb dX8_palms_130 (by decide) ?_
                              obtain ⟨hp, hv⟩ := hv
                              refine x_calli (wr := []) (w' := fun (u : (Nat → Int64)) => [(m0, .inr (8, [.ref m1, .ref m2, .ref m3, .ref m4, .ref m5, .ref m6, .ref m7, .ref m8, .ref m9, .int fu, .int fd, .int fi, .int nu, .int nw, .int nf, .int bf, .int bn, .ref m10, .int ts, .int ap, .int fs, .int ln, .int fo, .int fa, .ref m11, .ref m12, .ref m13, .ref m14, .int wr])), aJ G m1 560 u, aZ G m2 2 ik, aI G m3 20 zs, aI G m4 20 cl, aI G m5 20 hs, aI G m6 20 ks, aI G m7 20 wa, aI G m8 20 ne, aI G m9 4 mn, aI G m10 400 tx, aI G m11 6 th, aI G m12 6 od, aI G m13 30 bk, aI G m14 30 bh]) (x_runV (As := [.int 140]) (rest := []) (n := 1) (C := RX8) (ci := 8) ⟨hx, hb, hml, hown, hts⟩ (k_X8_pass l G m0 m1 m2 m3 m4 m5 m6 m7 m8 m9 m10 m11 m12 m13 m14 _ (vp_updL fm1_28 ((160 + x7_11).toNatClampNeg) x.toInt64) ik zs cl hs ks wa ne mn tx th od bk bh fu fd fi nu nw nf bf bn ts ap fs ln fo fa wr 140 hp) gX8_palms_X8_pass rfl (by decide +kernel) ⟨Nat.le_trans (Nat.le_of_ble_eq_true rfl) hRf, Nat.le_trans (Nat.le_of_ble_eq_true rfl) hRl⟩ hKK hSS hS hA hP hD [0, 1, 2, 3, 4, 5, 6, 7, 8, 9, 10, 11, 12, 13, 14] (by decide) rfl rfl rfl 0 rfl rfl hl.1 rfl (Nat.le_of_ble_eq_true rfl) dX8_palms_133) hP hD hS hA [0, 1, 2, 3, 4, 5, 6, 7, 8, 9, 10, 11, 12, 13, 14] [] [0, 1, 2, 3, 4, 5, 6, 7, 8, 9, 10, 11, 12, 13, 14] rfl rfl (by decide) (by decide) (by decide) (fun _ => rfl) (fun r_41 u H locs hw hP hD hS => ?_)
                              obtain ⟨mw2_42, rfl⟩ : ∃ z, z = u := ⟨_, rfl⟩
                              have hP : va_P G.1 vwCl [(m0, .inr (8, [.ref m1, .ref m2, .ref m3, .ref m4, .ref m5, .ref m6, .ref m7, .ref m8, .ref m9, .int fu, .int fd, .int fi, .int nu, .int nw, .int nf, .int bf, .int bn, .ref m10, .int ts, .int ap, .int fs, .int ln, .int fo, .int fa, .ref m11, .ref m12, .ref m13, .ref m14, .int wr])), aJ G m1 560 mw2_42, aZ G m2 2 ik, aI G m3 20 zs, aI G m4 20 cl, aI G m5 20 hs, aI G m6 20 ks, aI G m7 20 wa, aI G m8 20 ne, aI G m9 4 mn, aI G m10 400 tx, aI G m11 6 th, aI G m12 6 od, aI G m13 30 bk, aI G m14 30 bh] H := hP
                              have hD : va_D A [(m0, .inr (8, [.ref m1, .ref m2, .ref m3, .ref m4, .ref m5, .ref m6, .ref m7, .ref m8, .ref m9, .int fu, .int fd, .int fi, .int nu, .int nw, .int nf, .int bf, .int bn, .ref m10, .int ts, .int ap, .int fs, .int ln, .int fo, .int fa, .ref m11, .ref m12, .ref m13, .ref m14, .int wr])), aJ G m1 560 mw2_42, aZ G m2 2 ik, aI G m3 20 zs, aI G m4 20 cl, aI G m5 20 hs, aI G m6 20 ks, aI G m7 20 wa, aI G m8 20 ne, aI G m9 4 mn, aI G m10 400 tx, aI G m11 6 th, aI G m12 6 od, aI G m13 30 bk, aI G m14 30 bh] := hD
                              have hv := hv r_41 mw2_42 hw
                              refine lv_istore (lv' := [(10, .int r_41), (9, .int x9_29), (8, .int x8_20), (7, .int x7_11), (6, .int x6_19), (0, .ref m0), (1, .int x), (2, .int y), (3, .int z), (4, .int v), (5, .int i_)]) hx hb dX8_palms_136 hl (by decide) rfl (fun ls hl => ?_)
                              refine lv_iinc (v := (x9_29 + 1)) (lv' := [(9, .int (x9_29 + 1)), (10, .int r_41), (8, .int x8_20), (7, .int x7_11), (6, .int x6_19), (0, .ref m0), (1, .int x), (2, .int y), (3, .int z), (4, .int v), (5, .int i_)]) hx hb dX8_palms_138 hl (k := 1) rfl rfl (by decide) rfl (fun ls hl => ?_)
                              refine lv_goto (tgt := 97) hx hb dX8_palms_141 (by decide) ?_
                              exact ih_32 _ _ _ _ _ (Nat.lt_of_lt_of_le hv.2 (Nat.le_of_lt_succ hI_33)) hv.1 hP hD hS (lv_sub hl [0, 2, 3, 4, 5, 6, 7, 8, 9, 10] rfl)
                      exact Lm_45 _ _ _ _ _ _ (Nat.lt_succ_self _) hi0 hP hD hS hl
                exact Lm_48 _ _ _ _ _ _ _ (Nat.lt_succ_self _) hi0 hP hD hS hl
          exact Lm_51 _ _ _ _ _ _ _ (Nat.lt_succ_self _) hi0 hP hD hS hl
        · have hv := hv.2 (tv_eq.mp hc_8)
          refine lv_ldc (v := (-1000000002)) hx hb hown kl73 dX8_palms_48 ?_
          exact x_iret (v := (-1000000002)) mw hQ hx hb hr hlocks hS dX8_palms_50 hv hP hD
  · have hv := hv.2 hc_2
    refine lv_ldc (v := (-1000000001)) hx hb hown kl164 dX8_palms_8 ?_
    exact x_iret (v := (-1000000001)) mw hQ hx hb hr hlocks hS dX8_palms_10 hv hP hD
theorem k_X8_palms (l : Launch) (G : Gt) (m0 m1 m2 m3 m4 m5 m6 m7 m8 m9 m10 m11 m12 m13 m14 : Nat) (sz : Nat) (mw : Nat → Int64) (ik : Nat → Int32) (zs : Nat → Int32) (cl : Nat → Int32) (hs : Nat → Int32) (ks : Nat → Int32) (wa : Nat → Int32) (ne : Nat → Int32) (mn : Nat → Int32) (tx : Nat → Int32) (th : Nat → Int32) (od : Nat → Int32) (bk : Nat → Int32) (bh : Nat → Int32) (fu : Int32) (fd : Int32) (fi : Int32) (nu : Int32) (nw : Int32) (nf : Int32) (bf : Int32) (bn : Int32) (ts : Int32) (ap : Int32) (fs : Int32) (ln : Int32) (fo : Int32) (fa : Int32) (wr : Int32) (x : Int32) (y : Int32) (z : Int32) (v : Int32) (i_ : Int32) (hp : True) : MetI l yX8_palms wsX8_palms 4 101 G [.ref m0, .int x, .int y, .int z, .int v, .int i_] [(m0, .inr (8, [.ref m1, .ref m2, .ref m3, .ref m4, .ref m5, .ref m6, .ref m7, .ref m8, .ref m9, .int fu, .int fd, .int fi, .int nu, .int nw, .int nf, .int bf, .int bn, .ref m10, .int ts, .int ap, .int fs, .int ln, .int fo, .int fa, .ref m11, .ref m12, .ref m13, .ref m14, .int wr])), aJ G m1 560 mw, aZ G m2 2 ik, aI G m3 20 zs, aI G m4 20 cl, aI G m5 20 hs, aI G m6 20 ks, aI G m7 20 wa, aI G m8 20 ne, aI G m9 4 mn, aI G m10 400 tx, aI G m11 6 th, aI G m12 6 od, aI G m13 30 bk, aI G m14 30 bh] sz (fun (r : Int32) (u : (Nat → Int64)) => True) (fun (u : (Nat → Int64)) => [(m0, .inr (8, [.ref m1, .ref m2, .ref m3, .ref m4, .ref m5, .ref m6, .ref m7, .ref m8, .ref m9, .int fu, .int fd, .int fi, .int nu, .int nw, .int nf, .int bf, .int bn, .ref m10, .int ts, .int ap, .int fs, .int ln, .int fo, .int fa, .ref m11, .ref m12, .ref m13, .ref m14, .int wr])), aJ G m1 560 u, aZ G m2 2 ik, aI G m3 20 zs, aI G m4 20 cl, aI G m5 20 hs, aI G m6 20 ks, aI G m7 20 wa, aI G m8 20 ne, aI G m9 4 mn, aI G m10 400 tx, aI G m11 6 th, aI G m12 6 od, aI G m13 30 bk, aI G m14 30 bh]) :=
  c_X8_palms l G m0 m1 m2 m3 m4 m5 m6 m7 m8 m9 m10 m11 m12 m13 m14 sz mw ik zs cl hs ks wa ne mn tx th od bk bh fu fd fi nu nw nf bf bn ts ap fs ln fo fa wr x y z v i_ (by
    sorry)

set_option maxHeartbeats 4000000 in
set_option maxRecDepth 100000 in
theorem c_X8_safe (l : Launch) (G : Gt) (m0 m1 m2 m3 m4 m5 m6 m7 m8 m9 m10 m11 m12 m13 m14 : Nat) (sz : Nat) (mw : Nat → Int64) (ik : Nat → Int32) (zs : Nat → Int32) (cl : Nat → Int32) (hs : Nat → Int32) (ks : Nat → Int32) (wa : Nat → Int32) (ne : Nat → Int32) (mn : Nat → Int32) (tx : Nat → Int32) (th : Nat → Int32) (od : Nat → Int32) (bk : Nat → Int32) (bh : Nat → Int32) (fu : Int32) (fd : Int32) (fi : Int32) (nu : Int32) (nw : Int32) (nf : Int32) (bf : Int32) (bn : Int32) (ts : Int32) (ap : Int32) (fs : Int32) (ln : Int32) (fo : Int32) (fa : Int32) (wr : Int32) (hv : (True) ∧ (∀ (mw2_2 : Nat → Int64), (True) → (∃ (I10_5 : (Nat → Int64) → Int32 → Prop) (μ10_6 : (Nat → Int64) → Int32 → Nat), I10_5 mw2_2 0 ∧ (∀ (fm1_3 : (Nat → Int64)) (x1_4 : Int32), I10_5 fm1_3 x1_4 → (999 ≤ x1_4 → True) ∧ (¬ (999 ≤ x1_4) → (True) ∧ (∀ (r_10 : Int32) (mw2_11 : Nat → Int64), (True) → ((¬ r_10 = 0 → True) ∧ (r_10 = 0 → I10_5 mw2_11 (x1_4 + 1) ∧ μ10_6 mw2_11 (x1_4 + 1) < μ10_6 fm1_3 x1_4)))))))) : MetI l yX8_safe wsX8_safe 4 101 G [.ref m0] [(m0, .inr (8, [.ref m1, .ref m2, .ref m3, .ref m4, .ref m5, .ref m6, .ref m7, .ref m8, .ref m9, .int fu, .int fd, .int fi, .int nu, .int nw, .int nf, .int bf, .int bn, .ref m10, .int ts, .int ap, .int fs, .int ln, .int fo, .int fa, .ref m11, .ref m12, .ref m13, .ref m14, .int wr])), aJ G m1 560 mw, aZ G m2 2 ik, aI G m3 20 zs, aI G m4 20 cl, aI G m5 20 hs, aI G m6 20 ks, aI G m7 20 wa, aI G m8 20 ne, aI G m9 4 mn, aI G m10 400 tx, aI G m11 6 th, aI G m12 6 od, aI G m13 30 bk, aI G m14 30 bh] sz (fun (r : Int32) (u : (Nat → Int64)) => True) (fun (u : (Nat → Int64)) => [(m0, .inr (8, [.ref m1, .ref m2, .ref m3, .ref m4, .ref m5, .ref m6, .ref m7, .ref m8, .ref m9, .int fu, .int fd, .int fi, .int nu, .int nw, .int nf, .int bf, .int bn, .ref m10, .int ts, .int ap, .int fs, .int ln, .int fo, .int fa, .ref m11, .ref m12, .ref m13, .ref m14, .int wr])), aJ G m1 560 u, aZ G m2 2 ik, aI G m3 20 zs, aI G m4 20 cl, aI G m5 20 hs, aI G m6 20 ks, aI G m7 20 wa, aI G m8 20 ne, aI G m9 4 mn, aI G m10 400 tx, aI G m11 6 th, aI G m12 6 od, aI G m13 30 bk, aI G m14 30 bh]) := by
  refine x_startI (cc := cX8_safe) (maxL := 2) (ret := (some .int)) (by decide) rfl (Nat.le_of_ble_eq_true rfl) ?_
  intro p e s m args below meth c A R Q ls hRf hRl hQ C hP hD hS hA hSS hl
  obtain ⟨hx, hb, hr, hml, hown, hts, hlocks, hKK⟩ := C
  have hown : s.vm.findClass RX8 = some m.cls := hown
  have hl : lv_has ls 2 [(0, .ref m0)] := hl
  refine lv_aload_n hx hb dX8_safe_0 rfl (lv_at hl 0 rfl) ?_
  refine lv_iconst (v := 0) hx hb dX8_safe_1 (by decide) ?_
  refine lv_sipush (v := 140) hx hb dX8_safe_2 (by decide) ?_
  obtain ⟨hp, hv⟩ := hv
  refine x_callv (wr := []) (w' := fun (u : (Nat → Int64)) => [(m0, .inr (8, [.ref m1, .ref m2, .ref m3, .ref m4, .ref m5, .ref m6, .ref m7, .ref m8, .ref m9, .int fu, .int fd, .int fi, .int nu, .int nw, .int nf, .int bf, .int bn, .ref m10, .int ts, .int ap, .int fs, .int ln, .int fo, .int fa, .ref m11, .ref m12, .ref m13, .ref m14, .int wr])), aJ G m1 560 u, aZ G m2 2 ik, aI G m3 20 zs, aI G m4 20 cl, aI G m5 20 hs, aI G m6 20 ks, aI G m7 20 wa, aI G m8 20 ne, aI G m9 4 mn, aI G m10 400 tx, aI G m11 6 th, aI G m12 6 od, aI G m13 30 bk, aI G m14 30 bh]) (x_runV (As := [.int 0, .int 140]) (rest := []) (n := 2) (C := RX8) (ci := 8) ⟨hx, hb, hml, hown, hts⟩ (k_X8_copy l G m0 m1 m2 m3 m4 m5 m6 m7 m8 m9 m10 m11 m12 m13 m14 _ mw ik zs cl hs ks wa ne mn tx th od bk bh fu fd fi nu nw nf bf bn ts ap fs ln fo fa wr 0 140 hp) gX8_safe_X8_copy rfl (by decide +kernel) ⟨Nat.le_trans (Nat.le_of_ble_eq_true rfl) hRf, Nat.le_trans (Nat.le_of_ble_eq_true rfl) hRl⟩ hKK hSS hS hA hP hD [0, 1, 2, 3, 4, 5, 6, 7, 8, 9, 10, 11, 12, 13, 14] (by decide) rfl rfl rfl 0 rfl rfl hl.1 rfl (Nat.le_of_ble_eq_true rfl) dX8_safe_5) hP hD hS hA [0, 1, 2, 3, 4, 5, 6, 7, 8, 9, 10, 11, 12, 13, 14] [] [0, 1, 2, 3, 4, 5, 6, 7, 8, 9, 10, 11, 12, 13, 14] rfl rfl (by decide) (by decide) (by decide) (fun _ => rfl) (fun  u H locs hw hP hD hS => ?_)
  obtain ⟨mw2_2, rfl⟩ : ∃ z, z = u := ⟨_, rfl⟩
  have hP : va_P G.1 vwCl [(m0, .inr (8, [.ref m1, .ref m2, .ref m3, .ref m4, .ref m5, .ref m6, .ref m7, .ref m8, .ref m9, .int fu, .int fd, .int fi, .int nu, .int nw, .int nf, .int bf, .int bn, .ref m10, .int ts, .int ap, .int fs, .int ln, .int fo, .int fa, .ref m11, .ref m12, .ref m13, .ref m14, .int wr])), aJ G m1 560 mw2_2, aZ G m2 2 ik, aI G m3 20 zs, aI G m4 20 cl, aI G m5 20 hs, aI G m6 20 ks, aI G m7 20 wa, aI G m8 20 ne, aI G m9 4 mn, aI G m10 400 tx, aI G m11 6 th, aI G m12 6 od, aI G m13 30 bk, aI G m14 30 bh] H := hP
  have hD : va_D A [(m0, .inr (8, [.ref m1, .ref m2, .ref m3, .ref m4, .ref m5, .ref m6, .ref m7, .ref m8, .ref m9, .int fu, .int fd, .int fi, .int nu, .int nw, .int nf, .int bf, .int bn, .ref m10, .int ts, .int ap, .int fs, .int ln, .int fo, .int fa, .ref m11, .ref m12, .ref m13, .ref m14, .int wr])), aJ G m1 560 mw2_2, aZ G m2 2 ik, aI G m3 20 zs, aI G m4 20 cl, aI G m5 20 hs, aI G m6 20 ks, aI G m7 20 wa, aI G m8 20 ne, aI G m9 4 mn, aI G m10 400 tx, aI G m11 6 th, aI G m12 6 od, aI G m13 30 bk, aI G m14 30 bh] := hD
  have hv := hv mw2_2 hw
  refine lv_iconst (v := 0) hx hb dX8_safe_8 (by decide) ?_
  refine lv_istore_n (lv' := [(1, .int 0), (0, .ref m0)]) hx hb dX8_safe_9 rfl hl (by decide) rfl (fun ls hl => ?_)
  obtain ⟨I10_5, μ10_6, hi0, hs_13⟩ := hv
  have Lm_15 : ∀ (n_14 : Nat) (fm1_3 : (Nat → Int64)) (x1_4 : Int32) (H : Heap) (locs : List Loc) (ls : Array Slot), μ10_6 fm1_3 x1_4 < n_14 → I10_5 fm1_3 x1_4 → va_P G.1 vwCl [(m0, .inr (8, [.ref m1, .ref m2, .ref m3, .ref m4, .ref m5, .ref m6, .ref m7, .ref m8, .ref m9, .int fu, .int fd, .int fi, .int nu, .int nw, .int nf, .int bf, .int bn, .ref m10, .int ts, .int ap, .int fs, .int ln, .int fo, .int fa, .ref m11, .ref m12, .ref m13, .ref m14, .int wr])), aJ G m1 560 fm1_3, aZ G m2 2 ik, aI G m3 20 zs, aI G m4 20 cl, aI G m5 20 hs, aI G m6 20 ks, aI G m7 20 wa, aI G m8 20 ne, aI G m9 4 mn, aI G m10 400 tx, aI G m11 6 th, aI G m12 6 od, aI G m13 30 bk, aI G m14 30 bh] H → va_D A [(m0, .inr (8, [.ref m1, .ref m2, .ref m3, .ref m4, .ref m5, .ref m6, .ref m7, .ref m8, .ref m9, .int fu, .int fd, .int fi, .int nu, .int nw, .int nf, .int bf, .int bn, .ref m10, .int ts, .int ap, .int fs, .int ln, .int fo, .int fa, .ref m11, .ref m12, .ref m13, .ref m14, .int wr])), aJ G m1 560 fm1_3, aZ G m2 2 ik, aI G m3 20 zs, aI G m4 20 cl, aI G m5 20 hs, aI G m6 20 ks, aI G m7 20 wa, aI G m8 20 ne, aI G m9 4 mn, aI G m10 400 tx, aI G m11 6 th, aI G m12 6 od, aI G m13 30 bk, aI G m14 30 bh] → va_S A s.heap H locs → lv_has ls 2 [(1, .int x1_4), (0, .ref m0)] → W p l e R s m args below meth c H locs 0 0 Q (F0 m 10 ls []) := by
    intro n_14
    induction n_14 with
    | zero => intro fm1_3 x1_4 H locs ls hm; exact absurd hm (Nat.not_lt_zero _)
    | succ n_14 ih_7 =>
      intro fm1_3 x1_4 H locs ls hI_8 hi hP hD hS hl
      have hv := hs_13 fm1_3 x1_4 hi
      refine lv_iload_n hx hb dX8_safe_10 rfl (lv_at hl 0 rfl) ?_
      refine lv_sipush (v := 999) hx hb dX8_safe_11 (by decide) ?_
      refine lv_icmp_ge (tgt := 33) hx hb dX8_safe_14 (by decide) (fun hc_9 => ?_) (fun hc_9 => ?_)
      · have hv := hv.1 hc_9
        refine lv_iload_n hx hb dX8_safe_33 rfl (lv_at hl 0 rfl) ?_
        exact x_iret (v := x1_4) fm1_3 hQ hx hb hr hlocks hS dX8_safe_34 hv hP hD
      · have hv := hv.2 hc_9
        refine lv_aload_n hx hb dX8_safe_17 rfl (lv_at hl 1 rfl) ?_
        refine lv_sipush (v := 140) hx hb dX8_safe_18 (by decide) ?_
        obtain ⟨hp, hv⟩ := hv
        refine x_calli (wr := []) (w' := fun (u : (Nat → Int64)) => [(m0, .inr (8, [.ref m1, .ref m2, .ref m3, .ref m4, .ref m5, .ref m6, .ref m7, .ref m8, .ref m9, .int fu, .int fd, .int fi, .int nu, .int nw, .int nf, .int bf, .int bn, .ref m10, .int ts, .int ap, .int fs, .int ln, .int fo, .int fa, .ref m11, .ref m12, .ref m13, .ref m14, .int wr])), aJ G m1 560 u, aZ G m2 2 ik, aI G m3 20 zs, aI G m4 20 cl, aI G m5 20 hs, aI G m6 20 ks, aI G m7 20 wa, aI G m8 20 ne, aI G m9 4 mn, aI G m10 400 tx, aI G m11 6 th, aI G m12 6 od, aI G m13 30 bk, aI G m14 30 bh]) (x_runV (As := [.int 140]) (rest := []) (n := 1) (C := RX8) (ci := 8) ⟨hx, hb, hml, hown, hts⟩ (k_X8_pass l G m0 m1 m2 m3 m4 m5 m6 m7 m8 m9 m10 m11 m12 m13 m14 _ fm1_3 ik zs cl hs ks wa ne mn tx th od bk bh fu fd fi nu nw nf bf bn ts ap fs ln fo fa wr 140 hp) gX8_safe_X8_pass rfl (by decide +kernel) ⟨Nat.le_trans (Nat.le_of_ble_eq_true rfl) hRf, Nat.le_trans (Nat.le_of_ble_eq_true rfl) hRl⟩ hKK hSS hS hA hP hD [0, 1, 2, 3, 4, 5, 6, 7, 8, 9, 10, 11, 12, 13, 14] (by decide) rfl rfl rfl 0 rfl rfl hl.1 rfl (Nat.le_of_ble_eq_true rfl) dX8_safe_21) hP hD hS hA [0, 1, 2, 3, 4, 5, 6, 7, 8, 9, 10, 11, 12, 13, 14] [] [0, 1, 2, 3, 4, 5, 6, 7, 8, 9, 10, 11, 12, 13, 14] rfl rfl (by decide) (by decide) (by decide) (fun _ => rfl) (fun r_10 u H locs hw hP hD hS => ?_)
        obtain ⟨mw2_11, rfl⟩ : ∃ z, z = u := ⟨_, rfl⟩
        have hP : va_P G.1 vwCl [(m0, .inr (8, [.ref m1, .ref m2, .ref m3, .ref m4, .ref m5, .ref m6, .ref m7, .ref m8, .ref m9, .int fu, .int fd, .int fi, .int nu, .int nw, .int nf, .int bf, .int bn, .ref m10, .int ts, .int ap, .int fs, .int ln, .int fo, .int fa, .ref m11, .ref m12, .ref m13, .ref m14, .int wr])), aJ G m1 560 mw2_11, aZ G m2 2 ik, aI G m3 20 zs, aI G m4 20 cl, aI G m5 20 hs, aI G m6 20 ks, aI G m7 20 wa, aI G m8 20 ne, aI G m9 4 mn, aI G m10 400 tx, aI G m11 6 th, aI G m12 6 od, aI G m13 30 bk, aI G m14 30 bh] H := hP
        have hD : va_D A [(m0, .inr (8, [.ref m1, .ref m2, .ref m3, .ref m4, .ref m5, .ref m6, .ref m7, .ref m8, .ref m9, .int fu, .int fd, .int fi, .int nu, .int nw, .int nf, .int bf, .int bn, .ref m10, .int ts, .int ap, .int fs, .int ln, .int fo, .int fa, .ref m11, .ref m12, .ref m13, .ref m14, .int wr])), aJ G m1 560 mw2_11, aZ G m2 2 ik, aI G m3 20 zs, aI G m4 20 cl, aI G m5 20 hs, aI G m6 20 ks, aI G m7 20 wa, aI G m8 20 ne, aI G m9 4 mn, aI G m10 400 tx, aI G m11 6 th, aI G m12 6 od, aI G m13 30 bk, aI G m14 30 bh] := hD
        have hv := hv r_10 mw2_11 hw
        refine lv_if_ne (tgt := 33) hx hb dX8_safe_24 (by decide) (fun hc_12 => ?_) (fun hc_12 => ?_)
        · have hv := hv.1 hc_12
          refine lv_iload_n hx hb dX8_safe_33 rfl (lv_at hl 0 rfl) ?_
          exact x_iret (v := x1_4) mw2_11 hQ hx hb hr hlocks hS dX8_safe_34 hv hP hD
        · have hv := hv.2 hc_12
          refine lv_iinc (v := (x1_4 + 1)) (lv' := [(1, .int (x1_4 + 1)), (0, .ref m0)]) hx hb dX8_safe_27 hl (k := 0) rfl rfl (by decide) rfl (fun ls hl => ?_)
          refine lv_goto (tgt := 10) hx hb dX8_safe_30 (by decide) ?_
          exact ih_7 _ _ _ _ _ (Nat.lt_of_lt_of_le hv.2 (Nat.le_of_lt_succ hI_8)) hv.1 hP hD hS hl
  exact Lm_15 _ _ _ _ _ _ (Nat.lt_succ_self _) hi0 hP hD hS hl
theorem k_X8_safe (l : Launch) (G : Gt) (m0 m1 m2 m3 m4 m5 m6 m7 m8 m9 m10 m11 m12 m13 m14 : Nat) (sz : Nat) (mw : Nat → Int64) (ik : Nat → Int32) (zs : Nat → Int32) (cl : Nat → Int32) (hs : Nat → Int32) (ks : Nat → Int32) (wa : Nat → Int32) (ne : Nat → Int32) (mn : Nat → Int32) (tx : Nat → Int32) (th : Nat → Int32) (od : Nat → Int32) (bk : Nat → Int32) (bh : Nat → Int32) (fu : Int32) (fd : Int32) (fi : Int32) (nu : Int32) (nw : Int32) (nf : Int32) (bf : Int32) (bn : Int32) (ts : Int32) (ap : Int32) (fs : Int32) (ln : Int32) (fo : Int32) (fa : Int32) (wr : Int32) (hp : True) : MetI l yX8_safe wsX8_safe 4 101 G [.ref m0] [(m0, .inr (8, [.ref m1, .ref m2, .ref m3, .ref m4, .ref m5, .ref m6, .ref m7, .ref m8, .ref m9, .int fu, .int fd, .int fi, .int nu, .int nw, .int nf, .int bf, .int bn, .ref m10, .int ts, .int ap, .int fs, .int ln, .int fo, .int fa, .ref m11, .ref m12, .ref m13, .ref m14, .int wr])), aJ G m1 560 mw, aZ G m2 2 ik, aI G m3 20 zs, aI G m4 20 cl, aI G m5 20 hs, aI G m6 20 ks, aI G m7 20 wa, aI G m8 20 ne, aI G m9 4 mn, aI G m10 400 tx, aI G m11 6 th, aI G m12 6 od, aI G m13 30 bk, aI G m14 30 bh] sz (fun (r : Int32) (u : (Nat → Int64)) => True) (fun (u : (Nat → Int64)) => [(m0, .inr (8, [.ref m1, .ref m2, .ref m3, .ref m4, .ref m5, .ref m6, .ref m7, .ref m8, .ref m9, .int fu, .int fd, .int fi, .int nu, .int nw, .int nf, .int bf, .int bn, .ref m10, .int ts, .int ap, .int fs, .int ln, .int fo, .int fa, .ref m11, .ref m12, .ref m13, .ref m14, .int wr])), aJ G m1 560 u, aZ G m2 2 ik, aI G m3 20 zs, aI G m4 20 cl, aI G m5 20 hs, aI G m6 20 ks, aI G m7 20 wa, aI G m8 20 ne, aI G m9 4 mn, aI G m10 400 tx, aI G m11 6 th, aI G m12 6 od, aI G m13 30 bk, aI G m14 30 bh]) :=
  c_X8_safe l G m0 m1 m2 m3 m4 m5 m6 m7 m8 m9 m10 m11 m12 m13 m14 sz mw ik zs cl hs ks wa ne mn tx th od bk bh fu fd fi nu nw nf bf bn ts ap fs ln fo fa wr (by
    sorry)

set_option maxHeartbeats 4000000 in
set_option maxRecDepth 100000 in
theorem c_X8_write (l : Launch) (G : Gt) (m0 m1 m2 m3 m4 m5 m6 m7 m8 m9 m10 m11 m12 m13 m14 : Nat) (sz : Nat) (mw : Nat → Int64) (ik : Nat → Int32) (zs : Nat → Int32) (cl : Nat → Int32) (hs : Nat → Int32) (ks : Nat → Int32) (wa : Nat → Int32) (ne : Nat → Int32) (mn : Nat → Int32) (tx : Nat → Int32) (th : Nat → Int32) (od : Nat → Int32) (bk : Nat → Int32) (bh : Nat → Int32) (fu : Int32) (fd : Int32) (fi : Int32) (nu : Int32) (nw : Int32) (nf : Int32) (bf : Int32) (bn : Int32) (ts : Int32) (ap : Int32) (fs : Int32) (ln : Int32) (fo : Int32) (fa : Int32) (wr : Int32) (x : Int32) (y : Int32) (hv : (True) ∧ (∀ (r_1 : Int32), (True) → ((¬ r_1 = 0 → (¬ y.toInt64 < 0 ∧ ¬ 9999 < y.toInt64 → (¬ wr = 30 → (vp_in wr 30) ∧ ((vp_in wr 30) ∧ (True))) ∧ (wr = 30 → True)) ∧ (¬ (¬ y.toInt64 < 0 ∧ ¬ 9999 < y.toInt64) → True)) ∧ (r_1 = 0 → True)))) : MetI l yX8_write wsX8_write 2 46 G [.ref m0, .int x, .int y] [(m0, .inr (8, [.ref m1, .ref m2, .ref m3, .ref m4, .ref m5, .ref m6, .ref m7, .ref m8, .ref m9, .int fu, .int fd, .int fi, .int nu, .int nw, .int nf, .int bf, .int bn, .ref m10, .int ts, .int ap, .int fs, .int ln, .int fo, .int fa, .ref m11, .ref m12, .ref m13, .ref m14, .int wr])), aJ G m1 560 mw, aZ G m2 2 ik, aI G m3 20 zs, aI G m4 20 cl, aI G m5 20 hs, aI G m6 20 ks, aI G m7 20 wa, aI G m8 20 ne, aI G m9 4 mn, aI G m10 400 tx, aI G m11 6 th, aI G m12 6 od, aI G m13 30 bk, aI G m14 30 bh] sz (fun (r : Int32) (u : (Nat → Int32) × (Nat → Int32) × (Int32)) => True) (fun (u : (Nat → Int32) × (Nat → Int32) × (Int32)) => [(m0, .inr (8, [.ref m1, .ref m2, .ref m3, .ref m4, .ref m5, .ref m6, .ref m7, .ref m8, .ref m9, .int fu, .int fd, .int fi, .int nu, .int nw, .int nf, .int bf, .int bn, .ref m10, .int ts, .int ap, .int fs, .int ln, .int fo, .int fa, .ref m11, .ref m12, .ref m13, .ref m14, .int u.2.2])), aJ G m1 560 mw, aZ G m2 2 ik, aI G m3 20 zs, aI G m4 20 cl, aI G m5 20 hs, aI G m6 20 ks, aI G m7 20 wa, aI G m8 20 ne, aI G m9 4 mn, aI G m10 400 tx, aI G m11 6 th, aI G m12 6 od, aI G m13 30 u.1, aI G m14 30 u.2.1]) := by
  refine x_startI (cc := cX8_write) (maxL := 3) (ret := (some .int)) (by decide) rfl (Nat.le_of_ble_eq_true rfl) ?_
  intro p e s m args below meth c A R Q ls hRf hRl hQ C hP hD hS hA hSS hl
  obtain ⟨hx, hb, hr, hml, hown, hts, hlocks, hKK⟩ := C
  have hown : s.vm.findClass RX8 = some m.cls := hown
  have hl : lv_has ls 3 [(0, .ref m0), (1, .int x), (2, .int y)] := hl
  have hinX8 : ∀ w ∈ u_ws RX8 TX8 29, w ∈ wsX8_write := by decide +kernel
  have kl149 := hts (.fieldLink RX8 149 "WarmStonesModel" "written" "I") (by decide +kernel)
  have kl164 := hts (.constant RX8 164 (-1000000001)) (by decide +kernel)
  have kl222 := hts (.constantLong RX8 222 (9999)) (by decide +kernel)
  have kl58 := hts (.fieldLink RX8 58 "WarmStonesModel" "bookStone" "[I") (by decide +kernel)
  have kl61 := hts (.fieldLink RX8 61 "WarmStonesModel" "bookHeat" "[I") (by decide +kernel)
  have kl73 := hts (.constant RX8 73 (-1000000002)) (by decide +kernel)
  have kl77 := hts (.constant RX8 77 (-1000000004)) (by decide +kernel)
  refine lv_aload_n hx hb dX8_write_0 rfl (lv_at hl 0 rfl) ?_
  refine lv_iload_n hx hb dX8_write_1 rfl (lv_at hl 1 rfl) ?_
  obtain ⟨hp, hv⟩ := hv
  refine x_calliR (x_runV (As := [.int x]) (rest := []) (n := 1) (C := RX8) (ci := 8) ⟨hx, hb, hml, hown, hts⟩ (k_X8_isStone l G m0 m1 m2 m3 m4 m5 m6 m7 m8 m9 m10 m11 m12 m13 m14 _ mw ik zs cl hs ks wa ne mn tx th od bk bh fu fd fi nu nw nf bf bn ts ap fs ln fo fa wr x hp) gX8_write_X8_isStone rfl (by decide +kernel) ⟨Nat.le_trans (Nat.le_of_ble_eq_true rfl) hRf, Nat.le_trans (Nat.le_of_ble_eq_true rfl) hRl⟩ hKK hSS hS hA hP hD [0, 1, 2, 3, 4, 5, 6, 7, 8, 9, 10, 11, 12, 13, 14] (by decide) rfl rfl rfl 0 rfl rfl hl.1 rfl (Nat.le_of_ble_eq_true rfl) dX8_write_2) hP hD hS hA [0, 1, 2, 3, 4, 5, 6, 7, 8, 9, 10, 11, 12, 13, 14] rfl (fun r_1 _ H locs hw hP hS => ?_)
  have hv := hv r_1 hw
  refine lv_if_ne (tgt := 11) hx hb dX8_write_5 (by decide) (fun hc_2 => ?_) (fun hc_2 => ?_)
  · have hv := hv.1 hc_2
    refine lv_iload_n hx hb dX8_write_11 rfl (lv_at hl 2 rfl) ?_
    refine lv_i2l hx hb dX8_write_12 rfl ?_
    refine lv_lconst (v := 0) hx hb dX8_write_13 (by decide) ?_
    refine lv_ldc2 (v := 9999) hx hb hown kl222 dX8_write_14 ?_
    refine x_calliR (x_runS (As := [.long y.toInt64, .long 0, .long 9999]) (rest := []) (n := 3) ⟨hx, hb, hml, hown, hts⟩ (k_X8_in l G  _ y.toInt64 0 9999) gX8_write_X8_in rfl (by decide +kernel) ⟨Nat.le_trans (Nat.le_of_ble_eq_true rfl) hRf, Nat.le_trans (Nat.le_of_ble_eq_true rfl) hRl⟩ hKK hSS hS hA hP hD [] (by decide) rfl rfl hl.1 rfl (Nat.le_of_ble_eq_true rfl) dX8_write_17) hP hD hS hA [] rfl (fun r_3 _ H locs hw hP hS => ?_)
    replace hw := hw.symm; subst hw
    refine lv_if_ne (tgt := 26) hx hb dX8_write_20 (by decide) (fun hc_4 => ?_) (fun hc_4 => ?_)
    · have hv := hv.1 (tv_eqn.mp hc_4)
      refine lv_aload_n hx hb dX8_write_26 rfl (lv_at hl 0 rfl) ?_
      refine va_get (D := G.1) (ci := 8) (v := .int wr) (C := RX8) (T := TX8) (N := 29) hx hb hts hinX8 hown hKK.1 hP 0 rfl rfl 28 (by decide) kl149 (fun _ h9 => h9) rfl dX8_write_27 ?_
      refine lv_bipush (v := 30) hx hb dX8_write_30 (by decide) ?_
      refine lv_icmp_ne (tgt := 38) hx hb dX8_write_32 (by decide) (fun hc_5 => ?_) (fun hc_5 => ?_)
      · have hv := hv.1 hc_5
        refine lv_aload_n hx hb dX8_write_38 rfl (lv_at hl 0 rfl) ?_
        refine va_get (D := G.1) (ci := 8) (v := .ref m13) (C := RX8) (T := TX8) (N := 29) hx hb hts hinX8 hown hKK.1 hP 0 rfl rfl 26 (by decide) kl58 (fun _ h9 => h9) rfl dX8_write_39 ?_
        refine lv_aload_n hx hb dX8_write_42 rfl (lv_at hl 0 rfl) ?_
        refine va_get (D := G.1) (ci := 8) (v := .int wr) (C := RX8) (T := TX8) (N := 29) hx hb hts hinX8 hown hKK.1 hP 0 rfl rfl 28 (by decide) kl149 (fun _ h9 => h9) rfl dX8_write_43 ?_
        refine lv_iload_n hx hb dX8_write_46 rfl (lv_at hl 1 rfl) ?_
        obtain ⟨hin, hv⟩ := hv
        refine va_iast hx hb hKK.1 hP hD hS 13 0 rfl rfl hin dX8_write_47 (fun H locs hP hD hS => ?_)
        have hP : va_P G.1 vwCl [(m0, .inr (8, [.ref m1, .ref m2, .ref m3, .ref m4, .ref m5, .ref m6, .ref m7, .ref m8, .ref m9, .int fu, .int fd, .int fi, .int nu, .int nw, .int nf, .int bf, .int bn, .ref m10, .int ts, .int ap, .int fs, .int ln, .int fo, .int fa, .ref m11, .ref m12, .ref m13, .ref m14, .int wr])), aJ G m1 560 mw, aZ G m2 2 ik, aI G m3 20 zs, aI G m4 20 cl, aI G m5 20 hs, aI G m6 20 ks, aI G m7 20 wa, aI G m8 20 ne, aI G m9 4 mn, aI G m10 400 tx, aI G m11 6 th, aI G m12 6 od, aI G m13 30 (upd bk wr.toNatClampNeg x), aI G m14 30 bh] H := hP
        have hD : va_D A [(m0, .inr (8, [.ref m1, .ref m2, .ref m3, .ref m4, .ref m5, .ref m6, .ref m7, .ref m8, .ref m9, .int fu, .int fd, .int fi, .int nu, .int nw, .int nf, .int bf, .int bn, .ref m10, .int ts, .int ap, .int fs, .int ln, .int fo, .int fa, .ref m11, .ref m12, .ref m13, .ref m14, .int wr])), aJ G m1 560 mw, aZ G m2 2 ik, aI G m3 20 zs, aI G m4 20 cl, aI G m5 20 hs, aI G m6 20 ks, aI G m7 20 wa, aI G m8 20 ne, aI G m9 4 mn, aI G m10 400 tx, aI G m11 6 th, aI G m12 6 od, aI G m13 30 (upd bk wr.toNatClampNeg x), aI G m14 30 bh] := hD
        refine lv_aload_n hx hb dX8_write_48 rfl (lv_at hl 0 rfl) ?_
        refine va_get (D := G.1) (ci := 8) (v := .ref m14) (C := RX8) (T := TX8) (N := 29) hx hb hts hinX8 hown hKK.1 hP 0 rfl rfl 27 (by decide) kl61 (fun _ h9 => h9) rfl dX8_write_49 ?_
        refine lv_aload_n hx hb dX8_write_52 rfl (lv_at hl 0 rfl) ?_
        refine va_get (D := G.1) (ci := 8) (v := .int wr) (C := RX8) (T := TX8) (N := 29) hx hb hts hinX8 hown hKK.1 hP 0 rfl rfl 28 (by decide) kl149 (fun _ h9 => h9) rfl dX8_write_53 ?_
        refine lv_iload_n hx hb dX8_write_56 rfl (lv_at hl 2 rfl) ?_
        obtain ⟨hin, hv⟩ := hv
        refine va_iast hx hb hKK.1 hP hD hS 14 0 rfl rfl hin dX8_write_57 (fun H locs hP hD hS => ?_)
        have hP : va_P G.1 vwCl [(m0, .inr (8, [.ref m1, .ref m2, .ref m3, .ref m4, .ref m5, .ref m6, .ref m7, .ref m8, .ref m9, .int fu, .int fd, .int fi, .int nu, .int nw, .int nf, .int bf, .int bn, .ref m10, .int ts, .int ap, .int fs, .int ln, .int fo, .int fa, .ref m11, .ref m12, .ref m13, .ref m14, .int wr])), aJ G m1 560 mw, aZ G m2 2 ik, aI G m3 20 zs, aI G m4 20 cl, aI G m5 20 hs, aI G m6 20 ks, aI G m7 20 wa, aI G m8 20 ne, aI G m9 4 mn, aI G m10 400 tx, aI G m11 6 th, aI G m12 6 od, aI G m13 30 (upd bk wr.toNatClampNeg x), aI G m14 30 (upd bh wr.toNatClampNeg y)] H := hP
        have hD : va_D A [(m0, .inr (8, [.ref m1, .ref m2, .ref m3, .ref m4, .ref m5, .ref m6, .ref m7, .ref m8, .ref m9, .int fu, .int fd, .int fi, .int nu, .int nw, .int nf, .int bf, .int bn, .ref m10, .int ts, .int ap, .int fs, .int ln, .int fo, .int fa, .ref m11, .ref m12, .ref m13, .ref m14, .int wr])), aJ G m1 560 mw, aZ G m2 2 ik, aI G m3 20 zs, aI G m4 20 cl, aI G m5 20 hs, aI G m6 20 ks, aI G m7 20 wa, aI G m8 20 ne, aI G m9 4 mn, aI G m10 400 tx, aI G m11 6 th, aI G m12 6 od, aI G m13 30 (upd bk wr.toNatClampNeg x), aI G m14 30 (upd bh wr.toNatClampNeg y)] := hD
        refine lv_aload_n hx hb dX8_write_58 rfl (lv_at hl 0 rfl) ?_
        refine lv_dup hx hb dX8_write_59 rfl ?_
        refine va_get (D := G.1) (ci := 8) (v := .int wr) (C := RX8) (T := TX8) (N := 29) hx hb hts hinX8 hown hKK.1 hP 0 rfl rfl 28 (by decide) kl149 (fun _ h9 => h9) rfl dX8_write_60 ?_
        refine lv_iconst (v := 1) hx hb dX8_write_63 (by decide) ?_
        refine lv_iadd hx hb dX8_write_64 ?_
        refine va_put (D := G.1) (ci := 8) (v := .int (wr + 1)) (ty := .int) (C := RX8) (T := TX8) (N := 29) hx hb hts hinX8 tyX8 tyX8_ok nmX8 hown hKK.1 hP hD hS 0 rfl rfl 28 (by decide) kl149 (fun _ h9 => h9) rfl (by decide +kernel) rfl rfl (Nat.le_of_ble_eq_true rfl) dX8_write_65 (fun H locs hP hD hS => ?_)
        have hP : va_P G.1 vwCl [(m0, .inr (8, [.ref m1, .ref m2, .ref m3, .ref m4, .ref m5, .ref m6, .ref m7, .ref m8, .ref m9, .int fu, .int fd, .int fi, .int nu, .int nw, .int nf, .int bf, .int bn, .ref m10, .int ts, .int ap, .int fs, .int ln, .int fo, .int fa, .ref m11, .ref m12, .ref m13, .ref m14, .int (wr + 1)])), aJ G m1 560 mw, aZ G m2 2 ik, aI G m3 20 zs, aI G m4 20 cl, aI G m5 20 hs, aI G m6 20 ks, aI G m7 20 wa, aI G m8 20 ne, aI G m9 4 mn, aI G m10 400 tx, aI G m11 6 th, aI G m12 6 od, aI G m13 30 (upd bk wr.toNatClampNeg x), aI G m14 30 (upd bh wr.toNatClampNeg y)] H := hP
        have hD : va_D A [(m0, .inr (8, [.ref m1, .ref m2, .ref m3, .ref m4, .ref m5, .ref m6, .ref m7, .ref m8, .ref m9, .int fu, .int fd, .int fi, .int nu, .int nw, .int nf, .int bf, .int bn, .ref m10, .int ts, .int ap, .int fs, .int ln, .int fo, .int fa, .ref m11, .ref m12, .ref m13, .ref m14, .int (wr + 1)])), aJ G m1 560 mw, aZ G m2 2 ik, aI G m3 20 zs, aI G m4 20 cl, aI G m5 20 hs, aI G m6 20 ks, aI G m7 20 wa, aI G m8 20 ne, aI G m9 4 mn, aI G m10 400 tx, aI G m11 6 th, aI G m12 6 od, aI G m13 30 (upd bk wr.toNatClampNeg x), aI G m14 30 (upd bh wr.toNatClampNeg y)] := hD
        refine lv_aload_n hx hb dX8_write_68 rfl (lv_at hl 0 rfl) ?_
        refine va_get (D := G.1) (ci := 8) (v := .int (wr + 1)) (C := RX8) (T := TX8) (N := 29) hx hb hts hinX8 hown hKK.1 hP 0 rfl rfl 28 (by decide) kl149 (fun _ h9 => h9) rfl dX8_write_69 ?_
        exact x_iret (v := (wr + 1)) ((upd bk wr.toNatClampNeg x), (upd bh wr.toNatClampNeg y), (wr + 1)) hQ hx hb hr hlocks hS dX8_write_72 hv hP hD
      · have hv := hv.2 hc_5
        refine lv_ldc (v := (-1000000004)) hx hb hown kl77 dX8_write_35 ?_
        exact x_iret (v := (-1000000004)) (bk, bh, wr) hQ hx hb hr hlocks hS dX8_write_37 hv hP hD
    · have hv := hv.2 (tv_eq.mp hc_4)
      refine lv_ldc (v := (-1000000002)) hx hb hown kl73 dX8_write_23 ?_
      exact x_iret (v := (-1000000002)) (bk, bh, wr) hQ hx hb hr hlocks hS dX8_write_25 hv hP hD
  · have hv := hv.2 hc_2
    refine lv_ldc (v := (-1000000001)) hx hb hown kl164 dX8_write_8 ?_
    exact x_iret (v := (-1000000001)) (bk, bh, wr) hQ hx hb hr hlocks hS dX8_write_10 hv hP hD
theorem k_X8_write (l : Launch) (G : Gt) (m0 m1 m2 m3 m4 m5 m6 m7 m8 m9 m10 m11 m12 m13 m14 : Nat) (sz : Nat) (mw : Nat → Int64) (ik : Nat → Int32) (zs : Nat → Int32) (cl : Nat → Int32) (hs : Nat → Int32) (ks : Nat → Int32) (wa : Nat → Int32) (ne : Nat → Int32) (mn : Nat → Int32) (tx : Nat → Int32) (th : Nat → Int32) (od : Nat → Int32) (bk : Nat → Int32) (bh : Nat → Int32) (fu : Int32) (fd : Int32) (fi : Int32) (nu : Int32) (nw : Int32) (nf : Int32) (bf : Int32) (bn : Int32) (ts : Int32) (ap : Int32) (fs : Int32) (ln : Int32) (fo : Int32) (fa : Int32) (wr : Int32) (x : Int32) (y : Int32) (hp : True) : MetI l yX8_write wsX8_write 2 46 G [.ref m0, .int x, .int y] [(m0, .inr (8, [.ref m1, .ref m2, .ref m3, .ref m4, .ref m5, .ref m6, .ref m7, .ref m8, .ref m9, .int fu, .int fd, .int fi, .int nu, .int nw, .int nf, .int bf, .int bn, .ref m10, .int ts, .int ap, .int fs, .int ln, .int fo, .int fa, .ref m11, .ref m12, .ref m13, .ref m14, .int wr])), aJ G m1 560 mw, aZ G m2 2 ik, aI G m3 20 zs, aI G m4 20 cl, aI G m5 20 hs, aI G m6 20 ks, aI G m7 20 wa, aI G m8 20 ne, aI G m9 4 mn, aI G m10 400 tx, aI G m11 6 th, aI G m12 6 od, aI G m13 30 bk, aI G m14 30 bh] sz (fun (r : Int32) (u : (Nat → Int32) × (Nat → Int32) × (Int32)) => True) (fun (u : (Nat → Int32) × (Nat → Int32) × (Int32)) => [(m0, .inr (8, [.ref m1, .ref m2, .ref m3, .ref m4, .ref m5, .ref m6, .ref m7, .ref m8, .ref m9, .int fu, .int fd, .int fi, .int nu, .int nw, .int nf, .int bf, .int bn, .ref m10, .int ts, .int ap, .int fs, .int ln, .int fo, .int fa, .ref m11, .ref m12, .ref m13, .ref m14, .int u.2.2])), aJ G m1 560 mw, aZ G m2 2 ik, aI G m3 20 zs, aI G m4 20 cl, aI G m5 20 hs, aI G m6 20 ks, aI G m7 20 wa, aI G m8 20 ne, aI G m9 4 mn, aI G m10 400 tx, aI G m11 6 th, aI G m12 6 od, aI G m13 30 u.1, aI G m14 30 u.2.1]) :=
  c_X8_write l G m0 m1 m2 m3 m4 m5 m6 m7 m8 m9 m10 m11 m12 m13 m14 sz mw ik zs cl hs ks wa ne mn tx th od bk bh fu fd fi nu nw nf bf bn ts ap fs ln fo fa wr x y (by
    sorry)

set_option maxHeartbeats 4000000 in
set_option maxRecDepth 100000 in
theorem c_X8_tear (l : Launch) (G : Gt) (m0 m1 m2 m3 m4 m5 m6 m7 m8 m9 m10 m11 m12 m13 m14 : Nat) (sz : Nat) (mw : Nat → Int64) (ik : Nat → Int32) (zs : Nat → Int32) (cl : Nat → Int32) (hs : Nat → Int32) (ks : Nat → Int32) (wa : Nat → Int32) (ne : Nat → Int32) (mn : Nat → Int32) (tx : Nat → Int32) (th : Nat → Int32) (od : Nat → Int32) (bk : Nat → Int32) (bh : Nat → Int32) (fu : Int32) (fd : Int32) (fi : Int32) (nu : Int32) (nw : Int32) (nf : Int32) (bf : Int32) (bn : Int32) (ts : Int32) (ap : Int32) (fs : Int32) (ln : Int32) (fo : Int32) (fa : Int32) (wr : Int32) (hv : True) : MetI l yX8_tear wsX8_tear 0 0 G [.ref m0] [(m0, .inr (8, [.ref m1, .ref m2, .ref m3, .ref m4, .ref m5, .ref m6, .ref m7, .ref m8, .ref m9, .int fu, .int fd, .int fi, .int nu, .int nw, .int nf, .int bf, .int bn, .ref m10, .int ts, .int ap, .int fs, .int ln, .int fo, .int fa, .ref m11, .ref m12, .ref m13, .ref m14, .int wr])), aJ G m1 560 mw, aZ G m2 2 ik, aI G m3 20 zs, aI G m4 20 cl, aI G m5 20 hs, aI G m6 20 ks, aI G m7 20 wa, aI G m8 20 ne, aI G m9 4 mn, aI G m10 400 tx, aI G m11 6 th, aI G m12 6 od, aI G m13 30 bk, aI G m14 30 bh] sz (fun (r : Int32) (u : (Int32)) => True) (fun (u : (Int32)) => [(m0, .inr (8, [.ref m1, .ref m2, .ref m3, .ref m4, .ref m5, .ref m6, .ref m7, .ref m8, .ref m9, .int fu, .int fd, .int fi, .int nu, .int nw, .int nf, .int bf, .int bn, .ref m10, .int ts, .int ap, .int fs, .int ln, .int fo, .int fa, .ref m11, .ref m12, .ref m13, .ref m14, .int u])), aJ G m1 560 mw, aZ G m2 2 ik, aI G m3 20 zs, aI G m4 20 cl, aI G m5 20 hs, aI G m6 20 ks, aI G m7 20 wa, aI G m8 20 ne, aI G m9 4 mn, aI G m10 400 tx, aI G m11 6 th, aI G m12 6 od, aI G m13 30 bk, aI G m14 30 bh]) := by
  refine x_startI (cc := cX8_tear) (maxL := 2) (ret := (some .int)) (by decide) rfl (Nat.le_of_ble_eq_true rfl) ?_
  intro p e s m args below meth c A R Q ls hRf hRl hQ C hP hD hS hA hSS hl
  obtain ⟨hx, hb, hr, hml, hown, hts, hlocks, hKK⟩ := C
  have hown : s.vm.findClass RX8 = some m.cls := hown
  have hl : lv_has ls 2 [(0, .ref m0)] := hl
  have hinX8 : ∀ w ∈ u_ws RX8 TX8 29, w ∈ wsX8_tear := by decide +kernel
  have kl149 := hts (.fieldLink RX8 149 "WarmStonesModel" "written" "I") (by decide +kernel)
  refine lv_aload_n hx hb dX8_tear_0 rfl (lv_at hl 0 rfl) ?_
  refine va_get (D := G.1) (ci := 8) (v := .int wr) (C := RX8) (T := TX8) (N := 29) hx hb hts hinX8 hown hKK.1 hP 0 rfl rfl 28 (by decide) kl149 (fun _ h9 => h9) rfl dX8_tear_1 ?_
  refine lv_istore_n (lv' := [(1, .int wr), (0, .ref m0)]) hx hb dX8_tear_4 rfl hl (by decide) rfl (fun ls hl => ?_)
  refine lv_aload_n hx hb dX8_tear_5 rfl (lv_at hl 1 rfl) ?_
  refine lv_iconst (v := 0) hx hb dX8_tear_6 (by decide) ?_
  refine va_put (D := G.1) (ci := 8) (v := .int 0) (ty := .int) (C := RX8) (T := TX8) (N := 29) hx hb hts hinX8 tyX8 tyX8_ok nmX8 hown hKK.1 hP hD hS 0 rfl rfl 28 (by decide) kl149 (fun _ h9 => h9) rfl (by decide +kernel) rfl rfl (Nat.le_of_ble_eq_true rfl) dX8_tear_7 (fun H locs hP hD hS => ?_)
  have hP : va_P G.1 vwCl [(m0, .inr (8, [.ref m1, .ref m2, .ref m3, .ref m4, .ref m5, .ref m6, .ref m7, .ref m8, .ref m9, .int fu, .int fd, .int fi, .int nu, .int nw, .int nf, .int bf, .int bn, .ref m10, .int ts, .int ap, .int fs, .int ln, .int fo, .int fa, .ref m11, .ref m12, .ref m13, .ref m14, .int 0])), aJ G m1 560 mw, aZ G m2 2 ik, aI G m3 20 zs, aI G m4 20 cl, aI G m5 20 hs, aI G m6 20 ks, aI G m7 20 wa, aI G m8 20 ne, aI G m9 4 mn, aI G m10 400 tx, aI G m11 6 th, aI G m12 6 od, aI G m13 30 bk, aI G m14 30 bh] H := hP
  have hD : va_D A [(m0, .inr (8, [.ref m1, .ref m2, .ref m3, .ref m4, .ref m5, .ref m6, .ref m7, .ref m8, .ref m9, .int fu, .int fd, .int fi, .int nu, .int nw, .int nf, .int bf, .int bn, .ref m10, .int ts, .int ap, .int fs, .int ln, .int fo, .int fa, .ref m11, .ref m12, .ref m13, .ref m14, .int 0])), aJ G m1 560 mw, aZ G m2 2 ik, aI G m3 20 zs, aI G m4 20 cl, aI G m5 20 hs, aI G m6 20 ks, aI G m7 20 wa, aI G m8 20 ne, aI G m9 4 mn, aI G m10 400 tx, aI G m11 6 th, aI G m12 6 od, aI G m13 30 bk, aI G m14 30 bh] := hD
  refine lv_iload_n hx hb dX8_tear_10 rfl (lv_at hl 0 rfl) ?_
  exact x_iret (v := wr) 0 hQ hx hb hr hlocks hS dX8_tear_11 hv hP hD
theorem k_X8_tear (l : Launch) (G : Gt) (m0 m1 m2 m3 m4 m5 m6 m7 m8 m9 m10 m11 m12 m13 m14 : Nat) (sz : Nat) (mw : Nat → Int64) (ik : Nat → Int32) (zs : Nat → Int32) (cl : Nat → Int32) (hs : Nat → Int32) (ks : Nat → Int32) (wa : Nat → Int32) (ne : Nat → Int32) (mn : Nat → Int32) (tx : Nat → Int32) (th : Nat → Int32) (od : Nat → Int32) (bk : Nat → Int32) (bh : Nat → Int32) (fu : Int32) (fd : Int32) (fi : Int32) (nu : Int32) (nw : Int32) (nf : Int32) (bf : Int32) (bn : Int32) (ts : Int32) (ap : Int32) (fs : Int32) (ln : Int32) (fo : Int32) (fa : Int32) (wr : Int32) (hp : True) : MetI l yX8_tear wsX8_tear 0 0 G [.ref m0] [(m0, .inr (8, [.ref m1, .ref m2, .ref m3, .ref m4, .ref m5, .ref m6, .ref m7, .ref m8, .ref m9, .int fu, .int fd, .int fi, .int nu, .int nw, .int nf, .int bf, .int bn, .ref m10, .int ts, .int ap, .int fs, .int ln, .int fo, .int fa, .ref m11, .ref m12, .ref m13, .ref m14, .int wr])), aJ G m1 560 mw, aZ G m2 2 ik, aI G m3 20 zs, aI G m4 20 cl, aI G m5 20 hs, aI G m6 20 ks, aI G m7 20 wa, aI G m8 20 ne, aI G m9 4 mn, aI G m10 400 tx, aI G m11 6 th, aI G m12 6 od, aI G m13 30 bk, aI G m14 30 bh] sz (fun (r : Int32) (u : (Int32)) => True) (fun (u : (Int32)) => [(m0, .inr (8, [.ref m1, .ref m2, .ref m3, .ref m4, .ref m5, .ref m6, .ref m7, .ref m8, .ref m9, .int fu, .int fd, .int fi, .int nu, .int nw, .int nf, .int bf, .int bn, .ref m10, .int ts, .int ap, .int fs, .int ln, .int fo, .int fa, .ref m11, .ref m12, .ref m13, .ref m14, .int u])), aJ G m1 560 mw, aZ G m2 2 ik, aI G m3 20 zs, aI G m4 20 cl, aI G m5 20 hs, aI G m6 20 ks, aI G m7 20 wa, aI G m8 20 ne, aI G m9 4 mn, aI G m10 400 tx, aI G m11 6 th, aI G m12 6 od, aI G m13 30 bk, aI G m14 30 bh]) :=
  c_X8_tear l G m0 m1 m2 m3 m4 m5 m6 m7 m8 m9 m10 m11 m12 m13 m14 sz mw ik zs cl hs ks wa ne mn tx th od bk bh fu fd fi nu nw nf bf bn ts ap fs ln fo fa wr (by
    sorry)

set_option maxHeartbeats 4000000 in
set_option maxRecDepth 100000 in
theorem c_X8_judge (l : Launch) (G : Gt) (m0 m1 m2 m3 m4 m5 m6 m7 m8 m9 m10 m11 m12 m13 m14 : Nat) (sz : Nat) (mw : Nat → Int64) (ik : Nat → Int32) (zs : Nat → Int32) (cl : Nat → Int32) (hs : Nat → Int32) (ks : Nat → Int32) (wa : Nat → Int32) (ne : Nat → Int32) (mn : Nat → Int32) (tx : Nat → Int32) (th : Nat → Int32) (od : Nat → Int32) (bk : Nat → Int32) (bh : Nat → Int32) (fu : Int32) (fd : Int32) (fi : Int32) (nu : Int32) (nw : Int32) (nf : Int32) (bf : Int32) (bn : Int32) (ts : Int32) (ap : Int32) (fs : Int32) (ln : Int32) (fo : Int32) (fa : Int32) (wr : Int32) (hv : (True) ∧ (∀ (mw2_2 : Nat → Int64), (True) → (∃ (I10_5 : (Nat → Int64) → Int32 → Prop) (μ10_6 : (Nat → Int64) → Int32 → Nat), I10_5 mw2_2 0 ∧ (∀ (fm1_3 : (Nat → Int64)) (x1_4 : Int32), I10_5 fm1_3 x1_4 → (wr ≤ x1_4 → True) ∧ (¬ (wr ≤ x1_4) → (vp_in x1_4 30) ∧ ((vp_in (140 + (bk x1_4.toNatClampNeg)) 560) ∧ ((vp_in x1_4 30) ∧ (((fm1_3 (140 + (bk x1_4.toNatClampNeg)).toNatClampNeg) = (bh x1_4.toNatClampNeg).toInt64 → (True) ∧ (∀ (r_11 : Int32) (mw2_12 : Nat → Int64), (True) → (I10_5 mw2_12 (x1_4 + 1) ∧ μ10_6 mw2_12 (x1_4 + 1) < μ10_6 fm1_3 x1_4))) ∧ (¬ ((fm1_3 (140 + (bk x1_4.toNatClampNeg)).toNatClampNeg) = (bh x1_4.toNatClampNeg).toInt64) → True))))))))) : MetI l yX8_judge wsX8_judge 4 101 G [.ref m0] [(m0, .inr (8, [.ref m1, .ref m2, .ref m3, .ref m4, .ref m5, .ref m6, .ref m7, .ref m8, .ref m9, .int fu, .int fd, .int fi, .int nu, .int nw, .int nf, .int bf, .int bn, .ref m10, .int ts, .int ap, .int fs, .int ln, .int fo, .int fa, .ref m11, .ref m12, .ref m13, .ref m14, .int wr])), aJ G m1 560 mw, aZ G m2 2 ik, aI G m3 20 zs, aI G m4 20 cl, aI G m5 20 hs, aI G m6 20 ks, aI G m7 20 wa, aI G m8 20 ne, aI G m9 4 mn, aI G m10 400 tx, aI G m11 6 th, aI G m12 6 od, aI G m13 30 bk, aI G m14 30 bh] sz (fun (r : Int32) (u : (Nat → Int64)) => True) (fun (u : (Nat → Int64)) => [(m0, .inr (8, [.ref m1, .ref m2, .ref m3, .ref m4, .ref m5, .ref m6, .ref m7, .ref m8, .ref m9, .int fu, .int fd, .int fi, .int nu, .int nw, .int nf, .int bf, .int bn, .ref m10, .int ts, .int ap, .int fs, .int ln, .int fo, .int fa, .ref m11, .ref m12, .ref m13, .ref m14, .int wr])), aJ G m1 560 u, aZ G m2 2 ik, aI G m3 20 zs, aI G m4 20 cl, aI G m5 20 hs, aI G m6 20 ks, aI G m7 20 wa, aI G m8 20 ne, aI G m9 4 mn, aI G m10 400 tx, aI G m11 6 th, aI G m12 6 od, aI G m13 30 bk, aI G m14 30 bh]) := by
  refine x_startI (cc := cX8_judge) (maxL := 3) (ret := (some .int)) (by decide) rfl (Nat.le_of_ble_eq_true rfl) ?_
  intro p e s m args below meth c A R Q ls hRf hRl hQ C hP hD hS hA hSS hl
  obtain ⟨hx, hb, hr, hml, hown, hts, hlocks, hKK⟩ := C
  have hown : s.vm.findClass RX8 = some m.cls := hown
  have hl : lv_has ls 3 [(0, .ref m0)] := hl
  have hinX8 : ∀ w ∈ u_ws RX8 TX8 29, w ∈ wsX8_judge := by decide +kernel
  have kl149 := hts (.fieldLink RX8 149 "WarmStonesModel" "written" "I") (by decide +kernel)
  have kl58 := hts (.fieldLink RX8 58 "WarmStonesModel" "bookStone" "[I") (by decide +kernel)
  have kl61 := hts (.fieldLink RX8 61 "WarmStonesModel" "bookHeat" "[I") (by decide +kernel)
  have kl7 := hts (.fieldLink RX8 7 "WarmStonesModel" "w" "[J") (by decide +kernel)
  refine lv_aload_n hx hb dX8_judge_0 rfl (lv_at hl 0 rfl) ?_
  refine lv_iconst (v := 0) hx hb dX8_judge_1 (by decide) ?_
  refine lv_sipush (v := 140) hx hb dX8_judge_2 (by decide) ?_
  obtain ⟨hp, hv⟩ := hv
  refine x_callv (wr := []) (w' := fun (u : (Nat → Int64)) => [(m0, .inr (8, [.ref m1, .ref m2, .ref m3, .ref m4, .ref m5, .ref m6, .ref m7, .ref m8, .ref m9, .int fu, .int fd, .int fi, .int nu, .int nw, .int nf, .int bf, .int bn, .ref m10, .int ts, .int ap, .int fs, .int ln, .int fo, .int fa, .ref m11, .ref m12, .ref m13, .ref m14, .int wr])), aJ G m1 560 u, aZ G m2 2 ik, aI G m3 20 zs, aI G m4 20 cl, aI G m5 20 hs, aI G m6 20 ks, aI G m7 20 wa, aI G m8 20 ne, aI G m9 4 mn, aI G m10 400 tx, aI G m11 6 th, aI G m12 6 od, aI G m13 30 bk, aI G m14 30 bh]) (x_runV (As := [.int 0, .int 140]) (rest := []) (n := 2) (C := RX8) (ci := 8) ⟨hx, hb, hml, hown, hts⟩ (k_X8_copy l G m0 m1 m2 m3 m4 m5 m6 m7 m8 m9 m10 m11 m12 m13 m14 _ mw ik zs cl hs ks wa ne mn tx th od bk bh fu fd fi nu nw nf bf bn ts ap fs ln fo fa wr 0 140 hp) gX8_judge_X8_copy rfl (by decide +kernel) ⟨Nat.le_trans (Nat.le_of_ble_eq_true rfl) hRf, Nat.le_trans (Nat.le_of_ble_eq_true rfl) hRl⟩ hKK hSS hS hA hP hD [0, 1, 2, 3, 4, 5, 6, 7, 8, 9, 10, 11, 12, 13, 14] (by decide) rfl rfl rfl 0 rfl rfl hl.1 rfl (Nat.le_of_ble_eq_true rfl) dX8_judge_5) hP hD hS hA [0, 1, 2, 3, 4, 5, 6, 7, 8, 9, 10, 11, 12, 13, 14] [] [0, 1, 2, 3, 4, 5, 6, 7, 8, 9, 10, 11, 12, 13, 14] rfl rfl (by decide) (by decide) (by decide) (fun _ => rfl) (fun  u H locs hw hP hD hS => ?_)
  obtain ⟨mw2_2, rfl⟩ : ∃ z, z = u := ⟨_, rfl⟩
  have hP : va_P G.1 vwCl [(m0, .inr (8, [.ref m1, .ref m2, .ref m3, .ref m4, .ref m5, .ref m6, .ref m7, .ref m8, .ref m9, .int fu, .int fd, .int fi, .int nu, .int nw, .int nf, .int bf, .int bn, .ref m10, .int ts, .int ap, .int fs, .int ln, .int fo, .int fa, .ref m11, .ref m12, .ref m13, .ref m14, .int wr])), aJ G m1 560 mw2_2, aZ G m2 2 ik, aI G m3 20 zs, aI G m4 20 cl, aI G m5 20 hs, aI G m6 20 ks, aI G m7 20 wa, aI G m8 20 ne, aI G m9 4 mn, aI G m10 400 tx, aI G m11 6 th, aI G m12 6 od, aI G m13 30 bk, aI G m14 30 bh] H := hP
  have hD : va_D A [(m0, .inr (8, [.ref m1, .ref m2, .ref m3, .ref m4, .ref m5, .ref m6, .ref m7, .ref m8, .ref m9, .int fu, .int fd, .int fi, .int nu, .int nw, .int nf, .int bf, .int bn, .ref m10, .int ts, .int ap, .int fs, .int ln, .int fo, .int fa, .ref m11, .ref m12, .ref m13, .ref m14, .int wr])), aJ G m1 560 mw2_2, aZ G m2 2 ik, aI G m3 20 zs, aI G m4 20 cl, aI G m5 20 hs, aI G m6 20 ks, aI G m7 20 wa, aI G m8 20 ne, aI G m9 4 mn, aI G m10 400 tx, aI G m11 6 th, aI G m12 6 od, aI G m13 30 bk, aI G m14 30 bh] := hD
  have hv := hv mw2_2 hw
  refine lv_iconst (v := 0) hx hb dX8_judge_8 (by decide) ?_
  refine lv_istore_n (lv' := [(1, .int 0), (0, .ref m0)]) hx hb dX8_judge_9 rfl hl (by decide) rfl (fun ls hl => ?_)
  obtain ⟨I10_5, μ10_6, hi0, hs_13⟩ := hv
  have Lm_15 : ∀ (n_14 : Nat) (fm1_3 : (Nat → Int64)) (x1_4 : Int32) (H : Heap) (locs : List Loc) (ls : Array Slot), μ10_6 fm1_3 x1_4 < n_14 → I10_5 fm1_3 x1_4 → va_P G.1 vwCl [(m0, .inr (8, [.ref m1, .ref m2, .ref m3, .ref m4, .ref m5, .ref m6, .ref m7, .ref m8, .ref m9, .int fu, .int fd, .int fi, .int nu, .int nw, .int nf, .int bf, .int bn, .ref m10, .int ts, .int ap, .int fs, .int ln, .int fo, .int fa, .ref m11, .ref m12, .ref m13, .ref m14, .int wr])), aJ G m1 560 fm1_3, aZ G m2 2 ik, aI G m3 20 zs, aI G m4 20 cl, aI G m5 20 hs, aI G m6 20 ks, aI G m7 20 wa, aI G m8 20 ne, aI G m9 4 mn, aI G m10 400 tx, aI G m11 6 th, aI G m12 6 od, aI G m13 30 bk, aI G m14 30 bh] H → va_D A [(m0, .inr (8, [.ref m1, .ref m2, .ref m3, .ref m4, .ref m5, .ref m6, .ref m7, .ref m8, .ref m9, .int fu, .int fd, .int fi, .int nu, .int nw, .int nf, .int bf, .int bn, .ref m10, .int ts, .int ap, .int fs, .int ln, .int fo, .int fa, .ref m11, .ref m12, .ref m13, .ref m14, .int wr])), aJ G m1 560 fm1_3, aZ G m2 2 ik, aI G m3 20 zs, aI G m4 20 cl, aI G m5 20 hs, aI G m6 20 ks, aI G m7 20 wa, aI G m8 20 ne, aI G m9 4 mn, aI G m10 400 tx, aI G m11 6 th, aI G m12 6 od, aI G m13 30 bk, aI G m14 30 bh] → va_S A s.heap H locs → lv_has ls 3 [(1, .int x1_4), (0, .ref m0)] → W p l e R s m args below meth c H locs 0 0 Q (F0 m 10 ls []) := by
    intro n_14
    induction n_14 with
    | zero => intro fm1_3 x1_4 H locs ls hm; exact absurd hm (Nat.not_lt_zero _)
    | succ n_14 ih_7 =>
      intro fm1_3 x1_4 H locs ls hI_8 hi hP hD hS hl
      have hv := hs_13 fm1_3 x1_4 hi
      refine lv_iload_n hx hb dX8_judge_10 rfl (lv_at hl 0 rfl) ?_
      refine lv_aload_n hx hb dX8_judge_11 rfl (lv_at hl 1 rfl) ?_
      refine va_get (D := G.1) (ci := 8) (v := .int wr) (C := RX8) (T := TX8) (N := 29) hx hb hts hinX8 hown hKK.1 hP 0 rfl rfl 28 (by decide) kl149 (fun _ h9 => h9) rfl dX8_judge_12 ?_
      refine lv_icmp_ge (tgt := 60) hx hb dX8_judge_15 (by decide) (fun hc_9 => ?_) (fun hc_9 => ?_)
      · have hv := hv.1 hc_9
        refine lv_iconst (v := (-1)) hx hb dX8_judge_60 (by decide) ?_
        exact x_iret (v := (-1)) fm1_3 hQ hx hb hr hlocks hS dX8_judge_61 hv hP hD
      · have hv := hv.2 hc_9
        refine lv_aload_n hx hb dX8_judge_18 rfl (lv_at hl 1 rfl) ?_
        refine va_get (D := G.1) (ci := 8) (v := .ref m1) (C := RX8) (T := TX8) (N := 29) hx hb hts hinX8 hown hKK.1 hP 0 rfl rfl 0 (by decide) kl7 (fun _ h9 => h9) rfl dX8_judge_19 ?_
        refine lv_sipush (v := 140) hx hb dX8_judge_22 (by decide) ?_
        refine lv_aload_n hx hb dX8_judge_25 rfl (lv_at hl 1 rfl) ?_
        refine va_get (D := G.1) (ci := 8) (v := .ref m13) (C := RX8) (T := TX8) (N := 29) hx hb hts hinX8 hown hKK.1 hP 0 rfl rfl 26 (by decide) kl58 (fun _ h9 => h9) rfl dX8_judge_26 ?_
        refine lv_iload_n hx hb dX8_judge_29 rfl (lv_at hl 0 rfl) ?_
        obtain ⟨hin, hv⟩ := hv
        refine va_iald hx hb hKK.1 hP 13 0 rfl rfl hin dX8_judge_30 ?_
        refine lv_iadd hx hb dX8_judge_31 ?_
        obtain ⟨hin, hv⟩ := hv
        refine va_lald hx hb hKK.1 hP 1 2 rfl rfl hin dX8_judge_32 ?_
        refine lv_aload_n hx hb dX8_judge_33 rfl (lv_at hl 1 rfl) ?_
        refine va_get (D := G.1) (ci := 8) (v := .ref m14) (C := RX8) (T := TX8) (N := 29) hx hb hts hinX8 hown hKK.1 hP 0 rfl rfl 27 (by decide) kl61 (fun _ h9 => h9) rfl dX8_judge_34 ?_
        refine lv_iload_n hx hb dX8_judge_37 rfl (lv_at hl 0 rfl) ?_
        obtain ⟨hin, hv⟩ := hv
        refine va_iald hx hb hKK.1 hP 14 0 rfl rfl hin dX8_judge_38 ?_
        refine lv_i2l hx hb dX8_judge_39 rfl ?_
        refine W.lcmp hx hb dX8_judge_40 ?_
        refine lv_if_eq (tgt := 46) hx hb dX8_judge_41 (by decide) (fun hc_10 => ?_) (fun hc_10 => ?_)
        · have hv := hv.1 ((lg_cmp_eq _ _).mp hc_10)
          refine lv_aload_n hx hb dX8_judge_46 rfl (lv_at hl 1 rfl) ?_
          refine lv_sipush (v := 140) hx hb dX8_judge_47 (by decide) ?_
          obtain ⟨hp, hv⟩ := hv
          refine x_calli (wr := []) (w' := fun (u : (Nat → Int64)) => [(m0, .inr (8, [.ref m1, .ref m2, .ref m3, .ref m4, .ref m5, .ref m6, .ref m7, .ref m8, .ref m9, .int fu, .int fd, .int fi, .int nu, .int nw, .int nf, .int bf, .int bn, .ref m10, .int ts, .int ap, .int fs, .int ln, .int fo, .int fa, .ref m11, .ref m12, .ref m13, .ref m14, .int wr])), aJ G m1 560 u, aZ G m2 2 ik, aI G m3 20 zs, aI G m4 20 cl, aI G m5 20 hs, aI G m6 20 ks, aI G m7 20 wa, aI G m8 20 ne, aI G m9 4 mn, aI G m10 400 tx, aI G m11 6 th, aI G m12 6 od, aI G m13 30 bk, aI G m14 30 bh]) (x_runV (As := [.int 140]) (rest := []) (n := 1) (C := RX8) (ci := 8) ⟨hx, hb, hml, hown, hts⟩ (k_X8_pass l G m0 m1 m2 m3 m4 m5 m6 m7 m8 m9 m10 m11 m12 m13 m14 _ fm1_3 ik zs cl hs ks wa ne mn tx th od bk bh fu fd fi nu nw nf bf bn ts ap fs ln fo fa wr 140 hp) gX8_judge_X8_pass rfl (by decide +kernel) ⟨Nat.le_trans (Nat.le_of_ble_eq_true rfl) hRf, Nat.le_trans (Nat.le_of_ble_eq_true rfl) hRl⟩ hKK hSS hS hA hP hD [0, 1, 2, 3, 4, 5, 6, 7, 8, 9, 10, 11, 12, 13, 14] (by decide) rfl rfl rfl 0 rfl rfl hl.1 rfl (Nat.le_of_ble_eq_true rfl) dX8_judge_50) hP hD hS hA [0, 1, 2, 3, 4, 5, 6, 7, 8, 9, 10, 11, 12, 13, 14] [] [0, 1, 2, 3, 4, 5, 6, 7, 8, 9, 10, 11, 12, 13, 14] rfl rfl (by decide) (by decide) (by decide) (fun _ => rfl) (fun r_11 u H locs hw hP hD hS => ?_)
          obtain ⟨mw2_12, rfl⟩ : ∃ z, z = u := ⟨_, rfl⟩
          have hP : va_P G.1 vwCl [(m0, .inr (8, [.ref m1, .ref m2, .ref m3, .ref m4, .ref m5, .ref m6, .ref m7, .ref m8, .ref m9, .int fu, .int fd, .int fi, .int nu, .int nw, .int nf, .int bf, .int bn, .ref m10, .int ts, .int ap, .int fs, .int ln, .int fo, .int fa, .ref m11, .ref m12, .ref m13, .ref m14, .int wr])), aJ G m1 560 mw2_12, aZ G m2 2 ik, aI G m3 20 zs, aI G m4 20 cl, aI G m5 20 hs, aI G m6 20 ks, aI G m7 20 wa, aI G m8 20 ne, aI G m9 4 mn, aI G m10 400 tx, aI G m11 6 th, aI G m12 6 od, aI G m13 30 bk, aI G m14 30 bh] H := hP
          have hD : va_D A [(m0, .inr (8, [.ref m1, .ref m2, .ref m3, .ref m4, .ref m5, .ref m6, .ref m7, .ref m8, .ref m9, .int fu, .int fd, .int fi, .int nu, .int nw, .int nf, .int bf, .int bn, .ref m10, .int ts, .int ap, .int fs, .int ln, .int fo, .int fa, .ref m11, .ref m12, .ref m13, .ref m14, .int wr])), aJ G m1 560 mw2_12, aZ G m2 2 ik, aI G m3 20 zs, aI G m4 20 cl, aI G m5 20 hs, aI G m6 20 ks, aI G m7 20 wa, aI G m8 20 ne, aI G m9 4 mn, aI G m10 400 tx, aI G m11 6 th, aI G m12 6 od, aI G m13 30 bk, aI G m14 30 bh] := hD
          have hv := hv r_11 mw2_12 hw
          refine lv_istore_n (lv' := [(2, .int r_11), (1, .int x1_4), (0, .ref m0)]) hx hb dX8_judge_53 rfl hl (by decide) rfl (fun ls hl => ?_)
          refine lv_iinc (v := (x1_4 + 1)) (lv' := [(1, .int (x1_4 + 1)), (2, .int r_11), (0, .ref m0)]) hx hb dX8_judge_54 hl (k := 1) rfl rfl (by decide) rfl (fun ls hl => ?_)
          refine lv_goto (tgt := 10) hx hb dX8_judge_57 (by decide) ?_
          exact ih_7 _ _ _ _ _ (Nat.lt_of_lt_of_le hv.2 (Nat.le_of_lt_succ hI_8)) hv.1 hP hD hS (lv_sub hl [0, 2] rfl)
        · have hv := hv.2 (fun h => hc_10 ((lg_cmp_eq _ _).mpr h))
          refine lv_iload_n hx hb dX8_judge_44 rfl (lv_at hl 0 rfl) ?_
          exact x_iret (v := x1_4) fm1_3 hQ hx hb hr hlocks hS dX8_judge_45 hv hP hD
  exact Lm_15 _ _ _ _ _ _ (Nat.lt_succ_self _) hi0 hP hD hS hl
theorem k_X8_judge (l : Launch) (G : Gt) (m0 m1 m2 m3 m4 m5 m6 m7 m8 m9 m10 m11 m12 m13 m14 : Nat) (sz : Nat) (mw : Nat → Int64) (ik : Nat → Int32) (zs : Nat → Int32) (cl : Nat → Int32) (hs : Nat → Int32) (ks : Nat → Int32) (wa : Nat → Int32) (ne : Nat → Int32) (mn : Nat → Int32) (tx : Nat → Int32) (th : Nat → Int32) (od : Nat → Int32) (bk : Nat → Int32) (bh : Nat → Int32) (fu : Int32) (fd : Int32) (fi : Int32) (nu : Int32) (nw : Int32) (nf : Int32) (bf : Int32) (bn : Int32) (ts : Int32) (ap : Int32) (fs : Int32) (ln : Int32) (fo : Int32) (fa : Int32) (wr : Int32) (hp : True) : MetI l yX8_judge wsX8_judge 4 101 G [.ref m0] [(m0, .inr (8, [.ref m1, .ref m2, .ref m3, .ref m4, .ref m5, .ref m6, .ref m7, .ref m8, .ref m9, .int fu, .int fd, .int fi, .int nu, .int nw, .int nf, .int bf, .int bn, .ref m10, .int ts, .int ap, .int fs, .int ln, .int fo, .int fa, .ref m11, .ref m12, .ref m13, .ref m14, .int wr])), aJ G m1 560 mw, aZ G m2 2 ik, aI G m3 20 zs, aI G m4 20 cl, aI G m5 20 hs, aI G m6 20 ks, aI G m7 20 wa, aI G m8 20 ne, aI G m9 4 mn, aI G m10 400 tx, aI G m11 6 th, aI G m12 6 od, aI G m13 30 bk, aI G m14 30 bh] sz (fun (r : Int32) (u : (Nat → Int64)) => True) (fun (u : (Nat → Int64)) => [(m0, .inr (8, [.ref m1, .ref m2, .ref m3, .ref m4, .ref m5, .ref m6, .ref m7, .ref m8, .ref m9, .int fu, .int fd, .int fi, .int nu, .int nw, .int nf, .int bf, .int bn, .ref m10, .int ts, .int ap, .int fs, .int ln, .int fo, .int fa, .ref m11, .ref m12, .ref m13, .ref m14, .int wr])), aJ G m1 560 u, aZ G m2 2 ik, aI G m3 20 zs, aI G m4 20 cl, aI G m5 20 hs, aI G m6 20 ks, aI G m7 20 wa, aI G m8 20 ne, aI G m9 4 mn, aI G m10 400 tx, aI G m11 6 th, aI G m12 6 od, aI G m13 30 bk, aI G m14 30 bh]) :=
  c_X8_judge l G m0 m1 m2 m3 m4 m5 m6 m7 m8 m9 m10 m11 m12 m13 m14 sz mw ik zs cl hs ks wa ne mn tx th od bk bh fu fd fi nu nw nf bf bn ts ap fs ln fo fa wr (by
    sorry)

set_option maxHeartbeats 4000000 in
set_option maxRecDepth 100000 in
theorem c_X8_seed (l : Launch) (G : Gt) (m0 m1 m2 m3 m4 m5 m6 m7 m8 m9 m10 m11 m12 m13 m14 : Nat) (sz : Nat) (mw : Nat → Int64) (ik : Nat → Int32) (zs : Nat → Int32) (cl : Nat → Int32) (hs : Nat → Int32) (ks : Nat → Int32) (wa : Nat → Int32) (ne : Nat → Int32) (mn : Nat → Int32) (tx : Nat → Int32) (th : Nat → Int32) (od : Nat → Int32) (bk : Nat → Int32) (bh : Nat → Int32) (fu : Int32) (fd : Int32) (fi : Int32) (nu : Int32) (nw : Int32) (nf : Int32) (bf : Int32) (bn : Int32) (ts : Int32) (ap : Int32) (fs : Int32) (ln : Int32) (fo : Int32) (fa : Int32) (wr : Int32) (x : Int32) (hv : (0 ≤ x → True) ∧ (¬ (0 ≤ x) → True)) : MetI l yX8_seed wsX8_seed 0 0 G [.ref m0, .int x] [(m0, .inr (8, [.ref m1, .ref m2, .ref m3, .ref m4, .ref m5, .ref m6, .ref m7, .ref m8, .ref m9, .int fu, .int fd, .int fi, .int nu, .int nw, .int nf, .int bf, .int bn, .ref m10, .int ts, .int ap, .int fs, .int ln, .int fo, .int fa, .ref m11, .ref m12, .ref m13, .ref m14, .int wr])), aJ G m1 560 mw, aZ G m2 2 ik, aI G m3 20 zs, aI G m4 20 cl, aI G m5 20 hs, aI G m6 20 ks, aI G m7 20 wa, aI G m8 20 ne, aI G m9 4 mn, aI G m10 400 tx, aI G m11 6 th, aI G m12 6 od, aI G m13 30 bk, aI G m14 30 bh] sz (fun (r : Int32) (u : (Nat → Int64)) => True) (fun (u : (Nat → Int64)) => [(m0, .inr (8, [.ref m1, .ref m2, .ref m3, .ref m4, .ref m5, .ref m6, .ref m7, .ref m8, .ref m9, .int fu, .int fd, .int fi, .int nu, .int nw, .int nf, .int bf, .int bn, .ref m10, .int ts, .int ap, .int fs, .int ln, .int fo, .int fa, .ref m11, .ref m12, .ref m13, .ref m14, .int wr])), aJ G m1 560 u, aZ G m2 2 ik, aI G m3 20 zs, aI G m4 20 cl, aI G m5 20 hs, aI G m6 20 ks, aI G m7 20 wa, aI G m8 20 ne, aI G m9 4 mn, aI G m10 400 tx, aI G m11 6 th, aI G m12 6 od, aI G m13 30 bk, aI G m14 30 bh]) := by
  refine x_startI (cc := cX8_seed) (maxL := 3) (ret := (some .int)) (by decide) rfl (Nat.le_of_ble_eq_true rfl) ?_
  intro p e s m args below meth c A R Q ls hRf hRl hQ C hP hD hS hA hSS hl
  obtain ⟨hx, hb, hr, hml, hown, hts, hlocks, hKK⟩ := C
  have hown : s.vm.findClass RX8 = some m.cls := hown
  have hl : lv_has ls 3 [(0, .ref m0), (1, .int x)] := hl
  have hinX8 : ∀ w ∈ u_ws RX8 TX8 29, w ∈ wsX8_seed := by decide +kernel
  have kl7 := hts (.fieldLink RX8 7 "WarmStonesModel" "w" "[J") (by decide +kernel)
  have kl73 := hts (.constant RX8 73 (-1000000002)) (by decide +kernel)
  refine lv_iload_n hx hb dX8_seed_0 rfl (lv_at hl 1 rfl) ?_
  refine lv_if_ge (tgt := 7) hx hb dX8_seed_1 (by decide) (fun hc_1 => ?_) (fun hc_1 => ?_)
  · have hv := hv.1 hc_1
    refine lv_aload_n hx hb dX8_seed_7 rfl (lv_at hl 0 rfl) ?_
    refine va_get (D := G.1) (ci := 8) (v := .ref m1) (C := RX8) (T := TX8) (N := 29) hx hb hts hinX8 hown hKK.1 hP 0 rfl rfl 0 (by decide) kl7 (fun _ h9 => h9) rfl dX8_seed_8 ?_
    refine lv_sipush (v := 133) hx hb dX8_seed_11 (by decide) ?_
    refine va_lald hx hb hKK.1 hP 1 2 rfl rfl (by unfold vp_in; decide) dX8_seed_14 ?_
    refine lv_l2i hx hb dX8_seed_15 rfl ?_
    refine lv_istore_n (lv' := [(2, .int ((mw 133).toInt32)), (0, .ref m0), (1, .int x)]) hx hb dX8_seed_16 rfl hl (by decide) rfl (fun ls hl => ?_)
    refine lv_aload_n hx hb dX8_seed_17 rfl (lv_at hl 1 rfl) ?_
    refine va_get (D := G.1) (ci := 8) (v := .ref m1) (C := RX8) (T := TX8) (N := 29) hx hb hts hinX8 hown hKK.1 hP 0 rfl rfl 0 (by decide) kl7 (fun _ h9 => h9) rfl dX8_seed_18 ?_
    refine lv_sipush (v := 133) hx hb dX8_seed_21 (by decide) ?_
    refine lv_iload_n hx hb dX8_seed_24 rfl (lv_at hl 2 rfl) ?_
    refine lv_i2l hx hb dX8_seed_25 rfl ?_
    refine va_last hx hb hKK.1 hP hD hS 1 2 rfl rfl (by unfold vp_in; decide) dX8_seed_26 (fun H locs hP hD hS => ?_)
    have hP : va_P G.1 vwCl [(m0, .inr (8, [.ref m1, .ref m2, .ref m3, .ref m4, .ref m5, .ref m6, .ref m7, .ref m8, .ref m9, .int fu, .int fd, .int fi, .int nu, .int nw, .int nf, .int bf, .int bn, .ref m10, .int ts, .int ap, .int fs, .int ln, .int fo, .int fa, .ref m11, .ref m12, .ref m13, .ref m14, .int wr])), aJ G m1 560 (vp_updL mw 133 x.toInt64), aZ G m2 2 ik, aI G m3 20 zs, aI G m4 20 cl, aI G m5 20 hs, aI G m6 20 ks, aI G m7 20 wa, aI G m8 20 ne, aI G m9 4 mn, aI G m10 400 tx, aI G m11 6 th, aI G m12 6 od, aI G m13 30 bk, aI G m14 30 bh] H := hP
    have hD : va_D A [(m0, .inr (8, [.ref m1, .ref m2, .ref m3, .ref m4, .ref m5, .ref m6, .ref m7, .ref m8, .ref m9, .int fu, .int fd, .int fi, .int nu, .int nw, .int nf, .int bf, .int bn, .ref m10, .int ts, .int ap, .int fs, .int ln, .int fo, .int fa, .ref m11, .ref m12, .ref m13, .ref m14, .int wr])), aJ G m1 560 (vp_updL mw 133 x.toInt64), aZ G m2 2 ik, aI G m3 20 zs, aI G m4 20 cl, aI G m5 20 hs, aI G m6 20 ks, aI G m7 20 wa, aI G m8 20 ne, aI G m9 4 mn, aI G m10 400 tx, aI G m11 6 th, aI G m12 6 od, aI G m13 30 bk, aI G m14 30 bh] := hD
    refine lv_iload_n hx hb dX8_seed_27 rfl (lv_at hl 0 rfl) ?_
    exact x_iret (v := (mw 133).toInt32) (vp_updL mw 133 x.toInt64) hQ hx hb hr hlocks hS dX8_seed_28 hv hP hD
  · have hv := hv.2 hc_1
    refine lv_ldc (v := (-1000000002)) hx hb hown kl73 dX8_seed_4 ?_
    exact x_iret (v := (-1000000002)) mw hQ hx hb hr hlocks hS dX8_seed_6 hv hP hD
theorem k_X8_seed (l : Launch) (G : Gt) (m0 m1 m2 m3 m4 m5 m6 m7 m8 m9 m10 m11 m12 m13 m14 : Nat) (sz : Nat) (mw : Nat → Int64) (ik : Nat → Int32) (zs : Nat → Int32) (cl : Nat → Int32) (hs : Nat → Int32) (ks : Nat → Int32) (wa : Nat → Int32) (ne : Nat → Int32) (mn : Nat → Int32) (tx : Nat → Int32) (th : Nat → Int32) (od : Nat → Int32) (bk : Nat → Int32) (bh : Nat → Int32) (fu : Int32) (fd : Int32) (fi : Int32) (nu : Int32) (nw : Int32) (nf : Int32) (bf : Int32) (bn : Int32) (ts : Int32) (ap : Int32) (fs : Int32) (ln : Int32) (fo : Int32) (fa : Int32) (wr : Int32) (x : Int32) (hp : True) : MetI l yX8_seed wsX8_seed 0 0 G [.ref m0, .int x] [(m0, .inr (8, [.ref m1, .ref m2, .ref m3, .ref m4, .ref m5, .ref m6, .ref m7, .ref m8, .ref m9, .int fu, .int fd, .int fi, .int nu, .int nw, .int nf, .int bf, .int bn, .ref m10, .int ts, .int ap, .int fs, .int ln, .int fo, .int fa, .ref m11, .ref m12, .ref m13, .ref m14, .int wr])), aJ G m1 560 mw, aZ G m2 2 ik, aI G m3 20 zs, aI G m4 20 cl, aI G m5 20 hs, aI G m6 20 ks, aI G m7 20 wa, aI G m8 20 ne, aI G m9 4 mn, aI G m10 400 tx, aI G m11 6 th, aI G m12 6 od, aI G m13 30 bk, aI G m14 30 bh] sz (fun (r : Int32) (u : (Nat → Int64)) => True) (fun (u : (Nat → Int64)) => [(m0, .inr (8, [.ref m1, .ref m2, .ref m3, .ref m4, .ref m5, .ref m6, .ref m7, .ref m8, .ref m9, .int fu, .int fd, .int fi, .int nu, .int nw, .int nf, .int bf, .int bn, .ref m10, .int ts, .int ap, .int fs, .int ln, .int fo, .int fa, .ref m11, .ref m12, .ref m13, .ref m14, .int wr])), aJ G m1 560 u, aZ G m2 2 ik, aI G m3 20 zs, aI G m4 20 cl, aI G m5 20 hs, aI G m6 20 ks, aI G m7 20 wa, aI G m8 20 ne, aI G m9 4 mn, aI G m10 400 tx, aI G m11 6 th, aI G m12 6 od, aI G m13 30 bk, aI G m14 30 bh]) :=
  c_X8_seed l G m0 m1 m2 m3 m4 m5 m6 m7 m8 m9 m10 m11 m12 m13 m14 sz mw ik zs cl hs ks wa ne mn tx th od bk bh fu fd fi nu nw nf bf bn ts ap fs ln fo fa wr x (by
    sorry)

set_option maxHeartbeats 4000000 in
set_option maxRecDepth 100000 in
theorem c_X8_keep (l : Launch) (G : Gt) (m0 m1 m2 m3 m4 m5 m6 m7 m8 m9 m10 m11 m12 m13 m14 : Nat) (sz : Nat) (mw : Nat → Int64) (ik : Nat → Int32) (zs : Nat → Int32) (cl : Nat → Int32) (hs : Nat → Int32) (ks : Nat → Int32) (wa : Nat → Int32) (ne : Nat → Int32) (mn : Nat → Int32) (tx : Nat → Int32) (th : Nat → Int32) (od : Nat → Int32) (bk : Nat → Int32) (bh : Nat → Int32) (fu : Int32) (fd : Int32) (fi : Int32) (nu : Int32) (nw : Int32) (nf : Int32) (bf : Int32) (bn : Int32) (ts : Int32) (ap : Int32) (fs : Int32) (ln : Int32) (fo : Int32) (fa : Int32) (wr : Int32) (x : Int32) (hv : (¬ x.toInt64 < 0 ∧ ¬ 1 < x.toInt64 → (True) ∧ (∀ (mw2_4 : Nat → Int64), (True) → ((vp_in x 2) ∧ (True)))) ∧ (¬ (¬ x.toInt64 < 0 ∧ ¬ 1 < x.toInt64) → True)) : MetI l yX8_keep wsX8_keep 1 25 G [.ref m0, .int x] [(m0, .inr (8, [.ref m1, .ref m2, .ref m3, .ref m4, .ref m5, .ref m6, .ref m7, .ref m8, .ref m9, .int fu, .int fd, .int fi, .int nu, .int nw, .int nf, .int bf, .int bn, .ref m10, .int ts, .int ap, .int fs, .int ln, .int fo, .int fa, .ref m11, .ref m12, .ref m13, .ref m14, .int wr])), aJ G m1 560 mw, aZ G m2 2 ik, aI G m3 20 zs, aI G m4 20 cl, aI G m5 20 hs, aI G m6 20 ks, aI G m7 20 wa, aI G m8 20 ne, aI G m9 4 mn, aI G m10 400 tx, aI G m11 6 th, aI G m12 6 od, aI G m13 30 bk, aI G m14 30 bh] sz (fun (r : Int32) (u : (Nat → Int64) × (Nat → Int32)) => True) (fun (u : (Nat → Int64) × (Nat → Int32)) => [(m0, .inr (8, [.ref m1, .ref m2, .ref m3, .ref m4, .ref m5, .ref m6, .ref m7, .ref m8, .ref m9, .int fu, .int fd, .int fi, .int nu, .int nw, .int nf, .int bf, .int bn, .ref m10, .int ts, .int ap, .int fs, .int ln, .int fo, .int fa, .ref m11, .ref m12, .ref m13, .ref m14, .int wr])), aJ G m1 560 u.1, aZ G m2 2 u.2, aI G m3 20 zs, aI G m4 20 cl, aI G m5 20 hs, aI G m6 20 ks, aI G m7 20 wa, aI G m8 20 ne, aI G m9 4 mn, aI G m10 400 tx, aI G m11 6 th, aI G m12 6 od, aI G m13 30 bk, aI G m14 30 bh]) := by
  refine x_startI (cc := cX8_keep) (maxL := 2) (ret := (some .int)) (by decide) rfl (Nat.le_of_ble_eq_true rfl) ?_
  intro p e s m args below meth c A R Q ls hRf hRl hQ C hP hD hS hA hSS hl
  obtain ⟨hx, hb, hr, hml, hown, hts, hlocks, hKK⟩ := C
  have hown : s.vm.findClass RX8 = some m.cls := hown
  have hl : lv_has ls 2 [(0, .ref m0), (1, .int x)] := hl
  have hinX8 : ∀ w ∈ u_ws RX8 TX8 29, w ∈ wsX8_keep := by decide +kernel
  have kl13 := hts (.fieldLink RX8 13 "WarmStonesModel" "isKept" "[Z") (by decide +kernel)
  have kl164 := hts (.constant RX8 164 (-1000000001)) (by decide +kernel)
  refine lv_iload_n hx hb dX8_keep_0 rfl (lv_at hl 1 rfl) ?_
  refine lv_i2l hx hb dX8_keep_1 rfl ?_
  refine lv_lconst (v := 0) hx hb dX8_keep_2 (by decide) ?_
  refine lv_lconst (v := 1) hx hb dX8_keep_3 (by decide) ?_
  refine x_calliR (x_runS (As := [.long x.toInt64, .long 0, .long 1]) (rest := []) (n := 3) ⟨hx, hb, hml, hown, hts⟩ (k_X8_in l G  _ x.toInt64 0 1) gX8_keep_X8_in rfl (by decide +kernel) ⟨Nat.le_trans (Nat.le_of_ble_eq_true rfl) hRf, Nat.le_trans (Nat.le_of_ble_eq_true rfl) hRl⟩ hKK hSS hS hA hP hD [] (by decide) rfl rfl hl.1 rfl (Nat.le_of_ble_eq_true rfl) dX8_keep_4) hP hD hS hA [] rfl (fun r_1 _ H locs hw hP hS => ?_)
  replace hw := hw.symm; subst hw
  refine lv_if_ne (tgt := 13) hx hb dX8_keep_7 (by decide) (fun hc_2 => ?_) (fun hc_2 => ?_)
  · have hv := hv.1 (tv_eqn.mp hc_2)
    refine lv_aload_n hx hb dX8_keep_13 rfl (lv_at hl 0 rfl) ?_
    refine lv_iconst (v := 0) hx hb dX8_keep_14 (by decide) ?_
    refine lv_sipush (v := 280) hx hb dX8_keep_15 (by decide) ?_
    refine lv_sipush (v := 140) hx hb dX8_keep_18 (by decide) ?_
    refine lv_iload_n hx hb dX8_keep_21 rfl (lv_at hl 1 rfl) ?_
    refine lv_imul hx hb dX8_keep_22 ?_
    refine lv_iadd hx hb dX8_keep_23 ?_
    obtain ⟨hp, hv⟩ := hv
    refine x_callv (wr := []) (w' := fun (u : (Nat → Int64)) => [(m0, .inr (8, [.ref m1, .ref m2, .ref m3, .ref m4, .ref m5, .ref m6, .ref m7, .ref m8, .ref m9, .int fu, .int fd, .int fi, .int nu, .int nw, .int nf, .int bf, .int bn, .ref m10, .int ts, .int ap, .int fs, .int ln, .int fo, .int fa, .ref m11, .ref m12, .ref m13, .ref m14, .int wr])), aJ G m1 560 u, aZ G m2 2 ik, aI G m3 20 zs, aI G m4 20 cl, aI G m5 20 hs, aI G m6 20 ks, aI G m7 20 wa, aI G m8 20 ne, aI G m9 4 mn, aI G m10 400 tx, aI G m11 6 th, aI G m12 6 od, aI G m13 30 bk, aI G m14 30 bh]) (x_runV (As := [.int 0, .int (280 + (140 * x))]) (rest := []) (n := 2) (C := RX8) (ci := 8) ⟨hx, hb, hml, hown, hts⟩ (k_X8_copy l G m0 m1 m2 m3 m4 m5 m6 m7 m8 m9 m10 m11 m12 m13 m14 _ mw ik zs cl hs ks wa ne mn tx th od bk bh fu fd fi nu nw nf bf bn ts ap fs ln fo fa wr 0 (280 + (140 * x)) hp) gX8_keep_X8_copy rfl (by decide +kernel) ⟨Nat.le_trans (Nat.le_of_ble_eq_true rfl) hRf, Nat.le_trans (Nat.le_of_ble_eq_true rfl) hRl⟩ hKK hSS hS hA hP hD [0, 1, 2, 3, 4, 5, 6, 7, 8, 9, 10, 11, 12, 13, 14] (by decide) rfl rfl rfl 0 rfl rfl hl.1 rfl (Nat.le_of_ble_eq_true rfl) dX8_keep_24) hP hD hS hA [0, 1, 2, 3, 4, 5, 6, 7, 8, 9, 10, 11, 12, 13, 14] [] [0, 1, 2, 3, 4, 5, 6, 7, 8, 9, 10, 11, 12, 13, 14] rfl rfl (by decide) (by decide) (by decide) (fun _ => rfl) (fun  u H locs hw hP hD hS => ?_)
    obtain ⟨mw2_4, rfl⟩ : ∃ z, z = u := ⟨_, rfl⟩
    have hP : va_P G.1 vwCl [(m0, .inr (8, [.ref m1, .ref m2, .ref m3, .ref m4, .ref m5, .ref m6, .ref m7, .ref m8, .ref m9, .int fu, .int fd, .int fi, .int nu, .int nw, .int nf, .int bf, .int bn, .ref m10, .int ts, .int ap, .int fs, .int ln, .int fo, .int fa, .ref m11, .ref m12, .ref m13, .ref m14, .int wr])), aJ G m1 560 mw2_4, aZ G m2 2 ik, aI G m3 20 zs, aI G m4 20 cl, aI G m5 20 hs, aI G m6 20 ks, aI G m7 20 wa, aI G m8 20 ne, aI G m9 4 mn, aI G m10 400 tx, aI G m11 6 th, aI G m12 6 od, aI G m13 30 bk, aI G m14 30 bh] H := hP
    have hD : va_D A [(m0, .inr (8, [.ref m1, .ref m2, .ref m3, .ref m4, .ref m5, .ref m6, .ref m7, .ref m8, .ref m9, .int fu, .int fd, .int fi, .int nu, .int nw, .int nf, .int bf, .int bn, .ref m10, .int ts, .int ap, .int fs, .int ln, .int fo, .int fa, .ref m11, .ref m12, .ref m13, .ref m14, .int wr])), aJ G m1 560 mw2_4, aZ G m2 2 ik, aI G m3 20 zs, aI G m4 20 cl, aI G m5 20 hs, aI G m6 20 ks, aI G m7 20 wa, aI G m8 20 ne, aI G m9 4 mn, aI G m10 400 tx, aI G m11 6 th, aI G m12 6 od, aI G m13 30 bk, aI G m14 30 bh] := hD
    have hv := hv mw2_4 hw
    refine lv_aload_n hx hb dX8_keep_27 rfl (lv_at hl 0 rfl) ?_
    refine va_get (D := G.1) (ci := 8) (v := .ref m2) (C := RX8) (T := TX8) (N := 29) hx hb hts hinX8 hown hKK.1 hP 0 rfl rfl 1 (by decide) kl13 (fun _ h9 => h9) rfl dX8_keep_28 ?_
    refine lv_iload_n hx hb dX8_keep_31 rfl (lv_at hl 1 rfl) ?_
    refine lv_iconst (v := 1) hx hb dX8_keep_32 (by decide) ?_
    obtain ⟨hin, hv⟩ := hv
    refine va_zast hx hb hKK.1 hP hD hS 2 3 rfl rfl hin dX8_keep_33 (fun H locs hP hD hS => ?_)
    have hP : va_P G.1 vwCl [(m0, .inr (8, [.ref m1, .ref m2, .ref m3, .ref m4, .ref m5, .ref m6, .ref m7, .ref m8, .ref m9, .int fu, .int fd, .int fi, .int nu, .int nw, .int nf, .int bf, .int bn, .ref m10, .int ts, .int ap, .int fs, .int ln, .int fo, .int fa, .ref m11, .ref m12, .ref m13, .ref m14, .int wr])), aJ G m1 560 mw2_4, aZ G m2 2 (upd ik x.toNatClampNeg (vp_nar .boolean 1)), aI G m3 20 zs, aI G m4 20 cl, aI G m5 20 hs, aI G m6 20 ks, aI G m7 20 wa, aI G m8 20 ne, aI G m9 4 mn, aI G m10 400 tx, aI G m11 6 th, aI G m12 6 od, aI G m13 30 bk, aI G m14 30 bh] H := hP
    have hD : va_D A [(m0, .inr (8, [.ref m1, .ref m2, .ref m3, .ref m4, .ref m5, .ref m6, .ref m7, .ref m8, .ref m9, .int fu, .int fd, .int fi, .int nu, .int nw, .int nf, .int bf, .int bn, .ref m10, .int ts, .int ap, .int fs, .int ln, .int fo, .int fa, .ref m11, .ref m12, .ref m13, .ref m14, .int wr])), aJ G m1 560 mw2_4, aZ G m2 2 (upd ik x.toNatClampNeg (vp_nar .boolean 1)), aI G m3 20 zs, aI G m4 20 cl, aI G m5 20 hs, aI G m6 20 ks, aI G m7 20 wa, aI G m8 20 ne, aI G m9 4 mn, aI G m10 400 tx, aI G m11 6 th, aI G m12 6 od, aI G m13 30 bk, aI G m14 30 bh] := hD
    refine lv_iconst (v := 1) hx hb dX8_keep_34 (by decide) ?_
    exact x_iret (v := 1) (mw2_4, (upd ik x.toNatClampNeg (vp_nar .boolean 1))) hQ hx hb hr hlocks hS dX8_keep_35 hv hP hD
  · have hv := hv.2 (tv_eq.mp hc_2)
    refine lv_ldc (v := (-1000000001)) hx hb hown kl164 dX8_keep_10 ?_
    exact x_iret (v := (-1000000001)) (mw, ik) hQ hx hb hr hlocks hS dX8_keep_12 hv hP hD
theorem k_X8_keep (l : Launch) (G : Gt) (m0 m1 m2 m3 m4 m5 m6 m7 m8 m9 m10 m11 m12 m13 m14 : Nat) (sz : Nat) (mw : Nat → Int64) (ik : Nat → Int32) (zs : Nat → Int32) (cl : Nat → Int32) (hs : Nat → Int32) (ks : Nat → Int32) (wa : Nat → Int32) (ne : Nat → Int32) (mn : Nat → Int32) (tx : Nat → Int32) (th : Nat → Int32) (od : Nat → Int32) (bk : Nat → Int32) (bh : Nat → Int32) (fu : Int32) (fd : Int32) (fi : Int32) (nu : Int32) (nw : Int32) (nf : Int32) (bf : Int32) (bn : Int32) (ts : Int32) (ap : Int32) (fs : Int32) (ln : Int32) (fo : Int32) (fa : Int32) (wr : Int32) (x : Int32) (hp : True) : MetI l yX8_keep wsX8_keep 1 25 G [.ref m0, .int x] [(m0, .inr (8, [.ref m1, .ref m2, .ref m3, .ref m4, .ref m5, .ref m6, .ref m7, .ref m8, .ref m9, .int fu, .int fd, .int fi, .int nu, .int nw, .int nf, .int bf, .int bn, .ref m10, .int ts, .int ap, .int fs, .int ln, .int fo, .int fa, .ref m11, .ref m12, .ref m13, .ref m14, .int wr])), aJ G m1 560 mw, aZ G m2 2 ik, aI G m3 20 zs, aI G m4 20 cl, aI G m5 20 hs, aI G m6 20 ks, aI G m7 20 wa, aI G m8 20 ne, aI G m9 4 mn, aI G m10 400 tx, aI G m11 6 th, aI G m12 6 od, aI G m13 30 bk, aI G m14 30 bh] sz (fun (r : Int32) (u : (Nat → Int64) × (Nat → Int32)) => True) (fun (u : (Nat → Int64) × (Nat → Int32)) => [(m0, .inr (8, [.ref m1, .ref m2, .ref m3, .ref m4, .ref m5, .ref m6, .ref m7, .ref m8, .ref m9, .int fu, .int fd, .int fi, .int nu, .int nw, .int nf, .int bf, .int bn, .ref m10, .int ts, .int ap, .int fs, .int ln, .int fo, .int fa, .ref m11, .ref m12, .ref m13, .ref m14, .int wr])), aJ G m1 560 u.1, aZ G m2 2 u.2, aI G m3 20 zs, aI G m4 20 cl, aI G m5 20 hs, aI G m6 20 ks, aI G m7 20 wa, aI G m8 20 ne, aI G m9 4 mn, aI G m10 400 tx, aI G m11 6 th, aI G m12 6 od, aI G m13 30 bk, aI G m14 30 bh]) :=
  c_X8_keep l G m0 m1 m2 m3 m4 m5 m6 m7 m8 m9 m10 m11 m12 m13 m14 sz mw ik zs cl hs ks wa ne mn tx th od bk bh fu fd fi nu nw nf bf bn ts ap fs ln fo fa wr x (by
    sorry)

set_option maxHeartbeats 4000000 in
set_option maxRecDepth 100000 in
theorem c_X8_goBack (l : Launch) (G : Gt) (m0 m1 m2 m3 m4 m5 m6 m7 m8 m9 m10 m11 m12 m13 m14 : Nat) (sz : Nat) (mw : Nat → Int64) (ik : Nat → Int32) (zs : Nat → Int32) (cl : Nat → Int32) (hs : Nat → Int32) (ks : Nat → Int32) (wa : Nat → Int32) (ne : Nat → Int32) (mn : Nat → Int32) (tx : Nat → Int32) (th : Nat → Int32) (od : Nat → Int32) (bk : Nat → Int32) (bh : Nat → Int32) (fu : Int32) (fd : Int32) (fi : Int32) (nu : Int32) (nw : Int32) (nf : Int32) (bf : Int32) (bn : Int32) (ts : Int32) (ap : Int32) (fs : Int32) (ln : Int32) (fo : Int32) (fa : Int32) (wr : Int32) (x : Int32) (hv : (¬ x.toInt64 < 0 ∧ ¬ 1 < x.toInt64 → (vp_in x 2) ∧ ((¬ (ik x.toNatClampNeg) = 0 → (True) ∧ (∀ (mw2_5 : Nat → Int64), (True) → (True))) ∧ ((ik x.toNatClampNeg) = 0 → True))) ∧ (¬ (¬ x.toInt64 < 0 ∧ ¬ 1 < x.toInt64) → True)) : MetI l yX8_goBack wsX8_goBack 1 25 G [.ref m0, .int x] [(m0, .inr (8, [.ref m1, .ref m2, .ref m3, .ref m4, .ref m5, .ref m6, .ref m7, .ref m8, .ref m9, .int fu, .int fd, .int fi, .int nu, .int nw, .int nf, .int bf, .int bn, .ref m10, .int ts, .int ap, .int fs, .int ln, .int fo, .int fa, .ref m11, .ref m12, .ref m13, .ref m14, .int wr])), aJ G m1 560 mw, aZ G m2 2 ik, aI G m3 20 zs, aI G m4 20 cl, aI G m5 20 hs, aI G m6 20 ks, aI G m7 20 wa, aI G m8 20 ne, aI G m9 4 mn, aI G m10 400 tx, aI G m11 6 th, aI G m12 6 od, aI G m13 30 bk, aI G m14 30 bh] sz (fun (r : Int32) (u : (Nat → Int64)) => True) (fun (u : (Nat → Int64)) => [(m0, .inr (8, [.ref m1, .ref m2, .ref m3, .ref m4, .ref m5, .ref m6, .ref m7, .ref m8, .ref m9, .int fu, .int fd, .int fi, .int nu, .int nw, .int nf, .int bf, .int bn, .ref m10, .int ts, .int ap, .int fs, .int ln, .int fo, .int fa, .ref m11, .ref m12, .ref m13, .ref m14, .int wr])), aJ G m1 560 u, aZ G m2 2 ik, aI G m3 20 zs, aI G m4 20 cl, aI G m5 20 hs, aI G m6 20 ks, aI G m7 20 wa, aI G m8 20 ne, aI G m9 4 mn, aI G m10 400 tx, aI G m11 6 th, aI G m12 6 od, aI G m13 30 bk, aI G m14 30 bh]) := by
  refine x_startI (cc := cX8_goBack) (maxL := 2) (ret := (some .int)) (by decide) rfl (Nat.le_of_ble_eq_true rfl) ?_
  intro p e s m args below meth c A R Q ls hRf hRl hQ C hP hD hS hA hSS hl
  obtain ⟨hx, hb, hr, hml, hown, hts, hlocks, hKK⟩ := C
  have hown : s.vm.findClass RX8 = some m.cls := hown
  have hl : lv_has ls 2 [(0, .ref m0), (1, .int x)] := hl
  have hinX8 : ∀ w ∈ u_ws RX8 TX8 29, w ∈ wsX8_goBack := by decide +kernel
  have kl13 := hts (.fieldLink RX8 13 "WarmStonesModel" "isKept" "[Z") (by decide +kernel)
  have kl164 := hts (.constant RX8 164 (-1000000001)) (by decide +kernel)
  have kl198 := hts (.constant RX8 198 (-1000000003)) (by decide +kernel)
  refine lv_iload_n hx hb dX8_goBack_0 rfl (lv_at hl 1 rfl) ?_
  refine lv_i2l hx hb dX8_goBack_1 rfl ?_
  refine lv_lconst (v := 0) hx hb dX8_goBack_2 (by decide) ?_
  refine lv_lconst (v := 1) hx hb dX8_goBack_3 (by decide) ?_
  refine x_calliR (x_runS (As := [.long x.toInt64, .long 0, .long 1]) (rest := []) (n := 3) ⟨hx, hb, hml, hown, hts⟩ (k_X8_in l G  _ x.toInt64 0 1) gX8_goBack_X8_in rfl (by decide +kernel) ⟨Nat.le_trans (Nat.le_of_ble_eq_true rfl) hRf, Nat.le_trans (Nat.le_of_ble_eq_true rfl) hRl⟩ hKK hSS hS hA hP hD [] (by decide) rfl rfl hl.1 rfl (Nat.le_of_ble_eq_true rfl) dX8_goBack_4) hP hD hS hA [] rfl (fun r_1 _ H locs hw hP hS => ?_)
  replace hw := hw.symm; subst hw
  refine lv_if_ne (tgt := 13) hx hb dX8_goBack_7 (by decide) (fun hc_2 => ?_) (fun hc_2 => ?_)
  · have hv := hv.1 (tv_eqn.mp hc_2)
    refine lv_aload_n hx hb dX8_goBack_13 rfl (lv_at hl 0 rfl) ?_
    refine va_get (D := G.1) (ci := 8) (v := .ref m2) (C := RX8) (T := TX8) (N := 29) hx hb hts hinX8 hown hKK.1 hP 0 rfl rfl 1 (by decide) kl13 (fun _ h9 => h9) rfl dX8_goBack_14 ?_
    refine lv_iload_n hx hb dX8_goBack_17 rfl (lv_at hl 1 rfl) ?_
    obtain ⟨hin, hv⟩ := hv
    refine va_zald hx hb hKK.1 hP 2 3 rfl rfl hin dX8_goBack_18 ?_
    refine lv_if_ne (tgt := 25) hx hb dX8_goBack_19 (by decide) (fun hc_3 => ?_) (fun hc_3 => ?_)
    · have hv := hv.1 hc_3
      refine lv_aload_n hx hb dX8_goBack_25 rfl (lv_at hl 0 rfl) ?_
      refine lv_sipush (v := 280) hx hb dX8_goBack_26 (by decide) ?_
      refine lv_sipush (v := 140) hx hb dX8_goBack_29 (by decide) ?_
      refine lv_iload_n hx hb dX8_goBack_32 rfl (lv_at hl 1 rfl) ?_
      refine lv_imul hx hb dX8_goBack_33 ?_
      refine lv_iadd hx hb dX8_goBack_34 ?_
      refine lv_iconst (v := 0) hx hb dX8_goBack_35 (by decide) ?_
      obtain ⟨hp, hv⟩ := hv
      refine x_callv (wr := []) (w' := fun (u : (Nat → Int64)) => [(m0, .inr (8, [.ref m1, .ref m2, .ref m3, .ref m4, .ref m5, .ref m6, .ref m7, .ref m8, .ref m9, .int fu, .int fd, .int fi, .int nu, .int nw, .int nf, .int bf, .int bn, .ref m10, .int ts, .int ap, .int fs, .int ln, .int fo, .int fa, .ref m11, .ref m12, .ref m13, .ref m14, .int wr])), aJ G m1 560 u, aZ G m2 2 ik, aI G m3 20 zs, aI G m4 20 cl, aI G m5 20 hs, aI G m6 20 ks, aI G m7 20 wa, aI G m8 20 ne, aI G m9 4 mn, aI G m10 400 tx, aI G m11 6 th, aI G m12 6 od, aI G m13 30 bk, aI G m14 30 bh]) (x_runV (As := [.int (280 + (140 * x)), .int 0]) (rest := []) (n := 2) (C := RX8) (ci := 8) ⟨hx, hb, hml, hown, hts⟩ (k_X8_copy l G m0 m1 m2 m3 m4 m5 m6 m7 m8 m9 m10 m11 m12 m13 m14 _ mw ik zs cl hs ks wa ne mn tx th od bk bh fu fd fi nu nw nf bf bn ts ap fs ln fo fa wr (280 + (140 * x)) 0 hp) gX8_goBack_X8_copy rfl (by decide +kernel) ⟨Nat.le_trans (Nat.le_of_ble_eq_true rfl) hRf, Nat.le_trans (Nat.le_of_ble_eq_true rfl) hRl⟩ hKK hSS hS hA hP hD [0, 1, 2, 3, 4, 5, 6, 7, 8, 9, 10, 11, 12, 13, 14] (by decide) rfl rfl rfl 0 rfl rfl hl.1 rfl (Nat.le_of_ble_eq_true rfl) dX8_goBack_36) hP hD hS hA [0, 1, 2, 3, 4, 5, 6, 7, 8, 9, 10, 11, 12, 13, 14] [] [0, 1, 2, 3, 4, 5, 6, 7, 8, 9, 10, 11, 12, 13, 14] rfl rfl (by decide) (by decide) (by decide) (fun _ => rfl) (fun  u H locs hw hP hD hS => ?_)
      obtain ⟨mw2_5, rfl⟩ : ∃ z, z = u := ⟨_, rfl⟩
      have hP : va_P G.1 vwCl [(m0, .inr (8, [.ref m1, .ref m2, .ref m3, .ref m4, .ref m5, .ref m6, .ref m7, .ref m8, .ref m9, .int fu, .int fd, .int fi, .int nu, .int nw, .int nf, .int bf, .int bn, .ref m10, .int ts, .int ap, .int fs, .int ln, .int fo, .int fa, .ref m11, .ref m12, .ref m13, .ref m14, .int wr])), aJ G m1 560 mw2_5, aZ G m2 2 ik, aI G m3 20 zs, aI G m4 20 cl, aI G m5 20 hs, aI G m6 20 ks, aI G m7 20 wa, aI G m8 20 ne, aI G m9 4 mn, aI G m10 400 tx, aI G m11 6 th, aI G m12 6 od, aI G m13 30 bk, aI G m14 30 bh] H := hP
      have hD : va_D A [(m0, .inr (8, [.ref m1, .ref m2, .ref m3, .ref m4, .ref m5, .ref m6, .ref m7, .ref m8, .ref m9, .int fu, .int fd, .int fi, .int nu, .int nw, .int nf, .int bf, .int bn, .ref m10, .int ts, .int ap, .int fs, .int ln, .int fo, .int fa, .ref m11, .ref m12, .ref m13, .ref m14, .int wr])), aJ G m1 560 mw2_5, aZ G m2 2 ik, aI G m3 20 zs, aI G m4 20 cl, aI G m5 20 hs, aI G m6 20 ks, aI G m7 20 wa, aI G m8 20 ne, aI G m9 4 mn, aI G m10 400 tx, aI G m11 6 th, aI G m12 6 od, aI G m13 30 bk, aI G m14 30 bh] := hD
      have hv := hv mw2_5 hw
      refine lv_iconst (v := 1) hx hb dX8_goBack_39 (by decide) ?_
      exact x_iret (v := 1) mw2_5 hQ hx hb hr hlocks hS dX8_goBack_40 hv hP hD
    · have hv := hv.2 hc_3
      refine lv_ldc (v := (-1000000003)) hx hb hown kl198 dX8_goBack_22 ?_
      exact x_iret (v := (-1000000003)) mw hQ hx hb hr hlocks hS dX8_goBack_24 hv hP hD
  · have hv := hv.2 (tv_eq.mp hc_2)
    refine lv_ldc (v := (-1000000001)) hx hb hown kl164 dX8_goBack_10 ?_
    exact x_iret (v := (-1000000001)) mw hQ hx hb hr hlocks hS dX8_goBack_12 hv hP hD
theorem k_X8_goBack (l : Launch) (G : Gt) (m0 m1 m2 m3 m4 m5 m6 m7 m8 m9 m10 m11 m12 m13 m14 : Nat) (sz : Nat) (mw : Nat → Int64) (ik : Nat → Int32) (zs : Nat → Int32) (cl : Nat → Int32) (hs : Nat → Int32) (ks : Nat → Int32) (wa : Nat → Int32) (ne : Nat → Int32) (mn : Nat → Int32) (tx : Nat → Int32) (th : Nat → Int32) (od : Nat → Int32) (bk : Nat → Int32) (bh : Nat → Int32) (fu : Int32) (fd : Int32) (fi : Int32) (nu : Int32) (nw : Int32) (nf : Int32) (bf : Int32) (bn : Int32) (ts : Int32) (ap : Int32) (fs : Int32) (ln : Int32) (fo : Int32) (fa : Int32) (wr : Int32) (x : Int32) (hp : True) : MetI l yX8_goBack wsX8_goBack 1 25 G [.ref m0, .int x] [(m0, .inr (8, [.ref m1, .ref m2, .ref m3, .ref m4, .ref m5, .ref m6, .ref m7, .ref m8, .ref m9, .int fu, .int fd, .int fi, .int nu, .int nw, .int nf, .int bf, .int bn, .ref m10, .int ts, .int ap, .int fs, .int ln, .int fo, .int fa, .ref m11, .ref m12, .ref m13, .ref m14, .int wr])), aJ G m1 560 mw, aZ G m2 2 ik, aI G m3 20 zs, aI G m4 20 cl, aI G m5 20 hs, aI G m6 20 ks, aI G m7 20 wa, aI G m8 20 ne, aI G m9 4 mn, aI G m10 400 tx, aI G m11 6 th, aI G m12 6 od, aI G m13 30 bk, aI G m14 30 bh] sz (fun (r : Int32) (u : (Nat → Int64)) => True) (fun (u : (Nat → Int64)) => [(m0, .inr (8, [.ref m1, .ref m2, .ref m3, .ref m4, .ref m5, .ref m6, .ref m7, .ref m8, .ref m9, .int fu, .int fd, .int fi, .int nu, .int nw, .int nf, .int bf, .int bn, .ref m10, .int ts, .int ap, .int fs, .int ln, .int fo, .int fa, .ref m11, .ref m12, .ref m13, .ref m14, .int wr])), aJ G m1 560 u, aZ G m2 2 ik, aI G m3 20 zs, aI G m4 20 cl, aI G m5 20 hs, aI G m6 20 ks, aI G m7 20 wa, aI G m8 20 ne, aI G m9 4 mn, aI G m10 400 tx, aI G m11 6 th, aI G m12 6 od, aI G m13 30 bk, aI G m14 30 bh]) :=
  c_X8_goBack l G m0 m1 m2 m3 m4 m5 m6 m7 m8 m9 m10 m11 m12 m13 m14 sz mw ik zs cl hs ks wa ne mn tx th od bk bh fu fd fi nu nw nf bf bn ts ap fs ln fo fa wr x (by
    sorry)
