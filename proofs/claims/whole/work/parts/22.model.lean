set_option maxHeartbeats 4000000 in
set_option maxRecDepth 100000 in
theorem c_X8_sit (l : Launch) (G : Gt) (m0 m1 m2 m3 m4 m5 m6 m7 m8 m9 m10 m11 m12 m13 m14 : Nat) (sz : Nat) (mw : Nat → Int64) (ik : Nat → Int32) (zs : Nat → Int32) (cl : Nat → Int32) (hs : Nat → Int32) (ks : Nat → Int32) (wa : Nat → Int32) (ne : Nat → Int32) (mn : Nat → Int32) (tx : Nat → Int32) (th : Nat → Int32) (od : Nat → Int32) (bk : Nat → Int32) (bh : Nat → Int32) (fu : Int32) (fd : Int32) (fi : Int32) (nu : Int32) (nw : Int32) (nf : Int32) (bf : Int32) (bn : Int32) (ts : Int32) (ap : Int32) (fs : Int32) (ln : Int32) (fo : Int32) (fa : Int32) (wr : Int32) (x : Int32) (y : Int32) (hv : (True) ∧ (∀ (r_1 : Int32), (True) → ((r_1 = 0 → True) ∧ (¬ (r_1 = 0) → (y = (-1) → (y < 0 → (vp_in (20 + x) 560) ∧ ((vp_in (20 + x) 560) ∧ (True))) ∧ (¬ (y < 0) → (True) ∧ (∀ (r_5 : Int32), (True) → ((r_5 < 0 → (vp_in (20 + x) 560) ∧ ((vp_in (20 + x) 560) ∧ (True))) ∧ (¬ (r_5 < 0) → (True) ∧ (∀ (r_7 : Int32), (True) → ((r_7 = x → (vp_in (20 + x) 560) ∧ ((vp_in (20 + x) 560) ∧ (True))) ∧ (¬ (r_7 = x) → True)))))))) ∧ (¬ (y = (-1)) → (True) ∧ (∀ (r_9 : Int32), (True) → ((¬ r_9 = 0 → (y < 0 → (vp_in (20 + x) 560) ∧ ((vp_in (20 + x) 560) ∧ (True))) ∧ (¬ (y < 0) → (True) ∧ (∀ (r_12 : Int32), (True) → ((r_12 < 0 → (vp_in (20 + x) 560) ∧ ((vp_in (20 + x) 560) ∧ (True))) ∧ (¬ (r_12 < 0) → (True) ∧ (∀ (r_14 : Int32), (True) → ((r_14 = x → (vp_in (20 + x) 560) ∧ ((vp_in (20 + x) 560) ∧ (True))) ∧ (¬ (r_14 = x) → True)))))))) ∧ (r_9 = 0 → True)))))))) : MetI l yX8_sit wsX8_sit 2 46 G [.ref m0, .int x, .int y] [(m0, .inr (8, [.ref m1, .ref m2, .ref m3, .ref m4, .ref m5, .ref m6, .ref m7, .ref m8, .ref m9, .int fu, .int fd, .int fi, .int nu, .int nw, .int nf, .int bf, .int bn, .ref m10, .int ts, .int ap, .int fs, .int ln, .int fo, .int fa, .ref m11, .ref m12, .ref m13, .ref m14, .int wr])), aJ G m1 560 mw, aZ G m2 2 ik, aI G m3 20 zs, aI G m4 20 cl, aI G m5 20 hs, aI G m6 20 ks, aI G m7 20 wa, aI G m8 20 ne, aI G m9 4 mn, aI G m10 400 tx, aI G m11 6 th, aI G m12 6 od, aI G m13 30 bk, aI G m14 30 bh] sz (fun (r : Int32) (u : (Nat → Int64)) => True) (fun (u : (Nat → Int64)) => [(m0, .inr (8, [.ref m1, .ref m2, .ref m3, .ref m4, .ref m5, .ref m6, .ref m7, .ref m8, .ref m9, .int fu, .int fd, .int fi, .int nu, .int nw, .int nf, .int bf, .int bn, .ref m10, .int ts, .int ap, .int fs, .int ln, .int fo, .int fa, .ref m11, .ref m12, .ref m13, .ref m14, .int wr])), aJ G m1 560 u, aZ G m2 2 ik, aI G m3 20 zs, aI G m4 20 cl, aI G m5 20 hs, aI G m6 20 ks, aI G m7 20 wa, aI G m8 20 ne, aI G m9 4 mn, aI G m10 400 tx, aI G m11 6 th, aI G m12 6 od, aI G m13 30 bk, aI G m14 30 bh]) := by
  refine x_startI (cc := cX8_sit) (maxL := 4) (ret := (some .int)) (by decide) rfl (Nat.le_of_ble_eq_true rfl) ?_
  intro p e s m args below meth c A R Q ls hRf hRl hQ C hP hD hS hA hSS hl
  obtain ⟨hx, hb, hr, hml, hown, hts, hlocks, hKK⟩ := C
  have hown : s.vm.findClass RX8 = some m.cls := hown
  have hl : lv_has ls 4 [(0, .ref m0), (1, .int x), (2, .int y)] := hl
  have hinX8 : ∀ w ∈ u_ws RX8 TX8 29, w ∈ wsX8_sit := by decide +kernel
  have kl164 := hts (.constant RX8 164 (-1000000001)) (by decide +kernel)
  have kl198 := hts (.constant RX8 198 (-1000000003)) (by decide +kernel)
  have kl7 := hts (.fieldLink RX8 7 "WarmStonesModel" "w" "[J") (by decide +kernel)
  refine lv_aload_n hx hb dX8_sit_0 rfl (lv_at hl 0 rfl) ?_
  refine lv_iload_n hx hb dX8_sit_1 rfl (lv_at hl 1 rfl) ?_
  obtain ⟨hp, hv⟩ := hv
  refine x_calliR (x_runV (As := [.int x]) (rest := []) (n := 1) (C := RX8) (ci := 8) ⟨hx, hb, hml, hown, hts⟩ (k_X8_isPerson l G m0 m1 m2 m3 m4 m5 m6 m7 m8 m9 m10 m11 m12 m13 m14 _ mw ik zs cl hs ks wa ne mn tx th od bk bh fu fd fi nu nw nf bf bn ts ap fs ln fo fa wr x hp) gX8_sit_X8_isPerson rfl (by decide +kernel) ⟨Nat.le_trans (Nat.le_of_ble_eq_true rfl) hRf, Nat.le_trans (Nat.le_of_ble_eq_true rfl) hRl⟩ hKK hSS hS hA hP hD [0, 1, 2, 3, 4, 5, 6, 7, 8, 9, 10, 11, 12, 13, 14] (by decide) rfl rfl rfl 0 rfl rfl hl.1 rfl (Nat.le_of_ble_eq_true rfl) dX8_sit_2) hP hD hS hA [0, 1, 2, 3, 4, 5, 6, 7, 8, 9, 10, 11, 12, 13, 14] rfl (fun r_1 _ H locs hw hP hS => ?_)
  have hv := hv r_1 hw
  refine lv_if_eq (tgt := 21) hx hb dX8_sit_5 (by decide) (fun hc_2 => ?_) (fun hc_2 => ?_)
  · have hv := hv.1 hc_2
    refine lv_ldc (v := (-1000000001)) hx hb hown kl164 dX8_sit_21 ?_
    exact x_iret (v := (-1000000001)) mw hQ hx hb hr hlocks hS dX8_sit_23 hv hP hD
  · have hv := hv.2 hc_2
    refine lv_iload_n hx hb dX8_sit_8 rfl (lv_at hl 2 rfl) ?_
    refine lv_iconst (v := (-1)) hx hb dX8_sit_9 (by decide) ?_
    refine lv_icmp_eq (tgt := 24) hx hb dX8_sit_10 (by decide) (fun hc_3 => ?_) (fun hc_3 => ?_)
    · have hv := hv.1 hc_3
      refine lv_iload_n hx hb dX8_sit_24 rfl (lv_at hl 2 rfl) ?_
      refine lv_if_lt (tgt := 50) hx hb dX8_sit_25 (by decide) (fun hc_4 => ?_) (fun hc_4 => ?_)
      · have hv := hv.1 hc_4
        refine lv_aload_n hx hb dX8_sit_50 rfl (lv_at hl 0 rfl) ?_
        refine va_get (D := G.1) (ci := 8) (v := .ref m1) (C := RX8) (T := TX8) (N := 29) hx hb hts hinX8 hown hKK.1 hP 0 rfl rfl 0 (by decide) kl7 (fun _ h9 => h9) rfl dX8_sit_51 ?_
        refine lv_bipush (v := 20) hx hb dX8_sit_54 (by decide) ?_
        refine lv_iload_n hx hb dX8_sit_56 rfl (lv_at hl 1 rfl) ?_
        refine lv_iadd hx hb dX8_sit_57 ?_
        obtain ⟨hin, hv⟩ := hv
        refine va_lald hx hb hKK.1 hP 1 2 rfl rfl hin dX8_sit_58 ?_
        refine lv_l2i hx hb dX8_sit_59 rfl ?_
        refine lv_istore_n (lv' := [(3, .int ((mw (20 + x).toNatClampNeg).toInt32)), (0, .ref m0), (1, .int x), (2, .int y)]) hx hb dX8_sit_60 rfl hl (by decide) rfl (fun ls hl => ?_)
        refine lv_aload_n hx hb dX8_sit_61 rfl (lv_at hl 1 rfl) ?_
        refine va_get (D := G.1) (ci := 8) (v := .ref m1) (C := RX8) (T := TX8) (N := 29) hx hb hts hinX8 hown hKK.1 hP 0 rfl rfl 0 (by decide) kl7 (fun _ h9 => h9) rfl dX8_sit_62 ?_
        refine lv_bipush (v := 20) hx hb dX8_sit_65 (by decide) ?_
        refine lv_iload_n hx hb dX8_sit_67 rfl (lv_at hl 2 rfl) ?_
        refine lv_iadd hx hb dX8_sit_68 ?_
        refine lv_iload_n hx hb dX8_sit_69 rfl (lv_at hl 3 rfl) ?_
        refine lv_i2l hx hb dX8_sit_70 rfl ?_
        obtain ⟨hin, hv⟩ := hv
        refine va_last hx hb hKK.1 hP hD hS 1 2 rfl rfl hin dX8_sit_71 (fun H locs hP hD hS => ?_)
        have hP : va_P G.1 vwCl [(m0, .inr (8, [.ref m1, .ref m2, .ref m3, .ref m4, .ref m5, .ref m6, .ref m7, .ref m8, .ref m9, .int fu, .int fd, .int fi, .int nu, .int nw, .int nf, .int bf, .int bn, .ref m10, .int ts, .int ap, .int fs, .int ln, .int fo, .int fa, .ref m11, .ref m12, .ref m13, .ref m14, .int wr])), aJ G m1 560 (vp_updL mw ((20 + x).toNatClampNeg) y.toInt64), aZ G m2 2 ik, aI G m3 20 zs, aI G m4 20 cl, aI G m5 20 hs, aI G m6 20 ks, aI G m7 20 wa, aI G m8 20 ne, aI G m9 4 mn, aI G m10 400 tx, aI G m11 6 th, aI G m12 6 od, aI G m13 30 bk, aI G m14 30 bh] H := hP
        have hD : va_D A [(m0, .inr (8, [.ref m1, .ref m2, .ref m3, .ref m4, .ref m5, .ref m6, .ref m7, .ref m8, .ref m9, .int fu, .int fd, .int fi, .int nu, .int nw, .int nf, .int bf, .int bn, .ref m10, .int ts, .int ap, .int fs, .int ln, .int fo, .int fa, .ref m11, .ref m12, .ref m13, .ref m14, .int wr])), aJ G m1 560 (vp_updL mw ((20 + x).toNatClampNeg) y.toInt64), aZ G m2 2 ik, aI G m3 20 zs, aI G m4 20 cl, aI G m5 20 hs, aI G m6 20 ks, aI G m7 20 wa, aI G m8 20 ne, aI G m9 4 mn, aI G m10 400 tx, aI G m11 6 th, aI G m12 6 od, aI G m13 30 bk, aI G m14 30 bh] := hD
        refine lv_iload_n hx hb dX8_sit_72 rfl (lv_at hl 0 rfl) ?_
        exact x_iret (v := (mw (20 + x).toNatClampNeg).toInt32) (vp_updL mw ((20 + x).toNatClampNeg) y.toInt64) hQ hx hb hr hlocks hS dX8_sit_73 hv hP hD
      · have hv := hv.2 hc_4
        refine lv_aload_n hx hb dX8_sit_28 rfl (lv_at hl 0 rfl) ?_
        refine lv_iconst (v := 0) hx hb dX8_sit_29 (by decide) ?_
        refine lv_iload_n hx hb dX8_sit_30 rfl (lv_at hl 2 rfl) ?_
        obtain ⟨hp, hv⟩ := hv
        refine x_calliR (x_runV (As := [.int 0, .int y]) (rest := []) (n := 2) (C := RX8) (ci := 8) ⟨hx, hb, hml, hown, hts⟩ (k_X8_sitter l G m0 m1 m2 m3 m4 m5 m6 m7 m8 m9 m10 m11 m12 m13 m14 _ mw ik zs cl hs ks wa ne mn tx th od bk bh fu fd fi nu nw nf bf bn ts ap fs ln fo fa wr 0 y hp) gX8_sit_X8_sitter rfl (by decide +kernel) ⟨Nat.le_trans (Nat.le_of_ble_eq_true rfl) hRf, Nat.le_trans (Nat.le_of_ble_eq_true rfl) hRl⟩ hKK hSS hS hA hP hD [0, 1, 2, 3, 4, 5, 6, 7, 8, 9, 10, 11, 12, 13, 14] (by decide) rfl rfl rfl 0 rfl rfl hl.1 rfl (Nat.le_of_ble_eq_true rfl) dX8_sit_31) hP hD hS hA [0, 1, 2, 3, 4, 5, 6, 7, 8, 9, 10, 11, 12, 13, 14] rfl (fun r_5 _ H locs hw hP hS => ?_)
        have hv := hv r_5 hw
        refine lv_if_lt (tgt := 50) hx hb dX8_sit_34 (by decide) (fun hc_6 => ?_) (fun hc_6 => ?_)
        · have hv := hv.1 hc_6
          refine lv_aload_n hx hb dX8_sit_50 rfl (lv_at hl 0 rfl) ?_
          refine va_get (D := G.1) (ci := 8) (v := .ref m1) (C := RX8) (T := TX8) (N := 29) hx hb hts hinX8 hown hKK.1 hP 0 rfl rfl 0 (by decide) kl7 (fun _ h9 => h9) rfl dX8_sit_51 ?_
          refine lv_bipush (v := 20) hx hb dX8_sit_54 (by decide) ?_
          refine lv_iload_n hx hb dX8_sit_56 rfl (lv_at hl 1 rfl) ?_
          refine lv_iadd hx hb dX8_sit_57 ?_
          obtain ⟨hin, hv⟩ := hv
          refine va_lald hx hb hKK.1 hP 1 2 rfl rfl hin dX8_sit_58 ?_
          refine lv_l2i hx hb dX8_sit_59 rfl ?_
          refine lv_istore_n (lv' := [(3, .int ((mw (20 + x).toNatClampNeg).toInt32)), (0, .ref m0), (1, .int x), (2, .int y)]) hx hb dX8_sit_60 rfl hl (by decide) rfl (fun ls hl => ?_)
          refine lv_aload_n hx hb dX8_sit_61 rfl (lv_at hl 1 rfl) ?_
          refine va_get (D := G.1) (ci := 8) (v := .ref m1) (C := RX8) (T := TX8) (N := 29) hx hb hts hinX8 hown hKK.1 hP 0 rfl rfl 0 (by decide) kl7 (fun _ h9 => h9) rfl dX8_sit_62 ?_
          refine lv_bipush (v := 20) hx hb dX8_sit_65 (by decide) ?_
          refine lv_iload_n hx hb dX8_sit_67 rfl (lv_at hl 2 rfl) ?_
          refine lv_iadd hx hb dX8_sit_68 ?_
          refine lv_iload_n hx hb dX8_sit_69 rfl (lv_at hl 3 rfl) ?_
          refine lv_i2l hx hb dX8_sit_70 rfl ?_
          obtain ⟨hin, hv⟩ := hv
          refine va_last hx hb hKK.1 hP hD hS 1 2 rfl rfl hin dX8_sit_71 (fun H locs hP hD hS => ?_)
          have hP : va_P G.1 vwCl [(m0, .inr (8, [.ref m1, .ref m2, .ref m3, .ref m4, .ref m5, .ref m6, .ref m7, .ref m8, .ref m9, .int fu, .int fd, .int fi, .int nu, .int nw, .int nf, .int bf, .int bn, .ref m10, .int ts, .int ap, .int fs, .int ln, .int fo, .int fa, .ref m11, .ref m12, .ref m13, .ref m14, .int wr])), aJ G m1 560 (vp_updL mw ((20 + x).toNatClampNeg) y.toInt64), aZ G m2 2 ik, aI G m3 20 zs, aI G m4 20 cl, aI G m5 20 hs, aI G m6 20 ks, aI G m7 20 wa, aI G m8 20 ne, aI G m9 4 mn, aI G m10 400 tx, aI G m11 6 th, aI G m12 6 od, aI G m13 30 bk, aI G m14 30 bh] H := hP
          have hD : va_D A [(m0, .inr (8, [.ref m1, .ref m2, .ref m3, .ref m4, .ref m5, .ref m6, .ref m7, .ref m8, .ref m9, .int fu, .int fd, .int fi, .int nu, .int nw, .int nf, .int bf, .int bn, .ref m10, .int ts, .int ap, .int fs, .int ln, .int fo, .int fa, .ref m11, .ref m12, .ref m13, .ref m14, .int wr])), aJ G m1 560 (vp_updL mw ((20 + x).toNatClampNeg) y.toInt64), aZ G m2 2 ik, aI G m3 20 zs, aI G m4 20 cl, aI G m5 20 hs, aI G m6 20 ks, aI G m7 20 wa, aI G m8 20 ne, aI G m9 4 mn, aI G m10 400 tx, aI G m11 6 th, aI G m12 6 od, aI G m13 30 bk, aI G m14 30 bh] := hD
          refine lv_iload_n hx hb dX8_sit_72 rfl (lv_at hl 0 rfl) ?_
          exact x_iret (v := (mw (20 + x).toNatClampNeg).toInt32) (vp_updL mw ((20 + x).toNatClampNeg) y.toInt64) hQ hx hb hr hlocks hS dX8_sit_73 hv hP hD
        · have hv := hv.2 hc_6
          refine lv_aload_n hx hb dX8_sit_37 rfl (lv_at hl 0 rfl) ?_
          refine lv_iconst (v := 0) hx hb dX8_sit_38 (by decide) ?_
          refine lv_iload_n hx hb dX8_sit_39 rfl (lv_at hl 2 rfl) ?_
          obtain ⟨hp, hv⟩ := hv
          refine x_calliR (x_runV (As := [.int 0, .int y]) (rest := []) (n := 2) (C := RX8) (ci := 8) ⟨hx, hb, hml, hown, hts⟩ (k_X8_sitter l G m0 m1 m2 m3 m4 m5 m6 m7 m8 m9 m10 m11 m12 m13 m14 _ mw ik zs cl hs ks wa ne mn tx th od bk bh fu fd fi nu nw nf bf bn ts ap fs ln fo fa wr 0 y hp) gX8_sit_X8_sitter rfl (by decide +kernel) ⟨Nat.le_trans (Nat.le_of_ble_eq_true rfl) hRf, Nat.le_trans (Nat.le_of_ble_eq_true rfl) hRl⟩ hKK hSS hS hA hP hD [0, 1, 2, 3, 4, 5, 6, 7, 8, 9, 10, 11, 12, 13, 14] (by decide) rfl rfl rfl 0 rfl rfl hl.1 rfl (Nat.le_of_ble_eq_true rfl) dX8_sit_40) hP hD hS hA [0, 1, 2, 3, 4, 5, 6, 7, 8, 9, 10, 11, 12, 13, 14] rfl (fun r_7 _ H locs hw hP hS => ?_)
          have hv := hv r_7 hw
          refine lv_iload_n hx hb dX8_sit_43 rfl (lv_at hl 1 rfl) ?_
          refine lv_icmp_eq (tgt := 50) hx hb dX8_sit_44 (by decide) (fun hc_8 => ?_) (fun hc_8 => ?_)
          · have hv := hv.1 hc_8
            refine lv_aload_n hx hb dX8_sit_50 rfl (lv_at hl 0 rfl) ?_
            refine va_get (D := G.1) (ci := 8) (v := .ref m1) (C := RX8) (T := TX8) (N := 29) hx hb hts hinX8 hown hKK.1 hP 0 rfl rfl 0 (by decide) kl7 (fun _ h9 => h9) rfl dX8_sit_51 ?_
            refine lv_bipush (v := 20) hx hb dX8_sit_54 (by decide) ?_
            refine lv_iload_n hx hb dX8_sit_56 rfl (lv_at hl 1 rfl) ?_
            refine lv_iadd hx hb dX8_sit_57 ?_
            obtain ⟨hin, hv⟩ := hv
            refine va_lald hx hb hKK.1 hP 1 2 rfl rfl hin dX8_sit_58 ?_
            refine lv_l2i hx hb dX8_sit_59 rfl ?_
            refine lv_istore_n (lv' := [(3, .int ((mw (20 + x).toNatClampNeg).toInt32)), (0, .ref m0), (1, .int x), (2, .int y)]) hx hb dX8_sit_60 rfl hl (by decide) rfl (fun ls hl => ?_)
            refine lv_aload_n hx hb dX8_sit_61 rfl (lv_at hl 1 rfl) ?_
            refine va_get (D := G.1) (ci := 8) (v := .ref m1) (C := RX8) (T := TX8) (N := 29) hx hb hts hinX8 hown hKK.1 hP 0 rfl rfl 0 (by decide) kl7 (fun _ h9 => h9) rfl dX8_sit_62 ?_
            refine lv_bipush (v := 20) hx hb dX8_sit_65 (by decide) ?_
            refine lv_iload_n hx hb dX8_sit_67 rfl (lv_at hl 2 rfl) ?_
            refine lv_iadd hx hb dX8_sit_68 ?_
            refine lv_iload_n hx hb dX8_sit_69 rfl (lv_at hl 3 rfl) ?_
            refine lv_i2l hx hb dX8_sit_70 rfl ?_
            obtain ⟨hin, hv⟩ := hv
            refine va_last hx hb hKK.1 hP hD hS 1 2 rfl rfl hin dX8_sit_71 (fun H locs hP hD hS => ?_)
            have hP : va_P G.1 vwCl [(m0, .inr (8, [.ref m1, .ref m2, .ref m3, .ref m4, .ref m5, .ref m6, .ref m7, .ref m8, .ref m9, .int fu, .int fd, .int fi, .int nu, .int nw, .int nf, .int bf, .int bn, .ref m10, .int ts, .int ap, .int fs, .int ln, .int fo, .int fa, .ref m11, .ref m12, .ref m13, .ref m14, .int wr])), aJ G m1 560 (vp_updL mw ((20 + x).toNatClampNeg) y.toInt64), aZ G m2 2 ik, aI G m3 20 zs, aI G m4 20 cl, aI G m5 20 hs, aI G m6 20 ks, aI G m7 20 wa, aI G m8 20 ne, aI G m9 4 mn, aI G m10 400 tx, aI G m11 6 th, aI G m12 6 od, aI G m13 30 bk, aI G m14 30 bh] H := hP
            have hD : va_D A [(m0, .inr (8, [.ref m1, .ref m2, .ref m3, .ref m4, .ref m5, .ref m6, .ref m7, .ref m8, .ref m9, .int fu, .int fd, .int fi, .int nu, .int nw, .int nf, .int bf, .int bn, .ref m10, .int ts, .int ap, .int fs, .int ln, .int fo, .int fa, .ref m11, .ref m12, .ref m13, .ref m14, .int wr])), aJ G m1 560 (vp_updL mw ((20 + x).toNatClampNeg) y.toInt64), aZ G m2 2 ik, aI G m3 20 zs, aI G m4 20 cl, aI G m5 20 hs, aI G m6 20 ks, aI G m7 20 wa, aI G m8 20 ne, aI G m9 4 mn, aI G m10 400 tx, aI G m11 6 th, aI G m12 6 od, aI G m13 30 bk, aI G m14 30 bh] := hD
            refine lv_iload_n hx hb dX8_sit_72 rfl (lv_at hl 0 rfl) ?_
            exact x_iret (v := (mw (20 + x).toNatClampNeg).toInt32) (vp_updL mw ((20 + x).toNatClampNeg) y.toInt64) hQ hx hb hr hlocks hS dX8_sit_73 hv hP hD
          · have hv := hv.2 hc_8
            refine lv_ldc (v := (-1000000003)) hx hb hown kl198 dX8_sit_47 ?_
            exact x_iret (v := (-1000000003)) mw hQ hx hb hr hlocks hS dX8_sit_49 hv hP hD
    · have hv := hv.2 hc_3
      refine lv_aload_n hx hb dX8_sit_13 rfl (lv_at hl 0 rfl) ?_
      refine lv_iload_n hx hb dX8_sit_14 rfl (lv_at hl 2 rfl) ?_
      obtain ⟨hp, hv⟩ := hv
      refine x_calliR (x_runV (As := [.int y]) (rest := []) (n := 1) (C := RX8) (ci := 8) ⟨hx, hb, hml, hown, hts⟩ (k_X8_isStone l G m0 m1 m2 m3 m4 m5 m6 m7 m8 m9 m10 m11 m12 m13 m14 _ mw ik zs cl hs ks wa ne mn tx th od bk bh fu fd fi nu nw nf bf bn ts ap fs ln fo fa wr y hp) gX8_sit_X8_isStone rfl (by decide +kernel) ⟨Nat.le_trans (Nat.le_of_ble_eq_true rfl) hRf, Nat.le_trans (Nat.le_of_ble_eq_true rfl) hRl⟩ hKK hSS hS hA hP hD [0, 1, 2, 3, 4, 5, 6, 7, 8, 9, 10, 11, 12, 13, 14] (by decide) rfl rfl rfl 0 rfl rfl hl.1 rfl (Nat.le_of_ble_eq_true rfl) dX8_sit_15) hP hD hS hA [0, 1, 2, 3, 4, 5, 6, 7, 8, 9, 10, 11, 12, 13, 14] rfl (fun r_9 _ H locs hw hP hS => ?_)
      have hv := hv r_9 hw
      refine lv_if_ne (tgt := 24) hx hb dX8_sit_18 (by decide) (fun hc_10 => ?_) (fun hc_10 => ?_)
      · have hv := hv.1 hc_10
        refine lv_iload_n hx hb dX8_sit_24 rfl (lv_at hl 2 rfl) ?_
        refine lv_if_lt (tgt := 50) hx hb dX8_sit_25 (by decide) (fun hc_11 => ?_) (fun hc_11 => ?_)
        · have hv := hv.1 hc_11
          refine lv_aload_n hx hb dX8_sit_50 rfl (lv_at hl 0 rfl) ?_
          refine va_get (D := G.1) (ci := 8) (v := .ref m1) (C := RX8) (T := TX8) (N := 29) hx hb hts hinX8 hown hKK.1 hP 0 rfl rfl 0 (by decide) kl7 (fun _ h9 => h9) rfl dX8_sit_51 ?_
          refine lv_bipush (v := 20) hx hb dX8_sit_54 (by decide) ?_
          refine lv_iload_n hx hb dX8_sit_56 rfl (lv_at hl 1 rfl) ?_
          refine lv_iadd hx hb dX8_sit_57 ?_
          obtain ⟨hin, hv⟩ := hv
          refine va_lald hx hb hKK.1 hP 1 2 rfl rfl hin dX8_sit_58 ?_
          refine lv_l2i hx hb dX8_sit_59 rfl ?_
          refine lv_istore_n (lv' := [(3, .int ((mw (20 + x).toNatClampNeg).toInt32)), (0, .ref m0), (1, .int x), (2, .int y)]) hx hb dX8_sit_60 rfl hl (by decide) rfl (fun ls hl => ?_)
          refine lv_aload_n hx hb dX8_sit_61 rfl (lv_at hl 1 rfl) ?_
          refine va_get (D := G.1) (ci := 8) (v := .ref m1) (C := RX8) (T := TX8) (N := 29) hx hb hts hinX8 hown hKK.1 hP 0 rfl rfl 0 (by decide) kl7 (fun _ h9 => h9) rfl dX8_sit_62 ?_
          refine lv_bipush (v := 20) hx hb dX8_sit_65 (by decide) ?_
          refine lv_iload_n hx hb dX8_sit_67 rfl (lv_at hl 2 rfl) ?_
          refine lv_iadd hx hb dX8_sit_68 ?_
          refine lv_iload_n hx hb dX8_sit_69 rfl (lv_at hl 3 rfl) ?_
          refine lv_i2l hx hb dX8_sit_70 rfl ?_
          obtain ⟨hin, hv⟩ := hv
          refine va_last hx hb hKK.1 hP hD hS 1 2 rfl rfl hin dX8_sit_71 (fun H locs hP hD hS => ?_)
          have hP : va_P G.1 vwCl [(m0, .inr (8, [.ref m1, .ref m2, .ref m3, .ref m4, .ref m5, .ref m6, .ref m7, .ref m8, .ref m9, .int fu, .int fd, .int fi, .int nu, .int nw, .int nf, .int bf, .int bn, .ref m10, .int ts, .int ap, .int fs, .int ln, .int fo, .int fa, .ref m11, .ref m12, .ref m13, .ref m14, .int wr])), aJ G m1 560 (vp_updL mw ((20 + x).toNatClampNeg) y.toInt64), aZ G m2 2 ik, aI G m3 20 zs, aI G m4 20 cl, aI G m5 20 hs, aI G m6 20 ks, aI G m7 20 wa, aI G m8 20 ne, aI G m9 4 mn, aI G m10 400 tx, aI G m11 6 th, aI G m12 6 od, aI G m13 30 bk, aI G m14 30 bh] H := hP
          have hD : va_D A [(m0, .inr (8, [.ref m1, .ref m2, .ref m3, .ref m4, .ref m5, .ref m6, .ref m7, .ref m8, .ref m9, .int fu, .int fd, .int fi, .int nu, .int nw, .int nf, .int bf, .int bn, .ref m10, .int ts, .int ap, .int fs, .int ln, .int fo, .int fa, .ref m11, .ref m12, .ref m13, .ref m14, .int wr])), aJ G m1 560 (vp_updL mw ((20 + x).toNatClampNeg) y.toInt64), aZ G m2 2 ik, aI G m3 20 zs, aI G m4 20 cl, aI G m5 20 hs, aI G m6 20 ks, aI G m7 20 wa, aI G m8 20 ne, aI G m9 4 mn, aI G m10 400 tx, aI G m11 6 th, aI G m12 6 od, aI G m13 30 bk, aI G m14 30 bh] := hD
          refine lv_iload_n hx hb dX8_sit_72 rfl (lv_at hl 0 rfl) ?_
          exact x_iret (v := (mw (20 + x).toNatClampNeg).toInt32) (vp_updL mw ((20 + x).toNatClampNeg) y.toInt64) hQ hx hb hr hlocks hS dX8_sit_73 hv hP hD
        · have hv := hv.2 hc_11
          refine lv_aload_n hx hb dX8_sit_28 rfl (lv_at hl 0 rfl) ?_
          refine lv_iconst (v := 0) hx hb dX8_sit_29 (by decide) ?_
          refine lv_iload_n hx hb dX8_sit_30 rfl (lv_at hl 2 rfl) ?_
          obtain ⟨hp, hv⟩ := hv
          refine x_calliR (x_runV (As := [.int 0, .int y]) (rest := []) (n := 2) (C := RX8) (ci := 8) ⟨hx, hb, hml, hown, hts⟩ (k_X8_sitter l G m0 m1 m2 m3 m4 m5 m6 m7 m8 m9 m10 m11 m12 m13 m14 _ mw ik zs cl hs ks wa ne mn tx th od bk bh fu fd fi nu nw nf bf bn ts ap fs ln fo fa wr 0 y hp) gX8_sit_X8_sitter rfl (by decide +kernel) ⟨Nat.le_trans (Nat.le_of_ble_eq_true rfl) hRf, Nat.le_trans (Nat.le_of_ble_eq_true rfl) hRl⟩ hKK hSS hS hA hP hD [0, 1, 2, 3, 4, 5, 6, 7, 8, 9, 10, 11, 12, 13, 14] (by decide) rfl rfl rfl 0 rfl rfl hl.1 rfl (Nat.le_of_ble_eq_true rfl) dX8_sit_31) hP hD hS hA [0, 1, 2, 3, 4, 5, 6, 7, 8, 9, 10, 11, 12, 13, 14] rfl (fun r_12 _ H locs hw hP hS => ?_)
          have hv := hv r_12 hw
          refine lv_if_lt (tgt := 50) hx hb dX8_sit_34 (by decide) (fun hc_13 => ?_) (fun hc_13 => ?_)
          · have hv := hv.1 hc_13
            refine lv_aload_n hx hb dX8_sit_50 rfl (lv_at hl 0 rfl) ?_
            refine va_get (D := G.1) (ci := 8) (v := .ref m1) (C := RX8) (T := TX8) (N := 29) hx hb hts hinX8 hown hKK.1 hP 0 rfl rfl 0 (by decide) kl7 (fun _ h9 => h9) rfl dX8_sit_51 ?_
            refine lv_bipush (v := 20) hx hb dX8_sit_54 (by decide) ?_
            refine lv_iload_n hx hb dX8_sit_56 rfl (lv_at hl 1 rfl) ?_
            refine lv_iadd hx hb dX8_sit_57 ?_
            obtain ⟨hin, hv⟩ := hv
            refine va_lald hx hb hKK.1 hP 1 2 rfl rfl hin dX8_sit_58 ?_
            refine lv_l2i hx hb dX8_sit_59 rfl ?_
            refine lv_istore_n (lv' := [(3, .int ((mw (20 + x).toNatClampNeg).toInt32)), (0, .ref m0), (1, .int x), (2, .int y)]) hx hb dX8_sit_60 rfl hl (by decide) rfl (fun ls hl => ?_)
            refine lv_aload_n hx hb dX8_sit_61 rfl (lv_at hl 1 rfl) ?_
            refine va_get (D := G.1) (ci := 8) (v := .ref m1) (C := RX8) (T := TX8) (N := 29) hx hb hts hinX8 hown hKK.1 hP 0 rfl rfl 0 (by decide) kl7 (fun _ h9 => h9) rfl dX8_sit_62 ?_
            refine lv_bipush (v := 20) hx hb dX8_sit_65 (by decide) ?_
            refine lv_iload_n hx hb dX8_sit_67 rfl (lv_at hl 2 rfl) ?_
            refine lv_iadd hx hb dX8_sit_68 ?_
            refine lv_iload_n hx hb dX8_sit_69 rfl (lv_at hl 3 rfl) ?_
            refine lv_i2l hx hb dX8_sit_70 rfl ?_
            obtain ⟨hin, hv⟩ := hv
            refine va_last hx hb hKK.1 hP hD hS 1 2 rfl rfl hin dX8_sit_71 (fun H locs hP hD hS => ?_)
            have hP : va_P G.1 vwCl [(m0, .inr (8, [.ref m1, .ref m2, .ref m3, .ref m4, .ref m5, .ref m6, .ref m7, .ref m8, .ref m9, .int fu, .int fd, .int fi, .int nu, .int nw, .int nf, .int bf, .int bn, .ref m10, .int ts, .int ap, .int fs, .int ln, .int fo, .int fa, .ref m11, .ref m12, .ref m13, .ref m14, .int wr])), aJ G m1 560 (vp_updL mw ((20 + x).toNatClampNeg) y.toInt64), aZ G m2 2 ik, aI G m3 20 zs, aI G m4 20 cl, aI G m5 20 hs, aI G m6 20 ks, aI G m7 20 wa, aI G m8 20 ne, aI G m9 4 mn, aI G m10 400 tx, aI G m11 6 th, aI G m12 6 od, aI G m13 30 bk, aI G m14 30 bh] H := hP
            have hD : va_D A [(m0, .inr (8, [.ref m1, .ref m2, .ref m3, .ref m4, .ref m5, .ref m6, .ref m7, .ref m8, .ref m9, .int fu, .int fd, .int fi, .int nu, .int nw, .int nf, .int bf, .int bn, .ref m10, .int ts, .int ap, .int fs, .int ln, .int fo, .int fa, .ref m11, .ref m12, .ref m13, .ref m14, .int wr])), aJ G m1 560 (vp_updL mw ((20 + x).toNatClampNeg) y.toInt64), aZ G m2 2 ik, aI G m3 20 zs, aI G m4 20 cl, aI G m5 20 hs, aI G m6 20 ks, aI G m7 20 wa, aI G m8 20 ne, aI G m9 4 mn, aI G m10 400 tx, aI G m11 6 th, aI G m12 6 od, aI G m13 30 bk, aI G m14 30 bh] := hD
            refine lv_iload_n hx hb dX8_sit_72 rfl (lv_at hl 0 rfl) ?_
            exact x_iret (v := (mw (20 + x).toNatClampNeg).toInt32) (vp_updL mw ((20 + x).toNatClampNeg) y.toInt64) hQ hx hb hr hlocks hS dX8_sit_73 hv hP hD
          · have hv := hv.2 hc_13
            refine lv_aload_n hx hb dX8_sit_37 rfl (lv_at hl 0 rfl) ?_
            refine lv_iconst (v := 0) hx hb dX8_sit_38 (by decide) ?_
            refine lv_iload_n hx hb dX8_sit_39 rfl (lv_at hl 2 rfl) ?_
            obtain ⟨hp, hv⟩ := hv
            refine x_calliR (x_runV (As := [.int 0, .int y]) (rest := []) (n := 2) (C := RX8) (ci := 8) ⟨hx, hb, hml, hown, hts⟩ (k_X8_sitter l G m0 m1 m2 m3 m4 m5 m6 m7 m8 m9 m10 m11 m12 m13 m14 _ mw ik zs cl hs ks wa ne mn tx th od bk bh fu fd fi nu nw nf bf bn ts ap fs ln fo fa wr 0 y hp) gX8_sit_X8_sitter rfl (by decide +kernel) ⟨Nat.le_trans (Nat.le_of_ble_eq_true rfl) hRf, Nat.le_trans (Nat.le_of_ble_eq_true rfl) hRl⟩ hKK hSS hS hA hP hD [0, 1, 2, 3, 4, 5, 6, 7, 8, 9, 10, 11, 12, 13, 14] (by decide) rfl rfl rfl 0 rfl rfl hl.1 rfl (Nat.le_of_ble_eq_true rfl) dX8_sit_40) hP hD hS hA [0, 1, 2, 3, 4, 5, 6, 7, 8, 9, 10, 11, 12, 13, 14] rfl (fun r_14 _ H locs hw hP hS => ?_)
            have hv := hv r_14 hw
            refine lv_iload_n hx hb dX8_sit_43 rfl (lv_at hl 1 rfl) ?_
            refine lv_icmp_eq (tgt := 50) hx hb dX8_sit_44 (by decide) (fun hc_15 => ?_) (fun hc_15 => ?_)
            · have hv := hv.1 hc_15
              refine lv_aload_n hx hb dX8_sit_50 rfl (lv_at hl 0 rfl) ?_
              refine va_get (D := G.1) (ci := 8) (v := .ref m1) (C := RX8) (T := TX8) (N := 29) hx hb hts hinX8 hown hKK.1 hP 0 rfl rfl 0 (by decide) kl7 (fun _ h9 => h9) rfl dX8_sit_51 ?_
              refine lv_bipush (v := 20) hx hb dX8_sit_54 (by decide) ?_
              refine lv_iload_n hx hb dX8_sit_56 rfl (lv_at hl 1 rfl) ?_
              refine lv_iadd hx hb dX8_sit_57 ?_
              obtain ⟨hin, hv⟩ := hv
              refine va_lald hx hb hKK.1 hP 1 2 rfl rfl hin dX8_sit_58 ?_
              refine lv_l2i hx hb dX8_sit_59 rfl ?_
              refine lv_istore_n (lv' := [(3, .int ((mw (20 + x).toNatClampNeg).toInt32)), (0, .ref m0), (1, .int x), (2, .int y)]) hx hb dX8_sit_60 rfl hl (by decide) rfl (fun ls hl => ?_)
              refine lv_aload_n hx hb dX8_sit_61 rfl (lv_at hl 1 rfl) ?_
              refine va_get (D := G.1) (ci := 8) (v := .ref m1) (C := RX8) (T := TX8) (N := 29) hx hb hts hinX8 hown hKK.1 hP 0 rfl rfl 0 (by decide) kl7 (fun _ h9 => h9) rfl dX8_sit_62 ?_
              refine lv_bipush (v := 20) hx hb dX8_sit_65 (by decide) ?_
              refine lv_iload_n hx hb dX8_sit_67 rfl (lv_at hl 2 rfl) ?_
              refine lv_iadd hx hb dX8_sit_68 ?_
              refine lv_iload_n hx hb dX8_sit_69 rfl (lv_at hl 3 rfl) ?_
              refine lv_i2l hx hb dX8_sit_70 rfl ?_
              obtain ⟨hin, hv⟩ := hv
              refine va_last hx hb hKK.1 hP hD hS 1 2 rfl rfl hin dX8_sit_71 (fun H locs hP hD hS => ?_)
              have hP : va_P G.1 vwCl [(m0, .inr (8, [.ref m1, .ref m2, .ref m3, .ref m4, .ref m5, .ref m6, .ref m7, .ref m8, .ref m9, .int fu, .int fd, .int fi, .int nu, .int nw, .int nf, .int bf, .int bn, .ref m10, .int ts, .int ap, .int fs, .int ln, .int fo, .int fa, .ref m11, .ref m12, .ref m13, .ref m14, .int wr])), aJ G m1 560 (vp_updL mw ((20 + x).toNatClampNeg) y.toInt64), aZ G m2 2 ik, aI G m3 20 zs, aI G m4 20 cl, aI G m5 20 hs, aI G m6 20 ks, aI G m7 20 wa, aI G m8 20 ne, aI G m9 4 mn, aI G m10 400 tx, aI G m11 6 th, aI G m12 6 od, aI G m13 30 bk, aI G m14 30 bh] H := hP
              have hD : va_D A [(m0, .inr (8, [.ref m1, .ref m2, .ref m3, .ref m4, .ref m5, .ref m6, .ref m7, .ref m8, .ref m9, .int fu, .int fd, .int fi, .int nu, .int nw, .int nf, .int bf, .int bn, .ref m10, .int ts, .int ap, .int fs, .int ln, .int fo, .int fa, .ref m11, .ref m12, .ref m13, .ref m14, .int wr])), aJ G m1 560 (vp_updL mw ((20 + x).toNatClampNeg) y.toInt64), aZ G m2 2 ik, aI G m3 20 zs, aI G m4 20 cl, aI G m5 20 hs, aI G m6 20 ks, aI G m7 20 wa, aI G m8 20 ne, aI G m9 4 mn, aI G m10 400 tx, aI G m11 6 th, aI G m12 6 od, aI G m13 30 bk, aI G m14 30 bh] := hD
              refine lv_iload_n hx hb dX8_sit_72 rfl (lv_at hl 0 rfl) ?_
              exact x_iret (v := (mw (20 + x).toNatClampNeg).toInt32) (vp_updL mw ((20 + x).toNatClampNeg) y.toInt64) hQ hx hb hr hlocks hS dX8_sit_73 hv hP hD
            · have hv := hv.2 hc_15
              refine lv_ldc (v := (-1000000003)) hx hb hown kl198 dX8_sit_47 ?_
              exact x_iret (v := (-1000000003)) mw hQ hx hb hr hlocks hS dX8_sit_49 hv hP hD
      · have hv := hv.2 hc_10
        refine lv_ldc (v := (-1000000001)) hx hb hown kl164 dX8_sit_21 ?_
        exact x_iret (v := (-1000000001)) mw hQ hx hb hr hlocks hS dX8_sit_23 hv hP hD
theorem k_X8_sit (l : Launch) (G : Gt) (m0 m1 m2 m3 m4 m5 m6 m7 m8 m9 m10 m11 m12 m13 m14 : Nat) (sz : Nat) (mw : Nat → Int64) (ik : Nat → Int32) (zs : Nat → Int32) (cl : Nat → Int32) (hs : Nat → Int32) (ks : Nat → Int32) (wa : Nat → Int32) (ne : Nat → Int32) (mn : Nat → Int32) (tx : Nat → Int32) (th : Nat → Int32) (od : Nat → Int32) (bk : Nat → Int32) (bh : Nat → Int32) (fu : Int32) (fd : Int32) (fi : Int32) (nu : Int32) (nw : Int32) (nf : Int32) (bf : Int32) (bn : Int32) (ts : Int32) (ap : Int32) (fs : Int32) (ln : Int32) (fo : Int32) (fa : Int32) (wr : Int32) (x : Int32) (y : Int32) (hp : True) : MetI l yX8_sit wsX8_sit 2 46 G [.ref m0, .int x, .int y] [(m0, .inr (8, [.ref m1, .ref m2, .ref m3, .ref m4, .ref m5, .ref m6, .ref m7, .ref m8, .ref m9, .int fu, .int fd, .int fi, .int nu, .int nw, .int nf, .int bf, .int bn, .ref m10, .int ts, .int ap, .int fs, .int ln, .int fo, .int fa, .ref m11, .ref m12, .ref m13, .ref m14, .int wr])), aJ G m1 560 mw, aZ G m2 2 ik, aI G m3 20 zs, aI G m4 20 cl, aI G m5 20 hs, aI G m6 20 ks, aI G m7 20 wa, aI G m8 20 ne, aI G m9 4 mn, aI G m10 400 tx, aI G m11 6 th, aI G m12 6 od, aI G m13 30 bk, aI G m14 30 bh] sz (fun (r : Int32) (u : (Nat → Int64)) => True) (fun (u : (Nat → Int64)) => [(m0, .inr (8, [.ref m1, .ref m2, .ref m3, .ref m4, .ref m5, .ref m6, .ref m7, .ref m8, .ref m9, .int fu, .int fd, .int fi, .int nu, .int nw, .int nf, .int bf, .int bn, .ref m10, .int ts, .int ap, .int fs, .int ln, .int fo, .int fa, .ref m11, .ref m12, .ref m13, .ref m14, .int wr])), aJ G m1 560 u, aZ G m2 2 ik, aI G m3 20 zs, aI G m4 20 cl, aI G m5 20 hs, aI G m6 20 ks, aI G m7 20 wa, aI G m8 20 ne, aI G m9 4 mn, aI G m10 400 tx, aI G m11 6 th, aI G m12 6 od, aI G m13 30 bk, aI G m14 30 bh]) :=
  c_X8_sit l G m0 m1 m2 m3 m4 m5 m6 m7 m8 m9 m10 m11 m12 m13 m14 sz mw ik zs cl hs ks wa ne mn tx th od bk bh fu fd fi nu nw nf bf bn ts ap fs ln fo fa wr x y (by
    sorry)

set_option maxHeartbeats 4000000 in
set_option maxRecDepth 100000 in
theorem c_X8_coldNow (l : Launch) (G : Gt) (m0 m1 m2 m3 m4 m5 m6 m7 m8 m9 m10 m11 m12 m13 m14 : Nat) (sz : Nat) (mw : Nat → Int64) (ik : Nat → Int32) (zs : Nat → Int32) (cl : Nat → Int32) (hs : Nat → Int32) (ks : Nat → Int32) (wa : Nat → Int32) (ne : Nat → Int32) (mn : Nat → Int32) (tx : Nat → Int32) (th : Nat → Int32) (od : Nat → Int32) (bk : Nat → Int32) (bh : Nat → Int32) (fu : Int32) (fd : Int32) (fi : Int32) (nu : Int32) (nw : Int32) (nf : Int32) (bf : Int32) (bn : Int32) (ts : Int32) (ap : Int32) (fs : Int32) (ln : Int32) (fo : Int32) (fa : Int32) (wr : Int32) (hv : ∃ (I4_3 : Int32 → Int32 → Prop) (μ4_4 : Int32 → Int32 → Nat), I4_3 0 0 ∧ (∀ (x1_1 : Int32) (x2_2 : Int32), I4_3 x1_1 x2_2 → ((mn 1) ≤ x2_2 → True) ∧ (¬ ((mn 1) ≤ x2_2) → (True) ∧ (∀ (r_8 : Int32), (True) → (I4_3 (x1_1 ||| ((if r_8 = 0 then 0 else 1) <<< (x2_2 &&& 31))) (x2_2 + 1) ∧ μ4_4 (x1_1 ||| ((if r_8 = 0 then 0 else 1) <<< (x2_2 &&& 31))) (x2_2 + 1) < μ4_4 x1_1 x2_2))))) : MetI l yX8_coldNow wsX8_coldNow 1 22 G [.ref m0] [(m0, .inr (8, [.ref m1, .ref m2, .ref m3, .ref m4, .ref m5, .ref m6, .ref m7, .ref m8, .ref m9, .int fu, .int fd, .int fi, .int nu, .int nw, .int nf, .int bf, .int bn, .ref m10, .int ts, .int ap, .int fs, .int ln, .int fo, .int fa, .ref m11, .ref m12, .ref m13, .ref m14, .int wr])), aJ G m1 560 mw, aZ G m2 2 ik, aI G m3 20 zs, aI G m4 20 cl, aI G m5 20 hs, aI G m6 20 ks, aI G m7 20 wa, aI G m8 20 ne, aI G m9 4 mn, aI G m10 400 tx, aI G m11 6 th, aI G m12 6 od, aI G m13 30 bk, aI G m14 30 bh] sz (fun (r : Int32) (_ : Unit) => True) (fun (_ : Unit) => [(m0, .inr (8, [.ref m1, .ref m2, .ref m3, .ref m4, .ref m5, .ref m6, .ref m7, .ref m8, .ref m9, .int fu, .int fd, .int fi, .int nu, .int nw, .int nf, .int bf, .int bn, .ref m10, .int ts, .int ap, .int fs, .int ln, .int fo, .int fa, .ref m11, .ref m12, .ref m13, .ref m14, .int wr])), aJ G m1 560 mw, aZ G m2 2 ik, aI G m3 20 zs, aI G m4 20 cl, aI G m5 20 hs, aI G m6 20 ks, aI G m7 20 wa, aI G m8 20 ne, aI G m9 4 mn, aI G m10 400 tx, aI G m11 6 th, aI G m12 6 od, aI G m13 30 bk, aI G m14 30 bh]) := by
  refine x_startI (cc := cX8_coldNow) (maxL := 3) (ret := (some .int)) (by decide) rfl (Nat.le_of_ble_eq_true rfl) ?_
  intro p e s m args below meth c A R Q ls hRf hRl hQ C hP hD hS hA hSS hl
  obtain ⟨hx, hb, hr, hml, hown, hts, hlocks, hKK⟩ := C
  have hown : s.vm.findClass RX8 = some m.cls := hown
  have hl : lv_has ls 3 [(0, .ref m0)] := hl
  have hinX8 : ∀ w ∈ u_ws RX8 TX8 29, w ∈ wsX8_coldNow := by decide +kernel
  have kl36 := hts (.fieldLink RX8 36 "WarmStonesModel" "many" "[I") (by decide +kernel)
  refine lv_iconst (v := 0) hx hb dX8_coldNow_0 (by decide) ?_
  refine lv_istore_n (lv' := [(1, .int 0), (0, .ref m0)]) hx hb dX8_coldNow_1 rfl hl (by decide) rfl (fun ls hl => ?_)
  refine lv_iconst (v := 0) hx hb dX8_coldNow_2 (by decide) ?_
  refine lv_istore_n (lv' := [(2, .int 0), (1, .int 0), (0, .ref m0)]) hx hb dX8_coldNow_3 rfl hl (by decide) rfl (fun ls hl => ?_)
  obtain ⟨I4_3, μ4_4, hi0, hs_10⟩ := hv
  have Lm_12 : ∀ (n_11 : Nat) (x1_1 : Int32) (x2_2 : Int32) (H : Heap) (locs : List Loc) (ls : Array Slot), μ4_4 x1_1 x2_2 < n_11 → I4_3 x1_1 x2_2 → va_P G.1 vwCl [(m0, .inr (8, [.ref m1, .ref m2, .ref m3, .ref m4, .ref m5, .ref m6, .ref m7, .ref m8, .ref m9, .int fu, .int fd, .int fi, .int nu, .int nw, .int nf, .int bf, .int bn, .ref m10, .int ts, .int ap, .int fs, .int ln, .int fo, .int fa, .ref m11, .ref m12, .ref m13, .ref m14, .int wr])), aJ G m1 560 mw, aZ G m2 2 ik, aI G m3 20 zs, aI G m4 20 cl, aI G m5 20 hs, aI G m6 20 ks, aI G m7 20 wa, aI G m8 20 ne, aI G m9 4 mn, aI G m10 400 tx, aI G m11 6 th, aI G m12 6 od, aI G m13 30 bk, aI G m14 30 bh] H → va_D A [(m0, .inr (8, [.ref m1, .ref m2, .ref m3, .ref m4, .ref m5, .ref m6, .ref m7, .ref m8, .ref m9, .int fu, .int fd, .int fi, .int nu, .int nw, .int nf, .int bf, .int bn, .ref m10, .int ts, .int ap, .int fs, .int ln, .int fo, .int fa, .ref m11, .ref m12, .ref m13, .ref m14, .int wr])), aJ G m1 560 mw, aZ G m2 2 ik, aI G m3 20 zs, aI G m4 20 cl, aI G m5 20 hs, aI G m6 20 ks, aI G m7 20 wa, aI G m8 20 ne, aI G m9 4 mn, aI G m10 400 tx, aI G m11 6 th, aI G m12 6 od, aI G m13 30 bk, aI G m14 30 bh] → va_S A s.heap H locs → lv_has ls 3 [(2, .int x2_2), (1, .int x1_1), (0, .ref m0)] → W p l e R s m args below meth c H locs 0 0 Q (F0 m 4 ls []) := by
    intro n_11
    induction n_11 with
    | zero => intro x1_1 x2_2 H locs ls hm; exact absurd hm (Nat.not_lt_zero _)
    | succ n_11 ih_5 =>
      intro x1_1 x2_2 H locs ls hI_6 hi hP hD hS hl
      have hv := hs_10 x1_1 x2_2 hi
      refine lv_iload_n hx hb dX8_coldNow_4 rfl (lv_at hl 0 rfl) ?_
      refine lv_aload_n hx hb dX8_coldNow_5 rfl (lv_at hl 2 rfl) ?_
      refine va_get (D := G.1) (ci := 8) (v := .ref m9) (C := RX8) (T := TX8) (N := 29) hx hb hts hinX8 hown hKK.1 hP 0 rfl rfl 8 (by decide) kl36 (fun _ h9 => h9) rfl dX8_coldNow_6 ?_
      refine lv_iconst (v := 1) hx hb dX8_coldNow_9 (by decide) ?_
      refine va_iald hx hb hKK.1 hP 9 0 rfl rfl (by unfold vp_in; decide) dX8_coldNow_10 ?_
      refine lv_icmp_ge (tgt := 34) hx hb dX8_coldNow_11 (by decide) (fun hc_7 => ?_) (fun hc_7 => ?_)
      · have hv := hv.1 hc_7
        refine lv_iload_n hx hb dX8_coldNow_34 rfl (lv_at hl 1 rfl) ?_
        exact x_iret (v := x1_1) () hQ hx hb hr hlocks hS dX8_coldNow_35 hv hP hD
      · have hv := hv.2 hc_7
        refine lv_iload_n hx hb dX8_coldNow_14 rfl (lv_at hl 1 rfl) ?_
        refine lv_aload_n hx hb dX8_coldNow_15 rfl (lv_at hl 2 rfl) ?_
        refine lv_iconst (v := 0) hx hb dX8_coldNow_16 (by decide) ?_
        refine lv_iload_n hx hb dX8_coldNow_17 rfl (lv_at hl 0 rfl) ?_
        obtain ⟨hp, hv⟩ := hv
        refine x_calliR (x_runV (As := [.int 0, .int x2_2]) (rest := [.int x1_1]) (n := 2) (C := RX8) (ci := 8) ⟨hx, hb, hml, hown, hts⟩ (k_X8_isCold l G m0 m1 m2 m3 m4 m5 m6 m7 m8 m9 m10 m11 m12 m13 m14 _ mw ik zs cl hs ks wa ne mn tx th od bk bh fu fd fi nu nw nf bf bn ts ap fs ln fo fa wr 0 x2_2 hp) gX8_coldNow_X8_isCold rfl (by decide +kernel) ⟨Nat.le_trans (Nat.le_of_ble_eq_true rfl) hRf, Nat.le_trans (Nat.le_of_ble_eq_true rfl) hRl⟩ hKK hSS hS hA hP hD [0, 1, 2, 3, 4, 5, 6, 7, 8, 9, 10, 11, 12, 13, 14] (by decide) rfl rfl rfl 0 rfl rfl hl.1 rfl (Nat.le_of_ble_eq_true rfl) dX8_coldNow_18) hP hD hS hA [0, 1, 2, 3, 4, 5, 6, 7, 8, 9, 10, 11, 12, 13, 14] rfl (fun r_8 _ H locs hw hP hS => ?_)
        have hv := hv r_8 hw
        refine x_calliR (x_runS (As := [.int r_8]) (rest := [.int x1_1]) (n := 1) ⟨hx, hb, hml, hown, hts⟩ (k_X8_one l G  _ r_8) gX8_coldNow_X8_one rfl (by decide +kernel) ⟨Nat.le_trans (Nat.le_of_ble_eq_true rfl) hRf, Nat.le_trans (Nat.le_of_ble_eq_true rfl) hRl⟩ hKK hSS hS hA hP hD [] (by decide) rfl rfl hl.1 rfl (Nat.le_of_ble_eq_true rfl) dX8_coldNow_21) hP hD hS hA [] rfl (fun r_9 _ H locs hw hP hS => ?_)
        replace hw := hw.symm; subst hw
        refine lv_iload_n hx hb dX8_coldNow_24 rfl (lv_at hl 0 rfl) ?_
        refine lv_ishl hx hb dX8_coldNow_25 ?_
        refine lv_ior hx hb dX8_coldNow_26 ?_
        refine lv_istore_n (lv' := [(1, .int (x1_1 ||| ((if r_8 = 0 then 0 else 1) <<< (x2_2 &&& 31)))), (2, .int x2_2), (0, .ref m0)]) hx hb dX8_coldNow_27 rfl hl (by decide) rfl (fun ls hl => ?_)
        refine lv_iinc (v := (x2_2 + 1)) (lv' := [(2, .int (x2_2 + 1)), (1, .int (x1_1 ||| ((if r_8 = 0 then 0 else 1) <<< (x2_2 &&& 31)))), (0, .ref m0)]) hx hb dX8_coldNow_28 hl (k := 1) rfl rfl (by decide) rfl (fun ls hl => ?_)
        refine lv_goto (tgt := 4) hx hb dX8_coldNow_31 (by decide) ?_
        exact ih_5 _ _ _ _ _ (Nat.lt_of_lt_of_le hv.2 (Nat.le_of_lt_succ hI_6)) hv.1 hP hD hS hl
  exact Lm_12 _ _ _ _ _ _ (Nat.lt_succ_self _) hi0 hP hD hS hl
theorem k_X8_coldNow (l : Launch) (G : Gt) (m0 m1 m2 m3 m4 m5 m6 m7 m8 m9 m10 m11 m12 m13 m14 : Nat) (sz : Nat) (mw : Nat → Int64) (ik : Nat → Int32) (zs : Nat → Int32) (cl : Nat → Int32) (hs : Nat → Int32) (ks : Nat → Int32) (wa : Nat → Int32) (ne : Nat → Int32) (mn : Nat → Int32) (tx : Nat → Int32) (th : Nat → Int32) (od : Nat → Int32) (bk : Nat → Int32) (bh : Nat → Int32) (fu : Int32) (fd : Int32) (fi : Int32) (nu : Int32) (nw : Int32) (nf : Int32) (bf : Int32) (bn : Int32) (ts : Int32) (ap : Int32) (fs : Int32) (ln : Int32) (fo : Int32) (fa : Int32) (wr : Int32) (hp : True) : MetI l yX8_coldNow wsX8_coldNow 1 22 G [.ref m0] [(m0, .inr (8, [.ref m1, .ref m2, .ref m3, .ref m4, .ref m5, .ref m6, .ref m7, .ref m8, .ref m9, .int fu, .int fd, .int fi, .int nu, .int nw, .int nf, .int bf, .int bn, .ref m10, .int ts, .int ap, .int fs, .int ln, .int fo, .int fa, .ref m11, .ref m12, .ref m13, .ref m14, .int wr])), aJ G m1 560 mw, aZ G m2 2 ik, aI G m3 20 zs, aI G m4 20 cl, aI G m5 20 hs, aI G m6 20 ks, aI G m7 20 wa, aI G m8 20 ne, aI G m9 4 mn, aI G m10 400 tx, aI G m11 6 th, aI G m12 6 od, aI G m13 30 bk, aI G m14 30 bh] sz (fun (r : Int32) (_ : Unit) => True) (fun (_ : Unit) => [(m0, .inr (8, [.ref m1, .ref m2, .ref m3, .ref m4, .ref m5, .ref m6, .ref m7, .ref m8, .ref m9, .int fu, .int fd, .int fi, .int nu, .int nw, .int nf, .int bf, .int bn, .ref m10, .int ts, .int ap, .int fs, .int ln, .int fo, .int fa, .ref m11, .ref m12, .ref m13, .ref m14, .int wr])), aJ G m1 560 mw, aZ G m2 2 ik, aI G m3 20 zs, aI G m4 20 cl, aI G m5 20 hs, aI G m6 20 ks, aI G m7 20 wa, aI G m8 20 ne, aI G m9 4 mn, aI G m10 400 tx, aI G m11 6 th, aI G m12 6 od, aI G m13 30 bk, aI G m14 30 bh]) :=
  c_X8_coldNow l G m0 m1 m2 m3 m4 m5 m6 m7 m8 m9 m10 m11 m12 m13 m14 sz mw ik zs cl hs ks wa ne mn tx th od bk bh fu fd fi nu nw nf bf bn ts ap fs ln fo fa wr (by
    sorry)

set_option maxHeartbeats 4000000 in
set_option maxRecDepth 100000 in
theorem c_X8_go (l : Launch) (G : Gt) (m0 m1 m2 m3 m4 m5 m6 m7 m8 m9 m10 m11 m12 m13 m14 : Nat) (sz : Nat) (mw : Nat → Int64) (ik : Nat → Int32) (zs : Nat → Int32) (cl : Nat → Int32) (hs : Nat → Int32) (ks : Nat → Int32) (wa : Nat → Int32) (ne : Nat → Int32) (mn : Nat → Int32) (tx : Nat → Int32) (th : Nat → Int32) (od : Nat → Int32) (bk : Nat → Int32) (bh : Nat → Int32) (fu : Int32) (fd : Int32) (fi : Int32) (nu : Int32) (nw : Int32) (nf : Int32) (bf : Int32) (bn : Int32) (ts : Int32) (ap : Int32) (fs : Int32) (ln : Int32) (fo : Int32) (fa : Int32) (wr : Int32) (x : Int32) (hv : (¬ x.toInt64 < 1 ∧ ¬ 999 < x.toInt64 → ∃ (I17_5 : (Nat → Int64) → Int32 → Prop) (μ17_6 : (Nat → Int64) → Int32 → Nat), I17_5 mw 0 ∧ (∀ (fm1_3 : (Nat → Int64)) (x2_4 : Int32), I17_5 fm1_3 x2_4 → (x ≤ x2_4 → (True) ∧ (∀ (r_10 : Int32), (True) → (True))) ∧ (¬ (x ≤ x2_4) → (True) ∧ (∀ (r_11 : Int32) (mw2_12 : Nat → Int64), (True) → (I17_5 mw2_12 (x2_4 + 1) ∧ μ17_6 mw2_12 (x2_4 + 1) < μ17_6 fm1_3 x2_4))))) ∧ (¬ (¬ x.toInt64 < 1 ∧ ¬ 999 < x.toInt64) → True)) : MetI l yX8_go wsX8_go 4 101 G [.ref m0, .int x] [(m0, .inr (8, [.ref m1, .ref m2, .ref m3, .ref m4, .ref m5, .ref m6, .ref m7, .ref m8, .ref m9, .int fu, .int fd, .int fi, .int nu, .int nw, .int nf, .int bf, .int bn, .ref m10, .int ts, .int ap, .int fs, .int ln, .int fo, .int fa, .ref m11, .ref m12, .ref m13, .ref m14, .int wr])), aJ G m1 560 mw, aZ G m2 2 ik, aI G m3 20 zs, aI G m4 20 cl, aI G m5 20 hs, aI G m6 20 ks, aI G m7 20 wa, aI G m8 20 ne, aI G m9 4 mn, aI G m10 400 tx, aI G m11 6 th, aI G m12 6 od, aI G m13 30 bk, aI G m14 30 bh] sz (fun (r : Int32) (u : (Nat → Int64)) => True) (fun (u : (Nat → Int64)) => [(m0, .inr (8, [.ref m1, .ref m2, .ref m3, .ref m4, .ref m5, .ref m6, .ref m7, .ref m8, .ref m9, .int fu, .int fd, .int fi, .int nu, .int nw, .int nf, .int bf, .int bn, .ref m10, .int ts, .int ap, .int fs, .int ln, .int fo, .int fa, .ref m11, .ref m12, .ref m13, .ref m14, .int wr])), aJ G m1 560 u, aZ G m2 2 ik, aI G m3 20 zs, aI G m4 20 cl, aI G m5 20 hs, aI G m6 20 ks, aI G m7 20 wa, aI G m8 20 ne, aI G m9 4 mn, aI G m10 400 tx, aI G m11 6 th, aI G m12 6 od, aI G m13 30 bk, aI G m14 30 bh]) := by
  refine x_startI (cc := cX8_go) (maxL := 4) (ret := (some .int)) (by decide) rfl (Nat.le_of_ble_eq_true rfl) ?_
  intro p e s m args below meth c A R Q ls hRf hRl hQ C hP hD hS hA hSS hl
  obtain ⟨hx, hb, hr, hml, hown, hts, hlocks, hKK⟩ := C
  have hown : s.vm.findClass RX8 = some m.cls := hown
  have hl : lv_has ls 4 [(0, .ref m0), (1, .int x)] := hl
  have kl199 := hts (.constantLong RX8 199 (999)) (by decide +kernel)
  have kl73 := hts (.constant RX8 73 (-1000000002)) (by decide +kernel)
  refine lv_iload_n hx hb dX8_go_0 rfl (lv_at hl 1 rfl) ?_
  refine lv_i2l hx hb dX8_go_1 rfl ?_
  refine lv_lconst (v := 1) hx hb dX8_go_2 (by decide) ?_
  refine lv_ldc2 (v := 999) hx hb hown kl199 dX8_go_3 ?_
  refine x_calliR (x_runS (As := [.long x.toInt64, .long 1, .long 999]) (rest := []) (n := 3) ⟨hx, hb, hml, hown, hts⟩ (k_X8_in l G  _ x.toInt64 1 999) gX8_go_X8_in rfl (by decide +kernel) ⟨Nat.le_trans (Nat.le_of_ble_eq_true rfl) hRf, Nat.le_trans (Nat.le_of_ble_eq_true rfl) hRl⟩ hKK hSS hS hA hP hD [] (by decide) rfl rfl hl.1 rfl (Nat.le_of_ble_eq_true rfl) dX8_go_6) hP hD hS hA [] rfl (fun r_1 _ H locs hw hP hS => ?_)
  replace hw := hw.symm; subst hw
  refine lv_if_ne (tgt := 15) hx hb dX8_go_9 (by decide) (fun hc_2 => ?_) (fun hc_2 => ?_)
  · have hv := hv.1 (tv_eqn.mp hc_2)
    refine lv_iconst (v := 0) hx hb dX8_go_15 (by decide) ?_
    refine lv_istore_n (lv' := [(2, .int 0), (0, .ref m0), (1, .int x)]) hx hb dX8_go_16 rfl hl (by decide) rfl (fun ls hl => ?_)
    obtain ⟨I17_5, μ17_6, hi0, hs_13⟩ := hv
    have Lm_15 : ∀ (n_14 : Nat) (fm1_3 : (Nat → Int64)) (x2_4 : Int32) (H : Heap) (locs : List Loc) (ls : Array Slot), μ17_6 fm1_3 x2_4 < n_14 → I17_5 fm1_3 x2_4 → va_P G.1 vwCl [(m0, .inr (8, [.ref m1, .ref m2, .ref m3, .ref m4, .ref m5, .ref m6, .ref m7, .ref m8, .ref m9, .int fu, .int fd, .int fi, .int nu, .int nw, .int nf, .int bf, .int bn, .ref m10, .int ts, .int ap, .int fs, .int ln, .int fo, .int fa, .ref m11, .ref m12, .ref m13, .ref m14, .int wr])), aJ G m1 560 fm1_3, aZ G m2 2 ik, aI G m3 20 zs, aI G m4 20 cl, aI G m5 20 hs, aI G m6 20 ks, aI G m7 20 wa, aI G m8 20 ne, aI G m9 4 mn, aI G m10 400 tx, aI G m11 6 th, aI G m12 6 od, aI G m13 30 bk, aI G m14 30 bh] H → va_D A [(m0, .inr (8, [.ref m1, .ref m2, .ref m3, .ref m4, .ref m5, .ref m6, .ref m7, .ref m8, .ref m9, .int fu, .int fd, .int fi, .int nu, .int nw, .int nf, .int bf, .int bn, .ref m10, .int ts, .int ap, .int fs, .int ln, .int fo, .int fa, .ref m11, .ref m12, .ref m13, .ref m14, .int wr])), aJ G m1 560 fm1_3, aZ G m2 2 ik, aI G m3 20 zs, aI G m4 20 cl, aI G m5 20 hs, aI G m6 20 ks, aI G m7 20 wa, aI G m8 20 ne, aI G m9 4 mn, aI G m10 400 tx, aI G m11 6 th, aI G m12 6 od, aI G m13 30 bk, aI G m14 30 bh] → va_S A s.heap H locs → lv_has ls 4 [(2, .int x2_4), (0, .ref m0), (1, .int x)] → W p l e R s m args below meth c H locs 0 0 Q (F0 m 17 ls []) := by
      intro n_14
      induction n_14 with
      | zero => intro fm1_3 x2_4 H locs ls hm; exact absurd hm (Nat.not_lt_zero _)
      | succ n_14 ih_7 =>
        intro fm1_3 x2_4 H locs ls hI_8 hi hP hD hS hl
        have hv := hs_13 fm1_3 x2_4 hi
        refine lv_iload_n hx hb dX8_go_17 rfl (lv_at hl 0 rfl) ?_
        refine lv_iload_n hx hb dX8_go_18 rfl (lv_at hl 2 rfl) ?_
        refine lv_icmp_ge (tgt := 34) hx hb dX8_go_19 (by decide) (fun hc_9 => ?_) (fun hc_9 => ?_)
        · have hv := hv.1 hc_9
          refine lv_aload_n hx hb dX8_go_34 rfl (lv_at hl 1 rfl) ?_
          obtain ⟨hp, hv⟩ := hv
          refine x_calliR (x_runV (As := []) (rest := []) (n := 0) (C := RX8) (ci := 8) ⟨hx, hb, hml, hown, hts⟩ (k_X8_coldNow l G m0 m1 m2 m3 m4 m5 m6 m7 m8 m9 m10 m11 m12 m13 m14 _ fm1_3 ik zs cl hs ks wa ne mn tx th od bk bh fu fd fi nu nw nf bf bn ts ap fs ln fo fa wr hp) gX8_go_X8_coldNow rfl (by decide +kernel) ⟨Nat.le_trans (Nat.le_of_ble_eq_true rfl) hRf, Nat.le_trans (Nat.le_of_ble_eq_true rfl) hRl⟩ hKK hSS hS hA hP hD [0, 1, 2, 3, 4, 5, 6, 7, 8, 9, 10, 11, 12, 13, 14] (by decide) rfl rfl rfl 0 rfl rfl hl.1 rfl (Nat.le_of_ble_eq_true rfl) dX8_go_35) hP hD hS hA [0, 1, 2, 3, 4, 5, 6, 7, 8, 9, 10, 11, 12, 13, 14] rfl (fun r_10 _ H locs hw hP hS => ?_)
          have hv := hv r_10 hw
          exact x_iret (v := r_10) fm1_3 hQ hx hb hr hlocks hS dX8_go_38 hv hP hD
        · have hv := hv.2 hc_9
          refine lv_aload_n hx hb dX8_go_22 rfl (lv_at hl 1 rfl) ?_
          refine lv_iconst (v := 0) hx hb dX8_go_23 (by decide) ?_
          obtain ⟨hp, hv⟩ := hv
          refine x_calli (wr := []) (w' := fun (u : (Nat → Int64)) => [(m0, .inr (8, [.ref m1, .ref m2, .ref m3, .ref m4, .ref m5, .ref m6, .ref m7, .ref m8, .ref m9, .int fu, .int fd, .int fi, .int nu, .int nw, .int nf, .int bf, .int bn, .ref m10, .int ts, .int ap, .int fs, .int ln, .int fo, .int fa, .ref m11, .ref m12, .ref m13, .ref m14, .int wr])), aJ G m1 560 u, aZ G m2 2 ik, aI G m3 20 zs, aI G m4 20 cl, aI G m5 20 hs, aI G m6 20 ks, aI G m7 20 wa, aI G m8 20 ne, aI G m9 4 mn, aI G m10 400 tx, aI G m11 6 th, aI G m12 6 od, aI G m13 30 bk, aI G m14 30 bh]) (x_runV (As := [.int 0]) (rest := []) (n := 1) (C := RX8) (ci := 8) ⟨hx, hb, hml, hown, hts⟩ (k_X8_pass l G m0 m1 m2 m3 m4 m5 m6 m7 m8 m9 m10 m11 m12 m13 m14 _ fm1_3 ik zs cl hs ks wa ne mn tx th od bk bh fu fd fi nu nw nf bf bn ts ap fs ln fo fa wr 0 hp) gX8_go_X8_pass rfl (by decide +kernel) ⟨Nat.le_trans (Nat.le_of_ble_eq_true rfl) hRf, Nat.le_trans (Nat.le_of_ble_eq_true rfl) hRl⟩ hKK hSS hS hA hP hD [0, 1, 2, 3, 4, 5, 6, 7, 8, 9, 10, 11, 12, 13, 14] (by decide) rfl rfl rfl 0 rfl rfl hl.1 rfl (Nat.le_of_ble_eq_true rfl) dX8_go_24) hP hD hS hA [0, 1, 2, 3, 4, 5, 6, 7, 8, 9, 10, 11, 12, 13, 14] [] [0, 1, 2, 3, 4, 5, 6, 7, 8, 9, 10, 11, 12, 13, 14] rfl rfl (by decide) (by decide) (by decide) (fun _ => rfl) (fun r_11 u H locs hw hP hD hS => ?_)
          obtain ⟨mw2_12, rfl⟩ : ∃ z, z = u := ⟨_, rfl⟩
          have hP : va_P G.1 vwCl [(m0, .inr (8, [.ref m1, .ref m2, .ref m3, .ref m4, .ref m5, .ref m6, .ref m7, .ref m8, .ref m9, .int fu, .int fd, .int fi, .int nu, .int nw, .int nf, .int bf, .int bn, .ref m10, .int ts, .int ap, .int fs, .int ln, .int fo, .int fa, .ref m11, .ref m12, .ref m13, .ref m14, .int wr])), aJ G m1 560 mw2_12, aZ G m2 2 ik, aI G m3 20 zs, aI G m4 20 cl, aI G m5 20 hs, aI G m6 20 ks, aI G m7 20 wa, aI G m8 20 ne, aI G m9 4 mn, aI G m10 400 tx, aI G m11 6 th, aI G m12 6 od, aI G m13 30 bk, aI G m14 30 bh] H := hP
          have hD : va_D A [(m0, .inr (8, [.ref m1, .ref m2, .ref m3, .ref m4, .ref m5, .ref m6, .ref m7, .ref m8, .ref m9, .int fu, .int fd, .int fi, .int nu, .int nw, .int nf, .int bf, .int bn, .ref m10, .int ts, .int ap, .int fs, .int ln, .int fo, .int fa, .ref m11, .ref m12, .ref m13, .ref m14, .int wr])), aJ G m1 560 mw2_12, aZ G m2 2 ik, aI G m3 20 zs, aI G m4 20 cl, aI G m5 20 hs, aI G m6 20 ks, aI G m7 20 wa, aI G m8 20 ne, aI G m9 4 mn, aI G m10 400 tx, aI G m11 6 th, aI G m12 6 od, aI G m13 30 bk, aI G m14 30 bh] := hD
          have hv := hv r_11 mw2_12 hw
          refine lv_istore_n (lv' := [(3, .int r_11), (2, .int x2_4), (0, .ref m0), (1, .int x)]) hx hb dX8_go_27 rfl hl (by decide) rfl (fun ls hl => ?_)
          refine lv_iinc (v := (x2_4 + 1)) (lv' := [(2, .int (x2_4 + 1)), (3, .int r_11), (0, .ref m0), (1, .int x)]) hx hb dX8_go_28 hl (k := 1) rfl rfl (by decide) rfl (fun ls hl => ?_)
          refine lv_goto (tgt := 17) hx hb dX8_go_31 (by decide) ?_
          exact ih_7 _ _ _ _ _ (Nat.lt_of_lt_of_le hv.2 (Nat.le_of_lt_succ hI_8)) hv.1 hP hD hS (lv_sub hl [0, 2, 3] rfl)
    exact Lm_15 _ _ _ _ _ _ (Nat.lt_succ_self _) hi0 hP hD hS hl
  · have hv := hv.2 (tv_eq.mp hc_2)
    refine lv_ldc (v := (-1000000002)) hx hb hown kl73 dX8_go_12 ?_
    exact x_iret (v := (-1000000002)) mw hQ hx hb hr hlocks hS dX8_go_14 hv hP hD
theorem k_X8_go (l : Launch) (G : Gt) (m0 m1 m2 m3 m4 m5 m6 m7 m8 m9 m10 m11 m12 m13 m14 : Nat) (sz : Nat) (mw : Nat → Int64) (ik : Nat → Int32) (zs : Nat → Int32) (cl : Nat → Int32) (hs : Nat → Int32) (ks : Nat → Int32) (wa : Nat → Int32) (ne : Nat → Int32) (mn : Nat → Int32) (tx : Nat → Int32) (th : Nat → Int32) (od : Nat → Int32) (bk : Nat → Int32) (bh : Nat → Int32) (fu : Int32) (fd : Int32) (fi : Int32) (nu : Int32) (nw : Int32) (nf : Int32) (bf : Int32) (bn : Int32) (ts : Int32) (ap : Int32) (fs : Int32) (ln : Int32) (fo : Int32) (fa : Int32) (wr : Int32) (x : Int32) (hp : True) : MetI l yX8_go wsX8_go 4 101 G [.ref m0, .int x] [(m0, .inr (8, [.ref m1, .ref m2, .ref m3, .ref m4, .ref m5, .ref m6, .ref m7, .ref m8, .ref m9, .int fu, .int fd, .int fi, .int nu, .int nw, .int nf, .int bf, .int bn, .ref m10, .int ts, .int ap, .int fs, .int ln, .int fo, .int fa, .ref m11, .ref m12, .ref m13, .ref m14, .int wr])), aJ G m1 560 mw, aZ G m2 2 ik, aI G m3 20 zs, aI G m4 20 cl, aI G m5 20 hs, aI G m6 20 ks, aI G m7 20 wa, aI G m8 20 ne, aI G m9 4 mn, aI G m10 400 tx, aI G m11 6 th, aI G m12 6 od, aI G m13 30 bk, aI G m14 30 bh] sz (fun (r : Int32) (u : (Nat → Int64)) => True) (fun (u : (Nat → Int64)) => [(m0, .inr (8, [.ref m1, .ref m2, .ref m3, .ref m4, .ref m5, .ref m6, .ref m7, .ref m8, .ref m9, .int fu, .int fd, .int fi, .int nu, .int nw, .int nf, .int bf, .int bn, .ref m10, .int ts, .int ap, .int fs, .int ln, .int fo, .int fa, .ref m11, .ref m12, .ref m13, .ref m14, .int wr])), aJ G m1 560 u, aZ G m2 2 ik, aI G m3 20 zs, aI G m4 20 cl, aI G m5 20 hs, aI G m6 20 ks, aI G m7 20 wa, aI G m8 20 ne, aI G m9 4 mn, aI G m10 400 tx, aI G m11 6 th, aI G m12 6 od, aI G m13 30 bk, aI G m14 30 bh]) :=
  c_X8_go l G m0 m1 m2 m3 m4 m5 m6 m7 m8 m9 m10 m11 m12 m13 m14 sz mw ik zs cl hs ks wa ne mn tx th od bk bh fu fd fi nu nw nf bf bn ts ap fs ln fo fa wr x (by
    sorry)

set_option maxHeartbeats 4000000 in
set_option maxRecDepth 100000 in
theorem c_X8_draw (l : Launch) (G : Gt) (m0 m1 m2 m3 m4 m5 m6 m7 m8 m9 m10 m11 m12 m13 m14 : Nat) (sz : Nat) (mw : Nat → Int64) (ik : Nat → Int32) (zs : Nat → Int32) (cl : Nat → Int32) (hs : Nat → Int32) (ks : Nat → Int32) (wa : Nat → Int32) (ne : Nat → Int32) (mn : Nat → Int32) (tx : Nat → Int32) (th : Nat → Int32) (od : Nat → Int32) (bk : Nat → Int32) (bh : Nat → Int32) (fu : Int32) (fd : Int32) (fi : Int32) (nu : Int32) (nw : Int32) (nf : Int32) (bf : Int32) (bn : Int32) (ts : Int32) (ap : Int32) (fs : Int32) (ln : Int32) (fo : Int32) (fa : Int32) (wr : Int32) (x : Int32) (hv : (¬ x.toInt64 = 0) ∧ (True)) : MetI l yX8_draw wsX8_draw 0 0 G [.ref m0, .int x] [(m0, .inr (8, [.ref m1, .ref m2, .ref m3, .ref m4, .ref m5, .ref m6, .ref m7, .ref m8, .ref m9, .int fu, .int fd, .int fi, .int nu, .int nw, .int nf, .int bf, .int bn, .ref m10, .int ts, .int ap, .int fs, .int ln, .int fo, .int fa, .ref m11, .ref m12, .ref m13, .ref m14, .int wr])), aJ G m1 560 mw, aZ G m2 2 ik, aI G m3 20 zs, aI G m4 20 cl, aI G m5 20 hs, aI G m6 20 ks, aI G m7 20 wa, aI G m8 20 ne, aI G m9 4 mn, aI G m10 400 tx, aI G m11 6 th, aI G m12 6 od, aI G m13 30 bk, aI G m14 30 bh] sz (fun (r : Int32) (u : (Nat → Int64)) => True) (fun (u : (Nat → Int64)) => [(m0, .inr (8, [.ref m1, .ref m2, .ref m3, .ref m4, .ref m5, .ref m6, .ref m7, .ref m8, .ref m9, .int fu, .int fd, .int fi, .int nu, .int nw, .int nf, .int bf, .int bn, .ref m10, .int ts, .int ap, .int fs, .int ln, .int fo, .int fa, .ref m11, .ref m12, .ref m13, .ref m14, .int wr])), aJ G m1 560 u, aZ G m2 2 ik, aI G m3 20 zs, aI G m4 20 cl, aI G m5 20 hs, aI G m6 20 ks, aI G m7 20 wa, aI G m8 20 ne, aI G m9 4 mn, aI G m10 400 tx, aI G m11 6 th, aI G m12 6 od, aI G m13 30 bk, aI G m14 30 bh]) := by
  refine x_startI (cc := cX8_draw) (maxL := 2) (ret := (some .int)) (by decide) rfl (Nat.le_of_ble_eq_true rfl) ?_
  intro p e s m args below meth c A R Q ls hRf hRl hQ C hP hD hS hA hSS hl
  obtain ⟨hx, hb, hr, hml, hown, hts, hlocks, hKK⟩ := C
  have hown : s.vm.findClass RX8 = some m.cls := hown
  have hl : lv_has ls 2 [(0, .ref m0), (1, .int x)] := hl
  have hinX8 : ∀ w ∈ u_ws RX8 TX8 29, w ∈ wsX8_draw := by decide +kernel
  have kl208 := hts (.constantLong RX8 208 (1103515245)) (by decide +kernel)
  have kl210 := hts (.constantLong RX8 210 (12345)) (by decide +kernel)
  have kl212 := hts (.constantLong RX8 212 (2147483648)) (by decide +kernel)
  have kl214 := hts (.constantLong RX8 214 (65536)) (by decide +kernel)
  have kl7 := hts (.fieldLink RX8 7 "WarmStonesModel" "w" "[J") (by decide +kernel)
  refine lv_aload_n hx hb dX8_draw_0 rfl (lv_at hl 0 rfl) ?_
  refine va_get (D := G.1) (ci := 8) (v := .ref m1) (C := RX8) (T := TX8) (N := 29) hx hb hts hinX8 hown hKK.1 hP 0 rfl rfl 0 (by decide) kl7 (fun _ h9 => h9) rfl dX8_draw_1 ?_
  refine lv_sipush (v := 133) hx hb dX8_draw_4 (by decide) ?_
  refine lv_aload_n hx hb dX8_draw_7 rfl (lv_at hl 0 rfl) ?_
  refine va_get (D := G.1) (ci := 8) (v := .ref m1) (C := RX8) (T := TX8) (N := 29) hx hb hts hinX8 hown hKK.1 hP 0 rfl rfl 0 (by decide) kl7 (fun _ h9 => h9) rfl dX8_draw_8 ?_
  refine lv_sipush (v := 133) hx hb dX8_draw_11 (by decide) ?_
  refine va_lald hx hb hKK.1 hP 1 2 rfl rfl (by unfold vp_in; decide) dX8_draw_14 ?_
  refine lv_ldc2 (v := 1103515245) hx hb hown kl208 dX8_draw_15 ?_
  refine lv_lmul hx hb dX8_draw_18 ?_
  refine lv_ldc2 (v := 12345) hx hb hown kl210 dX8_draw_19 ?_
  refine lv_ladd hx hb dX8_draw_22 ?_
  refine lv_ldc2 (v := 2147483648) hx hb hown kl212 dX8_draw_23 ?_
  refine lv_lrem hx hb dX8_draw_26 (by decide) ?_
  refine va_last hx hb hKK.1 hP hD hS 1 2 rfl rfl (by unfold vp_in; decide) dX8_draw_27 (fun H locs hP hD hS => ?_)
  have hP : va_P G.1 vwCl [(m0, .inr (8, [.ref m1, .ref m2, .ref m3, .ref m4, .ref m5, .ref m6, .ref m7, .ref m8, .ref m9, .int fu, .int fd, .int fi, .int nu, .int nw, .int nf, .int bf, .int bn, .ref m10, .int ts, .int ap, .int fs, .int ln, .int fo, .int fa, .ref m11, .ref m12, .ref m13, .ref m14, .int wr])), aJ G m1 560 (vp_updL mw 133 ((((mw 133) * 1103515245) + 12345) - (((mw 133) * 1103515245) + 12345) / 2147483648 * 2147483648)), aZ G m2 2 ik, aI G m3 20 zs, aI G m4 20 cl, aI G m5 20 hs, aI G m6 20 ks, aI G m7 20 wa, aI G m8 20 ne, aI G m9 4 mn, aI G m10 400 tx, aI G m11 6 th, aI G m12 6 od, aI G m13 30 bk, aI G m14 30 bh] H := hP
  have hD : va_D A [(m0, .inr (8, [.ref m1, .ref m2, .ref m3, .ref m4, .ref m5, .ref m6, .ref m7, .ref m8, .ref m9, .int fu, .int fd, .int fi, .int nu, .int nw, .int nf, .int bf, .int bn, .ref m10, .int ts, .int ap, .int fs, .int ln, .int fo, .int fa, .ref m11, .ref m12, .ref m13, .ref m14, .int wr])), aJ G m1 560 (vp_updL mw 133 ((((mw 133) * 1103515245) + 12345) - (((mw 133) * 1103515245) + 12345) / 2147483648 * 2147483648)), aZ G m2 2 ik, aI G m3 20 zs, aI G m4 20 cl, aI G m5 20 hs, aI G m6 20 ks, aI G m7 20 wa, aI G m8 20 ne, aI G m9 4 mn, aI G m10 400 tx, aI G m11 6 th, aI G m12 6 od, aI G m13 30 bk, aI G m14 30 bh] := hD
  refine lv_aload_n hx hb dX8_draw_28 rfl (lv_at hl 0 rfl) ?_
  refine va_get (D := G.1) (ci := 8) (v := .ref m1) (C := RX8) (T := TX8) (N := 29) hx hb hts hinX8 hown hKK.1 hP 0 rfl rfl 0 (by decide) kl7 (fun _ h9 => h9) rfl dX8_draw_29 ?_
  refine lv_sipush (v := 133) hx hb dX8_draw_32 (by decide) ?_
  refine va_lald hx hb hKK.1 hP 1 2 rfl rfl (by unfold vp_in; decide) dX8_draw_35 ?_
  refine lv_ldc2 (v := 65536) hx hb hown kl214 dX8_draw_36 ?_
  refine lv_ldiv hx hb dX8_draw_39 (by decide) ?_
  refine lv_iload_n hx hb dX8_draw_40 rfl (lv_at hl 1 rfl) ?_
  refine lv_i2l hx hb dX8_draw_41 rfl ?_
  obtain ⟨hne, hv⟩ := hv
  refine lv_lrem hx hb dX8_draw_42 hne ?_
  refine lv_l2i hx hb dX8_draw_43 rfl ?_
  exact x_iret (v := ((((vp_updL mw 133 ((((mw 133) * 1103515245) + 12345) - (((mw 133) * 1103515245) + 12345) / 2147483648 * 2147483648)) 133) / 65536) - (((vp_updL mw 133 ((((mw 133) * 1103515245) + 12345) - (((mw 133) * 1103515245) + 12345) / 2147483648 * 2147483648)) 133) / 65536) / x.toInt64 * x.toInt64).toInt32) (vp_updL mw 133 ((((mw 133) * 1103515245) + 12345) - (((mw 133) * 1103515245) + 12345) / 2147483648 * 2147483648)) hQ hx hb hr hlocks hS dX8_draw_44 hv hP hD
theorem k_X8_draw (l : Launch) (G : Gt) (m0 m1 m2 m3 m4 m5 m6 m7 m8 m9 m10 m11 m12 m13 m14 : Nat) (sz : Nat) (mw : Nat → Int64) (ik : Nat → Int32) (zs : Nat → Int32) (cl : Nat → Int32) (hs : Nat → Int32) (ks : Nat → Int32) (wa : Nat → Int32) (ne : Nat → Int32) (mn : Nat → Int32) (tx : Nat → Int32) (th : Nat → Int32) (od : Nat → Int32) (bk : Nat → Int32) (bh : Nat → Int32) (fu : Int32) (fd : Int32) (fi : Int32) (nu : Int32) (nw : Int32) (nf : Int32) (bf : Int32) (bn : Int32) (ts : Int32) (ap : Int32) (fs : Int32) (ln : Int32) (fo : Int32) (fa : Int32) (wr : Int32) (x : Int32) (hp : True) : MetI l yX8_draw wsX8_draw 0 0 G [.ref m0, .int x] [(m0, .inr (8, [.ref m1, .ref m2, .ref m3, .ref m4, .ref m5, .ref m6, .ref m7, .ref m8, .ref m9, .int fu, .int fd, .int fi, .int nu, .int nw, .int nf, .int bf, .int bn, .ref m10, .int ts, .int ap, .int fs, .int ln, .int fo, .int fa, .ref m11, .ref m12, .ref m13, .ref m14, .int wr])), aJ G m1 560 mw, aZ G m2 2 ik, aI G m3 20 zs, aI G m4 20 cl, aI G m5 20 hs, aI G m6 20 ks, aI G m7 20 wa, aI G m8 20 ne, aI G m9 4 mn, aI G m10 400 tx, aI G m11 6 th, aI G m12 6 od, aI G m13 30 bk, aI G m14 30 bh] sz (fun (r : Int32) (u : (Nat → Int64)) => True) (fun (u : (Nat → Int64)) => [(m0, .inr (8, [.ref m1, .ref m2, .ref m3, .ref m4, .ref m5, .ref m6, .ref m7, .ref m8, .ref m9, .int fu, .int fd, .int fi, .int nu, .int nw, .int nf, .int bf, .int bn, .ref m10, .int ts, .int ap, .int fs, .int ln, .int fo, .int fa, .ref m11, .ref m12, .ref m13, .ref m14, .int wr])), aJ G m1 560 u, aZ G m2 2 ik, aI G m3 20 zs, aI G m4 20 cl, aI G m5 20 hs, aI G m6 20 ks, aI G m7 20 wa, aI G m8 20 ne, aI G m9 4 mn, aI G m10 400 tx, aI G m11 6 th, aI G m12 6 od, aI G m13 30 bk, aI G m14 30 bh]) :=
  c_X8_draw l G m0 m1 m2 m3 m4 m5 m6 m7 m8 m9 m10 m11 m12 m13 m14 sz mw ik zs cl hs ks wa ne mn tx th od bk bh fu fd fi nu nw nf bf bn ts ap fs ln fo fa wr x (by
    sorry)

set_option maxHeartbeats 4000000 in
set_option maxRecDepth 100000 in
theorem c_X8_wander (l : Launch) (G : Gt) (m0 m1 m2 m3 m4 m5 m6 m7 m8 m9 m10 m11 m12 m13 m14 : Nat) (sz : Nat) (mw : Nat → Int64) (ik : Nat → Int32) (zs : Nat → Int32) (cl : Nat → Int32) (hs : Nat → Int32) (ks : Nat → Int32) (wa : Nat → Int32) (ne : Nat → Int32) (mn : Nat → Int32) (tx : Nat → Int32) (th : Nat → Int32) (od : Nat → Int32) (bk : Nat → Int32) (bh : Nat → Int32) (fu : Int32) (fd : Int32) (fi : Int32) (nu : Int32) (nw : Int32) (nf : Int32) (bf : Int32) (bn : Int32) (ts : Int32) (ap : Int32) (fs : Int32) (ln : Int32) (fo : Int32) (fa : Int32) (wr : Int32) (x : Int32) (hv : (True) ∧ (∀ (r_1 : Int32) (mw2_2 : Nat → Int64), (True) → ((¬ r_1 = 0 → True) ∧ (r_1 = 0 → (vp_in (20 + x) 560) ∧ ((True) ∧ (∀ (r_4 : Int32) (mw2_5 : Nat → Int64), (True) → (((mn 0) ≤ r_4 → (vp_in (20 + x) 560) ∧ (True)) ∧ (¬ ((mn 0) ≤ r_4) → (True) ∧ (∀ (r_7 : Int32), (True) → ((0 ≤ r_7 → (vp_in (20 + x) 560) ∧ (True)) ∧ (¬ (0 ≤ r_7) → (vp_in (20 + x) 560) ∧ (True)))))))))))) : MetV l yX8_wander wsX8_wander 1 23 G [.ref m0, .int x] [(m0, .inr (8, [.ref m1, .ref m2, .ref m3, .ref m4, .ref m5, .ref m6, .ref m7, .ref m8, .ref m9, .int fu, .int fd, .int fi, .int nu, .int nw, .int nf, .int bf, .int bn, .ref m10, .int ts, .int ap, .int fs, .int ln, .int fo, .int fa, .ref m11, .ref m12, .ref m13, .ref m14, .int wr])), aJ G m1 560 mw, aZ G m2 2 ik, aI G m3 20 zs, aI G m4 20 cl, aI G m5 20 hs, aI G m6 20 ks, aI G m7 20 wa, aI G m8 20 ne, aI G m9 4 mn, aI G m10 400 tx, aI G m11 6 th, aI G m12 6 od, aI G m13 30 bk, aI G m14 30 bh] sz (fun (u : (Nat → Int64)) => True) (fun (u : (Nat → Int64)) => [(m0, .inr (8, [.ref m1, .ref m2, .ref m3, .ref m4, .ref m5, .ref m6, .ref m7, .ref m8, .ref m9, .int fu, .int fd, .int fi, .int nu, .int nw, .int nf, .int bf, .int bn, .ref m10, .int ts, .int ap, .int fs, .int ln, .int fo, .int fa, .ref m11, .ref m12, .ref m13, .ref m14, .int wr])), aJ G m1 560 u, aZ G m2 2 ik, aI G m3 20 zs, aI G m4 20 cl, aI G m5 20 hs, aI G m6 20 ks, aI G m7 20 wa, aI G m8 20 ne, aI G m9 4 mn, aI G m10 400 tx, aI G m11 6 th, aI G m12 6 od, aI G m13 30 bk, aI G m14 30 bh]) := by
  refine x_startV (cc := cX8_wander) (maxL := 3) (ret := none) (by decide) rfl (Nat.le_of_ble_eq_true rfl) ?_
  intro p e s m args below meth c A R Q ls hRf hRl hQ C hP hD hS hA hSS hl
  obtain ⟨hx, hb, hr, hml, hown, hts, hlocks, hKK⟩ := C
  have hown : s.vm.findClass RX8 = some m.cls := hown
  have hl : lv_has ls 3 [(0, .ref m0), (1, .int x)] := hl
  have hinX8 : ∀ w ∈ u_ws RX8 TX8 29, w ∈ wsX8_wander := by decide +kernel
  have kl152 := hts (.constantLong RX8 152 (-1)) (by decide +kernel)
  have kl36 := hts (.fieldLink RX8 36 "WarmStonesModel" "many" "[I") (by decide +kernel)
  have kl7 := hts (.fieldLink RX8 7 "WarmStonesModel" "w" "[J") (by decide +kernel)
  refine lv_aload_n hx hb dX8_wander_0 rfl (lv_at hl 0 rfl) ?_
  refine lv_iconst (v := 4) hx hb dX8_wander_1 (by decide) ?_
  obtain ⟨hp, hv⟩ := hv
  refine x_calli (wr := []) (w' := fun (u : (Nat → Int64)) => [(m0, .inr (8, [.ref m1, .ref m2, .ref m3, .ref m4, .ref m5, .ref m6, .ref m7, .ref m8, .ref m9, .int fu, .int fd, .int fi, .int nu, .int nw, .int nf, .int bf, .int bn, .ref m10, .int ts, .int ap, .int fs, .int ln, .int fo, .int fa, .ref m11, .ref m12, .ref m13, .ref m14, .int wr])), aJ G m1 560 u, aZ G m2 2 ik, aI G m3 20 zs, aI G m4 20 cl, aI G m5 20 hs, aI G m6 20 ks, aI G m7 20 wa, aI G m8 20 ne, aI G m9 4 mn, aI G m10 400 tx, aI G m11 6 th, aI G m12 6 od, aI G m13 30 bk, aI G m14 30 bh]) (x_runV (As := [.int 4]) (rest := []) (n := 1) (C := RX8) (ci := 8) ⟨hx, hb, hml, hown, hts⟩ (k_X8_draw l G m0 m1 m2 m3 m4 m5 m6 m7 m8 m9 m10 m11 m12 m13 m14 _ mw ik zs cl hs ks wa ne mn tx th od bk bh fu fd fi nu nw nf bf bn ts ap fs ln fo fa wr 4 hp) gX8_wander_X8_draw rfl (by decide +kernel) ⟨Nat.le_trans (Nat.le_of_ble_eq_true rfl) hRf, Nat.le_trans (Nat.le_of_ble_eq_true rfl) hRl⟩ hKK hSS hS hA hP hD [0, 1, 2, 3, 4, 5, 6, 7, 8, 9, 10, 11, 12, 13, 14] (by decide) rfl rfl rfl 0 rfl rfl hl.1 rfl (Nat.le_of_ble_eq_true rfl) dX8_wander_2) hP hD hS hA [0, 1, 2, 3, 4, 5, 6, 7, 8, 9, 10, 11, 12, 13, 14] [] [0, 1, 2, 3, 4, 5, 6, 7, 8, 9, 10, 11, 12, 13, 14] rfl rfl (by decide) (by decide) (by decide) (fun _ => rfl) (fun r_1 u H locs hw hP hD hS => ?_)
  obtain ⟨mw2_2, rfl⟩ : ∃ z, z = u := ⟨_, rfl⟩
  have hP : va_P G.1 vwCl [(m0, .inr (8, [.ref m1, .ref m2, .ref m3, .ref m4, .ref m5, .ref m6, .ref m7, .ref m8, .ref m9, .int fu, .int fd, .int fi, .int nu, .int nw, .int nf, .int bf, .int bn, .ref m10, .int ts, .int ap, .int fs, .int ln, .int fo, .int fa, .ref m11, .ref m12, .ref m13, .ref m14, .int wr])), aJ G m1 560 mw2_2, aZ G m2 2 ik, aI G m3 20 zs, aI G m4 20 cl, aI G m5 20 hs, aI G m6 20 ks, aI G m7 20 wa, aI G m8 20 ne, aI G m9 4 mn, aI G m10 400 tx, aI G m11 6 th, aI G m12 6 od, aI G m13 30 bk, aI G m14 30 bh] H := hP
  have hD : va_D A [(m0, .inr (8, [.ref m1, .ref m2, .ref m3, .ref m4, .ref m5, .ref m6, .ref m7, .ref m8, .ref m9, .int fu, .int fd, .int fi, .int nu, .int nw, .int nf, .int bf, .int bn, .ref m10, .int ts, .int ap, .int fs, .int ln, .int fo, .int fa, .ref m11, .ref m12, .ref m13, .ref m14, .int wr])), aJ G m1 560 mw2_2, aZ G m2 2 ik, aI G m3 20 zs, aI G m4 20 cl, aI G m5 20 hs, aI G m6 20 ks, aI G m7 20 wa, aI G m8 20 ne, aI G m9 4 mn, aI G m10 400 tx, aI G m11 6 th, aI G m12 6 od, aI G m13 30 bk, aI G m14 30 bh] := hD
  have hv := hv r_1 mw2_2 hw
  refine lv_if_ne (tgt := 69) hx hb dX8_wander_5 (by decide) (fun hc_3 => ?_) (fun hc_3 => ?_)
  · have hv := hv.1 hc_3
    exact x_vret mw2_2 hQ hx hb hr hlocks hS dX8_wander_69 hv hP hD
  · have hv := hv.2 hc_3
    refine lv_aload_n hx hb dX8_wander_8 rfl (lv_at hl 0 rfl) ?_
    refine va_get (D := G.1) (ci := 8) (v := .ref m1) (C := RX8) (T := TX8) (N := 29) hx hb hts hinX8 hown hKK.1 hP 0 rfl rfl 0 (by decide) kl7 (fun _ h9 => h9) rfl dX8_wander_9 ?_
    refine lv_bipush (v := 20) hx hb dX8_wander_12 (by decide) ?_
    refine lv_iload_n hx hb dX8_wander_14 rfl (lv_at hl 1 rfl) ?_
    refine lv_iadd hx hb dX8_wander_15 ?_
    refine lv_ldc2 (v := (-1)) hx hb hown kl152 dX8_wander_16 ?_
    obtain ⟨hin, hv⟩ := hv
    refine va_last hx hb hKK.1 hP hD hS 1 2 rfl rfl hin dX8_wander_19 (fun H locs hP hD hS => ?_)
    have hP : va_P G.1 vwCl [(m0, .inr (8, [.ref m1, .ref m2, .ref m3, .ref m4, .ref m5, .ref m6, .ref m7, .ref m8, .ref m9, .int fu, .int fd, .int fi, .int nu, .int nw, .int nf, .int bf, .int bn, .ref m10, .int ts, .int ap, .int fs, .int ln, .int fo, .int fa, .ref m11, .ref m12, .ref m13, .ref m14, .int wr])), aJ G m1 560 (vp_updL mw2_2 ((20 + x).toNatClampNeg) (-1)), aZ G m2 2 ik, aI G m3 20 zs, aI G m4 20 cl, aI G m5 20 hs, aI G m6 20 ks, aI G m7 20 wa, aI G m8 20 ne, aI G m9 4 mn, aI G m10 400 tx, aI G m11 6 th, aI G m12 6 od, aI G m13 30 bk, aI G m14 30 bh] H := hP
    have hD : va_D A [(m0, .inr (8, [.ref m1, .ref m2, .ref m3, .ref m4, .ref m5, .ref m6, .ref m7, .ref m8, .ref m9, .int fu, .int fd, .int fi, .int nu, .int nw, .int nf, .int bf, .int bn, .ref m10, .int ts, .int ap, .int fs, .int ln, .int fo, .int fa, .ref m11, .ref m12, .ref m13, .ref m14, .int wr])), aJ G m1 560 (vp_updL mw2_2 ((20 + x).toNatClampNeg) (-1)), aZ G m2 2 ik, aI G m3 20 zs, aI G m4 20 cl, aI G m5 20 hs, aI G m6 20 ks, aI G m7 20 wa, aI G m8 20 ne, aI G m9 4 mn, aI G m10 400 tx, aI G m11 6 th, aI G m12 6 od, aI G m13 30 bk, aI G m14 30 bh] := hD
    refine lv_aload_n hx hb dX8_wander_20 rfl (lv_at hl 0 rfl) ?_
    refine lv_aload_n hx hb dX8_wander_21 rfl (lv_at hl 0 rfl) ?_
    refine va_get (D := G.1) (ci := 8) (v := .ref m9) (C := RX8) (T := TX8) (N := 29) hx hb hts hinX8 hown hKK.1 hP 0 rfl rfl 8 (by decide) kl36 (fun _ h9 => h9) rfl dX8_wander_22 ?_
    refine lv_iconst (v := 0) hx hb dX8_wander_25 (by decide) ?_
    refine va_iald hx hb hKK.1 hP 9 0 rfl rfl (by unfold vp_in; decide) dX8_wander_26 ?_
    refine lv_iconst (v := 1) hx hb dX8_wander_27 (by decide) ?_
    refine lv_iadd hx hb dX8_wander_28 ?_
    obtain ⟨hp, hv⟩ := hv
    refine x_calli (wr := []) (w' := fun (u : (Nat → Int64)) => [(m0, .inr (8, [.ref m1, .ref m2, .ref m3, .ref m4, .ref m5, .ref m6, .ref m7, .ref m8, .ref m9, .int fu, .int fd, .int fi, .int nu, .int nw, .int nf, .int bf, .int bn, .ref m10, .int ts, .int ap, .int fs, .int ln, .int fo, .int fa, .ref m11, .ref m12, .ref m13, .ref m14, .int wr])), aJ G m1 560 u, aZ G m2 2 ik, aI G m3 20 zs, aI G m4 20 cl, aI G m5 20 hs, aI G m6 20 ks, aI G m7 20 wa, aI G m8 20 ne, aI G m9 4 mn, aI G m10 400 tx, aI G m11 6 th, aI G m12 6 od, aI G m13 30 bk, aI G m14 30 bh]) (x_runV (As := [.int ((mn 0) + 1)]) (rest := []) (n := 1) (C := RX8) (ci := 8) ⟨hx, hb, hml, hown, hts⟩ (k_X8_draw l G m0 m1 m2 m3 m4 m5 m6 m7 m8 m9 m10 m11 m12 m13 m14 _ (vp_updL mw2_2 ((20 + x).toNatClampNeg) (-1)) ik zs cl hs ks wa ne mn tx th od bk bh fu fd fi nu nw nf bf bn ts ap fs ln fo fa wr ((mn 0) + 1) hp) gX8_wander_X8_draw rfl (by decide +kernel) ⟨Nat.le_trans (Nat.le_of_ble_eq_true rfl) hRf, Nat.le_trans (Nat.le_of_ble_eq_true rfl) hRl⟩ hKK hSS hS hA hP hD [0, 1, 2, 3, 4, 5, 6, 7, 8, 9, 10, 11, 12, 13, 14] (by decide) rfl rfl rfl 0 rfl rfl hl.1 rfl (Nat.le_of_ble_eq_true rfl) dX8_wander_29) hP hD hS hA [0, 1, 2, 3, 4, 5, 6, 7, 8, 9, 10, 11, 12, 13, 14] [] [0, 1, 2, 3, 4, 5, 6, 7, 8, 9, 10, 11, 12, 13, 14] rfl rfl (by decide) (by decide) (by decide) (fun _ => rfl) (fun r_4 u H locs hw hP hD hS => ?_)
    obtain ⟨mw2_5, rfl⟩ : ∃ z, z = u := ⟨_, rfl⟩
    have hP : va_P G.1 vwCl [(m0, .inr (8, [.ref m1, .ref m2, .ref m3, .ref m4, .ref m5, .ref m6, .ref m7, .ref m8, .ref m9, .int fu, .int fd, .int fi, .int nu, .int nw, .int nf, .int bf, .int bn, .ref m10, .int ts, .int ap, .int fs, .int ln, .int fo, .int fa, .ref m11, .ref m12, .ref m13, .ref m14, .int wr])), aJ G m1 560 mw2_5, aZ G m2 2 ik, aI G m3 20 zs, aI G m4 20 cl, aI G m5 20 hs, aI G m6 20 ks, aI G m7 20 wa, aI G m8 20 ne, aI G m9 4 mn, aI G m10 400 tx, aI G m11 6 th, aI G m12 6 od, aI G m13 30 bk, aI G m14 30 bh] H := hP
    have hD : va_D A [(m0, .inr (8, [.ref m1, .ref m2, .ref m3, .ref m4, .ref m5, .ref m6, .ref m7, .ref m8, .ref m9, .int fu, .int fd, .int fi, .int nu, .int nw, .int nf, .int bf, .int bn, .ref m10, .int ts, .int ap, .int fs, .int ln, .int fo, .int fa, .ref m11, .ref m12, .ref m13, .ref m14, .int wr])), aJ G m1 560 mw2_5, aZ G m2 2 ik, aI G m3 20 zs, aI G m4 20 cl, aI G m5 20 hs, aI G m6 20 ks, aI G m7 20 wa, aI G m8 20 ne, aI G m9 4 mn, aI G m10 400 tx, aI G m11 6 th, aI G m12 6 od, aI G m13 30 bk, aI G m14 30 bh] := hD
    have hv := hv r_4 mw2_5 hw
    refine lv_istore_n (lv' := [(2, .int r_4), (0, .ref m0), (1, .int x)]) hx hb dX8_wander_32 rfl hl (by decide) rfl (fun ls hl => ?_)
    refine lv_aload_n hx hb dX8_wander_33 rfl (lv_at hl 1 rfl) ?_
    refine va_get (D := G.1) (ci := 8) (v := .ref m1) (C := RX8) (T := TX8) (N := 29) hx hb hts hinX8 hown hKK.1 hP 0 rfl rfl 0 (by decide) kl7 (fun _ h9 => h9) rfl dX8_wander_34 ?_
    refine lv_bipush (v := 20) hx hb dX8_wander_37 (by decide) ?_
    refine lv_iload_n hx hb dX8_wander_39 rfl (lv_at hl 2 rfl) ?_
    refine lv_iadd hx hb dX8_wander_40 ?_
    refine lv_iload_n hx hb dX8_wander_41 rfl (lv_at hl 0 rfl) ?_
    refine lv_aload_n hx hb dX8_wander_42 rfl (lv_at hl 1 rfl) ?_
    refine va_get (D := G.1) (ci := 8) (v := .ref m9) (C := RX8) (T := TX8) (N := 29) hx hb hts hinX8 hown hKK.1 hP 0 rfl rfl 8 (by decide) kl36 (fun _ h9 => h9) rfl dX8_wander_43 ?_
    refine lv_iconst (v := 0) hx hb dX8_wander_46 (by decide) ?_
    refine va_iald hx hb hKK.1 hP 9 0 rfl rfl (by unfold vp_in; decide) dX8_wander_47 ?_
    refine lv_icmp_ge (tgt := 65) hx hb dX8_wander_48 (by decide) (fun hc_6 => ?_) (fun hc_6 => ?_)
    · have hv := hv.1 hc_6
      refine lv_ldc2 (v := (-1)) hx hb hown kl152 dX8_wander_65 ?_
      obtain ⟨hin, hv⟩ := hv
      refine va_last hx hb hKK.1 hP hD hS 1 2 rfl rfl hin dX8_wander_68 (fun H locs hP hD hS => ?_)
      have hP : va_P G.1 vwCl [(m0, .inr (8, [.ref m1, .ref m2, .ref m3, .ref m4, .ref m5, .ref m6, .ref m7, .ref m8, .ref m9, .int fu, .int fd, .int fi, .int nu, .int nw, .int nf, .int bf, .int bn, .ref m10, .int ts, .int ap, .int fs, .int ln, .int fo, .int fa, .ref m11, .ref m12, .ref m13, .ref m14, .int wr])), aJ G m1 560 (vp_updL mw2_5 ((20 + x).toNatClampNeg) (-1)), aZ G m2 2 ik, aI G m3 20 zs, aI G m4 20 cl, aI G m5 20 hs, aI G m6 20 ks, aI G m7 20 wa, aI G m8 20 ne, aI G m9 4 mn, aI G m10 400 tx, aI G m11 6 th, aI G m12 6 od, aI G m13 30 bk, aI G m14 30 bh] H := hP
      have hD : va_D A [(m0, .inr (8, [.ref m1, .ref m2, .ref m3, .ref m4, .ref m5, .ref m6, .ref m7, .ref m8, .ref m9, .int fu, .int fd, .int fi, .int nu, .int nw, .int nf, .int bf, .int bn, .ref m10, .int ts, .int ap, .int fs, .int ln, .int fo, .int fa, .ref m11, .ref m12, .ref m13, .ref m14, .int wr])), aJ G m1 560 (vp_updL mw2_5 ((20 + x).toNatClampNeg) (-1)), aZ G m2 2 ik, aI G m3 20 zs, aI G m4 20 cl, aI G m5 20 hs, aI G m6 20 ks, aI G m7 20 wa, aI G m8 20 ne, aI G m9 4 mn, aI G m10 400 tx, aI G m11 6 th, aI G m12 6 od, aI G m13 30 bk, aI G m14 30 bh] := hD
      exact x_vret (vp_updL mw2_5 ((20 + x).toNatClampNeg) (-1)) hQ hx hb hr hlocks hS dX8_wander_69 hv hP hD
    · have hv := hv.2 hc_6
      refine lv_aload_n hx hb dX8_wander_51 rfl (lv_at hl 1 rfl) ?_
      refine lv_iconst (v := 0) hx hb dX8_wander_52 (by decide) ?_
      refine lv_iload_n hx hb dX8_wander_53 rfl (lv_at hl 0 rfl) ?_
      obtain ⟨hp, hv⟩ := hv
      refine x_calliR (x_runV (As := [.int 0, .int r_4]) (rest := [.int (20 + x), .ref m1]) (n := 2) (C := RX8) (ci := 8) ⟨hx, hb, hml, hown, hts⟩ (k_X8_sitter l G m0 m1 m2 m3 m4 m5 m6 m7 m8 m9 m10 m11 m12 m13 m14 _ mw2_5 ik zs cl hs ks wa ne mn tx th od bk bh fu fd fi nu nw nf bf bn ts ap fs ln fo fa wr 0 r_4 hp) gX8_wander_X8_sitter rfl (by decide +kernel) ⟨Nat.le_trans (Nat.le_of_ble_eq_true rfl) hRf, Nat.le_trans (Nat.le_of_ble_eq_true rfl) hRl⟩ hKK hSS hS hA hP hD [0, 1, 2, 3, 4, 5, 6, 7, 8, 9, 10, 11, 12, 13, 14] (by decide) rfl rfl rfl 0 rfl rfl hl.1 rfl (Nat.le_of_ble_eq_true rfl) dX8_wander_54) hP hD hS hA [0, 1, 2, 3, 4, 5, 6, 7, 8, 9, 10, 11, 12, 13, 14] rfl (fun r_7 _ H locs hw hP hS => ?_)
      have hv := hv r_7 hw
      refine lv_if_ge (tgt := 65) hx hb dX8_wander_57 (by decide) (fun hc_8 => ?_) (fun hc_8 => ?_)
      · have hv := hv.1 hc_8
        refine lv_ldc2 (v := (-1)) hx hb hown kl152 dX8_wander_65 ?_
        obtain ⟨hin, hv⟩ := hv
        refine va_last hx hb hKK.1 hP hD hS 1 2 rfl rfl hin dX8_wander_68 (fun H locs hP hD hS => ?_)
        have hP : va_P G.1 vwCl [(m0, .inr (8, [.ref m1, .ref m2, .ref m3, .ref m4, .ref m5, .ref m6, .ref m7, .ref m8, .ref m9, .int fu, .int fd, .int fi, .int nu, .int nw, .int nf, .int bf, .int bn, .ref m10, .int ts, .int ap, .int fs, .int ln, .int fo, .int fa, .ref m11, .ref m12, .ref m13, .ref m14, .int wr])), aJ G m1 560 (vp_updL mw2_5 ((20 + x).toNatClampNeg) (-1)), aZ G m2 2 ik, aI G m3 20 zs, aI G m4 20 cl, aI G m5 20 hs, aI G m6 20 ks, aI G m7 20 wa, aI G m8 20 ne, aI G m9 4 mn, aI G m10 400 tx, aI G m11 6 th, aI G m12 6 od, aI G m13 30 bk, aI G m14 30 bh] H := hP
        have hD : va_D A [(m0, .inr (8, [.ref m1, .ref m2, .ref m3, .ref m4, .ref m5, .ref m6, .ref m7, .ref m8, .ref m9, .int fu, .int fd, .int fi, .int nu, .int nw, .int nf, .int bf, .int bn, .ref m10, .int ts, .int ap, .int fs, .int ln, .int fo, .int fa, .ref m11, .ref m12, .ref m13, .ref m14, .int wr])), aJ G m1 560 (vp_updL mw2_5 ((20 + x).toNatClampNeg) (-1)), aZ G m2 2 ik, aI G m3 20 zs, aI G m4 20 cl, aI G m5 20 hs, aI G m6 20 ks, aI G m7 20 wa, aI G m8 20 ne, aI G m9 4 mn, aI G m10 400 tx, aI G m11 6 th, aI G m12 6 od, aI G m13 30 bk, aI G m14 30 bh] := hD
        exact x_vret (vp_updL mw2_5 ((20 + x).toNatClampNeg) (-1)) hQ hx hb hr hlocks hS dX8_wander_69 hv hP hD
      · have hv := hv.2 hc_8
        refine lv_iload_n hx hb dX8_wander_60 rfl (lv_at hl 0 rfl) ?_
        refine lv_i2l hx hb dX8_wander_61 rfl ?_
        refine lv_goto (tgt := 68) hx hb dX8_wander_62 (by decide) ?_
        obtain ⟨hin, hv⟩ := hv
        refine va_last hx hb hKK.1 hP hD hS 1 2 rfl rfl hin dX8_wander_68 (fun H locs hP hD hS => ?_)
        have hP : va_P G.1 vwCl [(m0, .inr (8, [.ref m1, .ref m2, .ref m3, .ref m4, .ref m5, .ref m6, .ref m7, .ref m8, .ref m9, .int fu, .int fd, .int fi, .int nu, .int nw, .int nf, .int bf, .int bn, .ref m10, .int ts, .int ap, .int fs, .int ln, .int fo, .int fa, .ref m11, .ref m12, .ref m13, .ref m14, .int wr])), aJ G m1 560 (vp_updL mw2_5 ((20 + x).toNatClampNeg) r_4.toInt64), aZ G m2 2 ik, aI G m3 20 zs, aI G m4 20 cl, aI G m5 20 hs, aI G m6 20 ks, aI G m7 20 wa, aI G m8 20 ne, aI G m9 4 mn, aI G m10 400 tx, aI G m11 6 th, aI G m12 6 od, aI G m13 30 bk, aI G m14 30 bh] H := hP
        have hD : va_D A [(m0, .inr (8, [.ref m1, .ref m2, .ref m3, .ref m4, .ref m5, .ref m6, .ref m7, .ref m8, .ref m9, .int fu, .int fd, .int fi, .int nu, .int nw, .int nf, .int bf, .int bn, .ref m10, .int ts, .int ap, .int fs, .int ln, .int fo, .int fa, .ref m11, .ref m12, .ref m13, .ref m14, .int wr])), aJ G m1 560 (vp_updL mw2_5 ((20 + x).toNatClampNeg) r_4.toInt64), aZ G m2 2 ik, aI G m3 20 zs, aI G m4 20 cl, aI G m5 20 hs, aI G m6 20 ks, aI G m7 20 wa, aI G m8 20 ne, aI G m9 4 mn, aI G m10 400 tx, aI G m11 6 th, aI G m12 6 od, aI G m13 30 bk, aI G m14 30 bh] := hD
        exact x_vret (vp_updL mw2_5 ((20 + x).toNatClampNeg) r_4.toInt64) hQ hx hb hr hlocks hS dX8_wander_69 hv hP hD
theorem k_X8_wander (l : Launch) (G : Gt) (m0 m1 m2 m3 m4 m5 m6 m7 m8 m9 m10 m11 m12 m13 m14 : Nat) (sz : Nat) (mw : Nat → Int64) (ik : Nat → Int32) (zs : Nat → Int32) (cl : Nat → Int32) (hs : Nat → Int32) (ks : Nat → Int32) (wa : Nat → Int32) (ne : Nat → Int32) (mn : Nat → Int32) (tx : Nat → Int32) (th : Nat → Int32) (od : Nat → Int32) (bk : Nat → Int32) (bh : Nat → Int32) (fu : Int32) (fd : Int32) (fi : Int32) (nu : Int32) (nw : Int32) (nf : Int32) (bf : Int32) (bn : Int32) (ts : Int32) (ap : Int32) (fs : Int32) (ln : Int32) (fo : Int32) (fa : Int32) (wr : Int32) (x : Int32) (hp : True) : MetV l yX8_wander wsX8_wander 1 23 G [.ref m0, .int x] [(m0, .inr (8, [.ref m1, .ref m2, .ref m3, .ref m4, .ref m5, .ref m6, .ref m7, .ref m8, .ref m9, .int fu, .int fd, .int fi, .int nu, .int nw, .int nf, .int bf, .int bn, .ref m10, .int ts, .int ap, .int fs, .int ln, .int fo, .int fa, .ref m11, .ref m12, .ref m13, .ref m14, .int wr])), aJ G m1 560 mw, aZ G m2 2 ik, aI G m3 20 zs, aI G m4 20 cl, aI G m5 20 hs, aI G m6 20 ks, aI G m7 20 wa, aI G m8 20 ne, aI G m9 4 mn, aI G m10 400 tx, aI G m11 6 th, aI G m12 6 od, aI G m13 30 bk, aI G m14 30 bh] sz (fun (u : (Nat → Int64)) => True) (fun (u : (Nat → Int64)) => [(m0, .inr (8, [.ref m1, .ref m2, .ref m3, .ref m4, .ref m5, .ref m6, .ref m7, .ref m8, .ref m9, .int fu, .int fd, .int fi, .int nu, .int nw, .int nf, .int bf, .int bn, .ref m10, .int ts, .int ap, .int fs, .int ln, .int fo, .int fa, .ref m11, .ref m12, .ref m13, .ref m14, .int wr])), aJ G m1 560 u, aZ G m2 2 ik, aI G m3 20 zs, aI G m4 20 cl, aI G m5 20 hs, aI G m6 20 ks, aI G m7 20 wa, aI G m8 20 ne, aI G m9 4 mn, aI G m10 400 tx, aI G m11 6 th, aI G m12 6 od, aI G m13 30 bk, aI G m14 30 bh]) :=
  c_X8_wander l G m0 m1 m2 m3 m4 m5 m6 m7 m8 m9 m10 m11 m12 m13 m14 sz mw ik zs cl hs ks wa ne mn tx th od bk bh fu fd fi nu nw nf bf bn ts ap fs ln fo fa wr x (by
    sorry)

set_option maxHeartbeats 4000000 in
set_option maxRecDepth 100000 in
theorem c_X8_drift (l : Launch) (G : Gt) (m0 m1 m2 m3 m4 m5 m6 m7 m8 m9 m10 m11 m12 m13 m14 : Nat) (sz : Nat) (mw : Nat → Int64) (ik : Nat → Int32) (zs : Nat → Int32) (cl : Nat → Int32) (hs : Nat → Int32) (ks : Nat → Int32) (wa : Nat → Int32) (ne : Nat → Int32) (mn : Nat → Int32) (tx : Nat → Int32) (th : Nat → Int32) (od : Nat → Int32) (bk : Nat → Int32) (bh : Nat → Int32) (fu : Int32) (fd : Int32) (fi : Int32) (nu : Int32) (nw : Int32) (nf : Int32) (bf : Int32) (bn : Int32) (ts : Int32) (ap : Int32) (fs : Int32) (ln : Int32) (fo : Int32) (fa : Int32) (wr : Int32) (x : Int32) (hv : (¬ x.toInt64 < 1 ∧ ¬ 999 < x.toInt64 → ∃ (I17_5 : (Nat → Int64) → Int32 → Prop) (μ17_6 : (Nat → Int64) → Int32 → Nat), I17_5 mw 0 ∧ (∀ (fm1_3 : (Nat → Int64)) (x2_4 : Int32), I17_5 fm1_3 x2_4 → (x ≤ x2_4 → (True) ∧ (∀ (r_10 : Int32), (True) → (True))) ∧ (¬ (x ≤ x2_4) → ∃ (I24_13 : (Nat → Int64) → Int32 → Prop) (μ24_14 : (Nat → Int64) → Int32 → Nat), I24_13 fm1_3 0 ∧ (∀ (fm1_11 : (Nat → Int64)) (x3_12 : Int32), I24_13 fm1_11 x3_12 → ((mn 1) ≤ x3_12 → (True) ∧ (∀ (r_18 : Int32) (mw2_19 : Nat → Int64), (True) → (I17_5 mw2_19 (x2_4 + 1) ∧ μ17_6 mw2_19 (x2_4 + 1) < μ17_6 fm1_3 x2_4))) ∧ (¬ ((mn 1) ≤ x3_12) → (True) ∧ (∀ (mw2_21 : Nat → Int64), (True) → (I24_13 mw2_21 (x3_12 + 1) ∧ μ24_14 mw2_21 (x3_12 + 1) < μ24_14 fm1_11 x3_12))))))) ∧ (¬ (¬ x.toInt64 < 1 ∧ ¬ 999 < x.toInt64) → True)) : MetI l yX8_drift wsX8_drift 4 101 G [.ref m0, .int x] [(m0, .inr (8, [.ref m1, .ref m2, .ref m3, .ref m4, .ref m5, .ref m6, .ref m7, .ref m8, .ref m9, .int fu, .int fd, .int fi, .int nu, .int nw, .int nf, .int bf, .int bn, .ref m10, .int ts, .int ap, .int fs, .int ln, .int fo, .int fa, .ref m11, .ref m12, .ref m13, .ref m14, .int wr])), aJ G m1 560 mw, aZ G m2 2 ik, aI G m3 20 zs, aI G m4 20 cl, aI G m5 20 hs, aI G m6 20 ks, aI G m7 20 wa, aI G m8 20 ne, aI G m9 4 mn, aI G m10 400 tx, aI G m11 6 th, aI G m12 6 od, aI G m13 30 bk, aI G m14 30 bh] sz (fun (r : Int32) (u : (Nat → Int64)) => True) (fun (u : (Nat → Int64)) => [(m0, .inr (8, [.ref m1, .ref m2, .ref m3, .ref m4, .ref m5, .ref m6, .ref m7, .ref m8, .ref m9, .int fu, .int fd, .int fi, .int nu, .int nw, .int nf, .int bf, .int bn, .ref m10, .int ts, .int ap, .int fs, .int ln, .int fo, .int fa, .ref m11, .ref m12, .ref m13, .ref m14, .int wr])), aJ G m1 560 u, aZ G m2 2 ik, aI G m3 20 zs, aI G m4 20 cl, aI G m5 20 hs, aI G m6 20 ks, aI G m7 20 wa, aI G m8 20 ne, aI G m9 4 mn, aI G m10 400 tx, aI G m11 6 th, aI G m12 6 od, aI G m13 30 bk, aI G m14 30 bh]) := by
  refine x_startI (cc := cX8_drift) (maxL := 4) (ret := (some .int)) (by decide) rfl (Nat.le_of_ble_eq_true rfl) ?_
  intro p e s m args below meth c A R Q ls hRf hRl hQ C hP hD hS hA hSS hl
  obtain ⟨hx, hb, hr, hml, hown, hts, hlocks, hKK⟩ := C
  have hown : s.vm.findClass RX8 = some m.cls := hown
  have hl : lv_has ls 4 [(0, .ref m0), (1, .int x)] := hl
  have hinX8 : ∀ w ∈ u_ws RX8 TX8 29, w ∈ wsX8_drift := by decide +kernel
  have kl199 := hts (.constantLong RX8 199 (999)) (by decide +kernel)
  have kl36 := hts (.fieldLink RX8 36 "WarmStonesModel" "many" "[I") (by decide +kernel)
  have kl73 := hts (.constant RX8 73 (-1000000002)) (by decide +kernel)
  refine lv_iload_n hx hb dX8_drift_0 rfl (lv_at hl 1 rfl) ?_
  refine lv_i2l hx hb dX8_drift_1 rfl ?_
  refine lv_lconst (v := 1) hx hb dX8_drift_2 (by decide) ?_
  refine lv_ldc2 (v := 999) hx hb hown kl199 dX8_drift_3 ?_
  refine x_calliR (x_runS (As := [.long x.toInt64, .long 1, .long 999]) (rest := []) (n := 3) ⟨hx, hb, hml, hown, hts⟩ (k_X8_in l G  _ x.toInt64 1 999) gX8_drift_X8_in rfl (by decide +kernel) ⟨Nat.le_trans (Nat.le_of_ble_eq_true rfl) hRf, Nat.le_trans (Nat.le_of_ble_eq_true rfl) hRl⟩ hKK hSS hS hA hP hD [] (by decide) rfl rfl hl.1 rfl (Nat.le_of_ble_eq_true rfl) dX8_drift_6) hP hD hS hA [] rfl (fun r_1 _ H locs hw hP hS => ?_)
  replace hw := hw.symm; subst hw
  refine lv_if_ne (tgt := 15) hx hb dX8_drift_9 (by decide) (fun hc_2 => ?_) (fun hc_2 => ?_)
  · have hv := hv.1 (tv_eqn.mp hc_2)
    refine lv_iconst (v := 0) hx hb dX8_drift_15 (by decide) ?_
    refine lv_istore_n (lv' := [(2, .int 0), (0, .ref m0), (1, .int x)]) hx hb dX8_drift_16 rfl hl (by decide) rfl (fun ls hl => ?_)
    obtain ⟨I17_5, μ17_6, hi0, hs_25⟩ := hv
    have Lm_27 : ∀ (n_26 : Nat) (fm1_3 : (Nat → Int64)) (x2_4 : Int32) (H : Heap) (locs : List Loc) (ls : Array Slot), μ17_6 fm1_3 x2_4 < n_26 → I17_5 fm1_3 x2_4 → va_P G.1 vwCl [(m0, .inr (8, [.ref m1, .ref m2, .ref m3, .ref m4, .ref m5, .ref m6, .ref m7, .ref m8, .ref m9, .int fu, .int fd, .int fi, .int nu, .int nw, .int nf, .int bf, .int bn, .ref m10, .int ts, .int ap, .int fs, .int ln, .int fo, .int fa, .ref m11, .ref m12, .ref m13, .ref m14, .int wr])), aJ G m1 560 fm1_3, aZ G m2 2 ik, aI G m3 20 zs, aI G m4 20 cl, aI G m5 20 hs, aI G m6 20 ks, aI G m7 20 wa, aI G m8 20 ne, aI G m9 4 mn, aI G m10 400 tx, aI G m11 6 th, aI G m12 6 od, aI G m13 30 bk, aI G m14 30 bh] H → va_D A [(m0, .inr (8, [.ref m1, .ref m2, .ref m3, .ref m4, .ref m5, .ref m6, .ref m7, .ref m8, .ref m9, .int fu, .int fd, .int fi, .int nu, .int nw, .int nf, .int bf, .int bn, .ref m10, .int ts, .int ap, .int fs, .int ln, .int fo, .int fa, .ref m11, .ref m12, .ref m13, .ref m14, .int wr])), aJ G m1 560 fm1_3, aZ G m2 2 ik, aI G m3 20 zs, aI G m4 20 cl, aI G m5 20 hs, aI G m6 20 ks, aI G m7 20 wa, aI G m8 20 ne, aI G m9 4 mn, aI G m10 400 tx, aI G m11 6 th, aI G m12 6 od, aI G m13 30 bk, aI G m14 30 bh] → va_S A s.heap H locs → lv_has ls 4 [(2, .int x2_4), (0, .ref m0), (1, .int x)] → W p l e R s m args below meth c H locs 0 0 Q (F0 m 17 ls []) := by
      intro n_26
      induction n_26 with
      | zero => intro fm1_3 x2_4 H locs ls hm; exact absurd hm (Nat.not_lt_zero _)
      | succ n_26 ih_7 =>
        intro fm1_3 x2_4 H locs ls hI_8 hi hP hD hS hl
        have hv := hs_25 fm1_3 x2_4 hi
        refine lv_iload_n hx hb dX8_drift_17 rfl (lv_at hl 0 rfl) ?_
        refine lv_iload_n hx hb dX8_drift_18 rfl (lv_at hl 2 rfl) ?_
        refine lv_icmp_ge (tgt := 57) hx hb dX8_drift_19 (by decide) (fun hc_9 => ?_) (fun hc_9 => ?_)
        · have hv := hv.1 hc_9
          refine lv_aload_n hx hb dX8_drift_57 rfl (lv_at hl 1 rfl) ?_
          obtain ⟨hp, hv⟩ := hv
          refine x_calliR (x_runV (As := []) (rest := []) (n := 0) (C := RX8) (ci := 8) ⟨hx, hb, hml, hown, hts⟩ (k_X8_coldNow l G m0 m1 m2 m3 m4 m5 m6 m7 m8 m9 m10 m11 m12 m13 m14 _ fm1_3 ik zs cl hs ks wa ne mn tx th od bk bh fu fd fi nu nw nf bf bn ts ap fs ln fo fa wr hp) gX8_drift_X8_coldNow rfl (by decide +kernel) ⟨Nat.le_trans (Nat.le_of_ble_eq_true rfl) hRf, Nat.le_trans (Nat.le_of_ble_eq_true rfl) hRl⟩ hKK hSS hS hA hP hD [0, 1, 2, 3, 4, 5, 6, 7, 8, 9, 10, 11, 12, 13, 14] (by decide) rfl rfl rfl 0 rfl rfl hl.1 rfl (Nat.le_of_ble_eq_true rfl) dX8_drift_58) hP hD hS hA [0, 1, 2, 3, 4, 5, 6, 7, 8, 9, 10, 11, 12, 13, 14] rfl (fun r_10 _ H locs hw hP hS => ?_)
          have hv := hv r_10 hw
          exact x_iret (v := r_10) fm1_3 hQ hx hb hr hlocks hS dX8_drift_61 hv hP hD
        · have hv := hv.2 hc_9
          refine lv_iconst (v := 0) hx hb dX8_drift_22 (by decide) ?_
          refine lv_istore_n (lv' := [(3, .int 0), (2, .int x2_4), (0, .ref m0), (1, .int x)]) hx hb dX8_drift_23 rfl hl (by decide) rfl (fun ls hl => ?_)
          obtain ⟨I24_13, μ24_14, hi0, hs_22⟩ := hv
          have Lm_24 : ∀ (n_23 : Nat) (fm1_11 : (Nat → Int64)) (x3_12 : Int32) (H : Heap) (locs : List Loc) (ls : Array Slot), μ24_14 fm1_11 x3_12 < n_23 → I24_13 fm1_11 x3_12 → va_P G.1 vwCl [(m0, .inr (8, [.ref m1, .ref m2, .ref m3, .ref m4, .ref m5, .ref m6, .ref m7, .ref m8, .ref m9, .int fu, .int fd, .int fi, .int nu, .int nw, .int nf, .int bf, .int bn, .ref m10, .int ts, .int ap, .int fs, .int ln, .int fo, .int fa, .ref m11, .ref m12, .ref m13, .ref m14, .int wr])), aJ G m1 560 fm1_11, aZ G m2 2 ik, aI G m3 20 zs, aI G m4 20 cl, aI G m5 20 hs, aI G m6 20 ks, aI G m7 20 wa, aI G m8 20 ne, aI G m9 4 mn, aI G m10 400 tx, aI G m11 6 th, aI G m12 6 od, aI G m13 30 bk, aI G m14 30 bh] H → va_D A [(m0, .inr (8, [.ref m1, .ref m2, .ref m3, .ref m4, .ref m5, .ref m6, .ref m7, .ref m8, .ref m9, .int fu, .int fd, .int fi, .int nu, .int nw, .int nf, .int bf, .int bn, .ref m10, .int ts, .int ap, .int fs, .int ln, .int fo, .int fa, .ref m11, .ref m12, .ref m13, .ref m14, .int wr])), aJ G m1 560 fm1_11, aZ G m2 2 ik, aI G m3 20 zs, aI G m4 20 cl, aI G m5 20 hs, aI G m6 20 ks, aI G m7 20 wa, aI G m8 20 ne, aI G m9 4 mn, aI G m10 400 tx, aI G m11 6 th, aI G m12 6 od, aI G m13 30 bk, aI G m14 30 bh] → va_S A s.heap H locs → lv_has ls 4 [(3, .int x3_12), (2, .int x2_4), (0, .ref m0), (1, .int x)] → W p l e R s m args below meth c H locs 0 0 Q (F0 m 24 ls []) := by
            intro n_23
            induction n_23 with
            | zero => intro fm1_11 x3_12 H locs ls hm; exact absurd hm (Nat.not_lt_zero _)
            | succ n_23 ih_15 =>
              intro fm1_11 x3_12 H locs ls hI_16 hi hP hD hS hl
              have hv := hs_22 fm1_11 x3_12 hi
              refine lv_iload_n hx hb dX8_drift_24 rfl (lv_at hl 0 rfl) ?_
              refine lv_aload_n hx hb dX8_drift_25 rfl (lv_at hl 2 rfl) ?_
              refine va_get (D := G.1) (ci := 8) (v := .ref m9) (C := RX8) (T := TX8) (N := 29) hx hb hts hinX8 hown hKK.1 hP 0 rfl rfl 8 (by decide) kl36 (fun _ h9 => h9) rfl dX8_drift_26 ?_
              refine lv_iconst (v := 1) hx hb dX8_drift_29 (by decide) ?_
              refine va_iald hx hb hKK.1 hP 9 0 rfl rfl (by unfold vp_in; decide) dX8_drift_30 ?_
              refine lv_icmp_ge (tgt := 45) hx hb dX8_drift_31 (by decide) (fun hc_17 => ?_) (fun hc_17 => ?_)
              · have hv := hv.1 hc_17
                refine lv_aload_n hx hb dX8_drift_45 rfl (lv_at hl 2 rfl) ?_
                refine lv_iconst (v := 0) hx hb dX8_drift_46 (by decide) ?_
                obtain ⟨hp, hv⟩ := hv
                refine x_calli (wr := []) (w' := fun (u : (Nat → Int64)) => [(m0, .inr (8, [.ref m1, .ref m2, .ref m3, .ref m4, .ref m5, .ref m6, .ref m7, .ref m8, .ref m9, .int fu, .int fd, .int fi, .int nu, .int nw, .int nf, .int bf, .int bn, .ref m10, .int ts, .int ap, .int fs, .int ln, .int fo, .int fa, .ref m11, .ref m12, .ref m13, .ref m14, .int wr])), aJ G m1 560 u, aZ G m2 2 ik, aI G m3 20 zs, aI G m4 20 cl, aI G m5 20 hs, aI G m6 20 ks, aI G m7 20 wa, aI G m8 20 ne, aI G m9 4 mn, aI G m10 400 tx, aI G m11 6 th, aI G m12 6 od, aI G m13 30 bk, aI G m14 30 bh]) (x_runV (As := [.int 0]) (rest := []) (n := 1) (C := RX8) (ci := 8) ⟨hx, hb, hml, hown, hts⟩ (k_X8_pass l G m0 m1 m2 m3 m4 m5 m6 m7 m8 m9 m10 m11 m12 m13 m14 _ fm1_11 ik zs cl hs ks wa ne mn tx th od bk bh fu fd fi nu nw nf bf bn ts ap fs ln fo fa wr 0 hp) gX8_drift_X8_pass rfl (by decide +kernel) ⟨Nat.le_trans (Nat.le_of_ble_eq_true rfl) hRf, Nat.le_trans (Nat.le_of_ble_eq_true rfl) hRl⟩ hKK hSS hS hA hP hD [0, 1, 2, 3, 4, 5, 6, 7, 8, 9, 10, 11, 12, 13, 14] (by decide) rfl rfl rfl 0 rfl rfl hl.1 rfl (Nat.le_of_ble_eq_true rfl) dX8_drift_47) hP hD hS hA [0, 1, 2, 3, 4, 5, 6, 7, 8, 9, 10, 11, 12, 13, 14] [] [0, 1, 2, 3, 4, 5, 6, 7, 8, 9, 10, 11, 12, 13, 14] rfl rfl (by decide) (by decide) (by decide) (fun _ => rfl) (fun r_18 u H locs hw hP hD hS => ?_)
                obtain ⟨mw2_19, rfl⟩ : ∃ z, z = u := ⟨_, rfl⟩
                have hP : va_P G.1 vwCl [(m0, .inr (8, [.ref m1, .ref m2, .ref m3, .ref m4, .ref m5, .ref m6, .ref m7, .ref m8, .ref m9, .int fu, .int fd, .int fi, .int nu, .int nw, .int nf, .int bf, .int bn, .ref m10, .int ts, .int ap, .int fs, .int ln, .int fo, .int fa, .ref m11, .ref m12, .ref m13, .ref m14, .int wr])), aJ G m1 560 mw2_19, aZ G m2 2 ik, aI G m3 20 zs, aI G m4 20 cl, aI G m5 20 hs, aI G m6 20 ks, aI G m7 20 wa, aI G m8 20 ne, aI G m9 4 mn, aI G m10 400 tx, aI G m11 6 th, aI G m12 6 od, aI G m13 30 bk, aI G m14 30 bh] H := hP
                have hD : va_D A [(m0, .inr (8, [.ref m1, .ref m2, .ref m3, .ref m4, .ref m5, .ref m6, .ref m7, .ref m8, .ref m9, .int fu, .int fd, .int fi, .int nu, .int nw, .int nf, .int bf, .int bn, .ref m10, .int ts, .int ap, .int fs, .int ln, .int fo, .int fa, .ref m11, .ref m12, .ref m13, .ref m14, .int wr])), aJ G m1 560 mw2_19, aZ G m2 2 ik, aI G m3 20 zs, aI G m4 20 cl, aI G m5 20 hs, aI G m6 20 ks, aI G m7 20 wa, aI G m8 20 ne, aI G m9 4 mn, aI G m10 400 tx, aI G m11 6 th, aI G m12 6 od, aI G m13 30 bk, aI G m14 30 bh] := hD
                have hv := hv r_18 mw2_19 hw
                refine lv_istore_n (lv' := [(3, .int r_18), (2, .int x2_4), (0, .ref m0), (1, .int x)]) hx hb dX8_drift_50 rfl hl (by decide) rfl (fun ls hl => ?_)
                refine lv_iinc (v := (x2_4 + 1)) (lv' := [(2, .int (x2_4 + 1)), (3, .int r_18), (0, .ref m0), (1, .int x)]) hx hb dX8_drift_51 hl (k := 1) rfl rfl (by decide) rfl (fun ls hl => ?_)
                refine lv_goto (tgt := 17) hx hb dX8_drift_54 (by decide) ?_
                exact ih_7 _ _ _ _ _ (Nat.lt_of_lt_of_le hv.2 (Nat.le_of_lt_succ hI_8)) hv.1 hP hD hS (lv_sub hl [0, 2, 3] rfl)
              · have hv := hv.2 hc_17
                refine lv_aload_n hx hb dX8_drift_34 rfl (lv_at hl 2 rfl) ?_
                refine lv_iload_n hx hb dX8_drift_35 rfl (lv_at hl 0 rfl) ?_
                obtain ⟨hp, hv⟩ := hv
                refine x_callv (wr := []) (w' := fun (u : (Nat → Int64)) => [(m0, .inr (8, [.ref m1, .ref m2, .ref m3, .ref m4, .ref m5, .ref m6, .ref m7, .ref m8, .ref m9, .int fu, .int fd, .int fi, .int nu, .int nw, .int nf, .int bf, .int bn, .ref m10, .int ts, .int ap, .int fs, .int ln, .int fo, .int fa, .ref m11, .ref m12, .ref m13, .ref m14, .int wr])), aJ G m1 560 u, aZ G m2 2 ik, aI G m3 20 zs, aI G m4 20 cl, aI G m5 20 hs, aI G m6 20 ks, aI G m7 20 wa, aI G m8 20 ne, aI G m9 4 mn, aI G m10 400 tx, aI G m11 6 th, aI G m12 6 od, aI G m13 30 bk, aI G m14 30 bh]) (x_runV (As := [.int x3_12]) (rest := []) (n := 1) (C := RX8) (ci := 8) ⟨hx, hb, hml, hown, hts⟩ (k_X8_wander l G m0 m1 m2 m3 m4 m5 m6 m7 m8 m9 m10 m11 m12 m13 m14 _ fm1_11 ik zs cl hs ks wa ne mn tx th od bk bh fu fd fi nu nw nf bf bn ts ap fs ln fo fa wr x3_12 hp) gX8_drift_X8_wander rfl (by decide +kernel) ⟨Nat.le_trans (Nat.le_of_ble_eq_true rfl) hRf, Nat.le_trans (Nat.le_of_ble_eq_true rfl) hRl⟩ hKK hSS hS hA hP hD [0, 1, 2, 3, 4, 5, 6, 7, 8, 9, 10, 11, 12, 13, 14] (by decide) rfl rfl rfl 0 rfl rfl hl.1 rfl (Nat.le_of_ble_eq_true rfl) dX8_drift_36) hP hD hS hA [0, 1, 2, 3, 4, 5, 6, 7, 8, 9, 10, 11, 12, 13, 14] [] [0, 1, 2, 3, 4, 5, 6, 7, 8, 9, 10, 11, 12, 13, 14] rfl rfl (by decide) (by decide) (by decide) (fun _ => rfl) (fun  u H locs hw hP hD hS => ?_)
                obtain ⟨mw2_21, rfl⟩ : ∃ z, z = u := ⟨_, rfl⟩
                have hP : va_P G.1 vwCl [(m0, .inr (8, [.ref m1, .ref m2, .ref m3, .ref m4, .ref m5, .ref m6, .ref m7, .ref m8, .ref m9, .int fu, .int fd, .int fi, .int nu, .int nw, .int nf, .int bf, .int bn, .ref m10, .int ts, .int ap, .int fs, .int ln, .int fo, .int fa, .ref m11, .ref m12, .ref m13, .ref m14, .int wr])), aJ G m1 560 mw2_21, aZ G m2 2 ik, aI G m3 20 zs, aI G m4 20 cl, aI G m5 20 hs, aI G m6 20 ks, aI G m7 20 wa, aI G m8 20 ne, aI G m9 4 mn, aI G m10 400 tx, aI G m11 6 th, aI G m12 6 od, aI G m13 30 bk, aI G m14 30 bh] H := hP
                have hD : va_D A [(m0, .inr (8, [.ref m1, .ref m2, .ref m3, .ref m4, .ref m5, .ref m6, .ref m7, .ref m8, .ref m9, .int fu, .int fd, .int fi, .int nu, .int nw, .int nf, .int bf, .int bn, .ref m10, .int ts, .int ap, .int fs, .int ln, .int fo, .int fa, .ref m11, .ref m12, .ref m13, .ref m14, .int wr])), aJ G m1 560 mw2_21, aZ G m2 2 ik, aI G m3 20 zs, aI G m4 20 cl, aI G m5 20 hs, aI G m6 20 ks, aI G m7 20 wa, aI G m8 20 ne, aI G m9 4 mn, aI G m10 400 tx, aI G m11 6 th, aI G m12 6 od, aI G m13 30 bk, aI G m14 30 bh] := hD
                have hv := hv mw2_21 hw
                refine lv_iinc (v := (x3_12 + 1)) (lv' := [(3, .int (x3_12 + 1)), (2, .int x2_4), (0, .ref m0), (1, .int x)]) hx hb dX8_drift_39 hl (k := 0) rfl rfl (by decide) rfl (fun ls hl => ?_)
                refine lv_goto (tgt := 24) hx hb dX8_drift_42 (by decide) ?_
                exact ih_15 _ _ _ _ _ (Nat.lt_of_lt_of_le hv.2 (Nat.le_of_lt_succ hI_16)) hv.1 hP hD hS hl
          exact Lm_24 _ _ _ _ _ _ (Nat.lt_succ_self _) hi0 hP hD hS hl
    exact Lm_27 _ _ _ _ _ _ (Nat.lt_succ_self _) hi0 hP hD hS hl
  · have hv := hv.2 (tv_eq.mp hc_2)
    refine lv_ldc (v := (-1000000002)) hx hb hown kl73 dX8_drift_12 ?_
    exact x_iret (v := (-1000000002)) mw hQ hx hb hr hlocks hS dX8_drift_14 hv hP hD
theorem k_X8_drift (l : Launch) (G : Gt) (m0 m1 m2 m3 m4 m5 m6 m7 m8 m9 m10 m11 m12 m13 m14 : Nat) (sz : Nat) (mw : Nat → Int64) (ik : Nat → Int32) (zs : Nat → Int32) (cl : Nat → Int32) (hs : Nat → Int32) (ks : Nat → Int32) (wa : Nat → Int32) (ne : Nat → Int32) (mn : Nat → Int32) (tx : Nat → Int32) (th : Nat → Int32) (od : Nat → Int32) (bk : Nat → Int32) (bh : Nat → Int32) (fu : Int32) (fd : Int32) (fi : Int32) (nu : Int32) (nw : Int32) (nf : Int32) (bf : Int32) (bn : Int32) (ts : Int32) (ap : Int32) (fs : Int32) (ln : Int32) (fo : Int32) (fa : Int32) (wr : Int32) (x : Int32) (hp : True) : MetI l yX8_drift wsX8_drift 4 101 G [.ref m0, .int x] [(m0, .inr (8, [.ref m1, .ref m2, .ref m3, .ref m4, .ref m5, .ref m6, .ref m7, .ref m8, .ref m9, .int fu, .int fd, .int fi, .int nu, .int nw, .int nf, .int bf, .int bn, .ref m10, .int ts, .int ap, .int fs, .int ln, .int fo, .int fa, .ref m11, .ref m12, .ref m13, .ref m14, .int wr])), aJ G m1 560 mw, aZ G m2 2 ik, aI G m3 20 zs, aI G m4 20 cl, aI G m5 20 hs, aI G m6 20 ks, aI G m7 20 wa, aI G m8 20 ne, aI G m9 4 mn, aI G m10 400 tx, aI G m11 6 th, aI G m12 6 od, aI G m13 30 bk, aI G m14 30 bh] sz (fun (r : Int32) (u : (Nat → Int64)) => True) (fun (u : (Nat → Int64)) => [(m0, .inr (8, [.ref m1, .ref m2, .ref m3, .ref m4, .ref m5, .ref m6, .ref m7, .ref m8, .ref m9, .int fu, .int fd, .int fi, .int nu, .int nw, .int nf, .int bf, .int bn, .ref m10, .int ts, .int ap, .int fs, .int ln, .int fo, .int fa, .ref m11, .ref m12, .ref m13, .ref m14, .int wr])), aJ G m1 560 u, aZ G m2 2 ik, aI G m3 20 zs, aI G m4 20 cl, aI G m5 20 hs, aI G m6 20 ks, aI G m7 20 wa, aI G m8 20 ne, aI G m9 4 mn, aI G m10 400 tx, aI G m11 6 th, aI G m12 6 od, aI G m13 30 bk, aI G m14 30 bh]) :=
  c_X8_drift l G m0 m1 m2 m3 m4 m5 m6 m7 m8 m9 m10 m11 m12 m13 m14 sz mw ik zs cl hs ks wa ne mn tx th od bk bh fu fd fi nu nw nf bf bn ts ap fs ln fo fa wr x (by
    sorry)

set_option maxHeartbeats 4000000 in
set_option maxRecDepth 100000 in
theorem c_X8_own (l : Launch) (G : Gt) (m0 m1 m2 m3 m4 m5 m6 m7 m8 m9 m10 m11 m12 m13 m14 : Nat) (sz : Nat) (mw : Nat → Int64) (ik : Nat → Int32) (zs : Nat → Int32) (cl : Nat → Int32) (hs : Nat → Int32) (ks : Nat → Int32) (wa : Nat → Int32) (ne : Nat → Int32) (mn : Nat → Int32) (tx : Nat → Int32) (th : Nat → Int32) (od : Nat → Int32) (bk : Nat → Int32) (bh : Nat → Int32) (fu : Int32) (fd : Int32) (fi : Int32) (nu : Int32) (nw : Int32) (nf : Int32) (bf : Int32) (bn : Int32) (ts : Int32) (ap : Int32) (fs : Int32) (ln : Int32) (fo : Int32) (fa : Int32) (wr : Int32) (x : Int32) (y : Int32) (z : Int32) (hv : (True) ∧ (∀ (r_1 : Int32), (True) → ((r_1 = 0 → True) ∧ (¬ (r_1 = 0) → (True) ∧ (∀ (r_3 : Int32), (True) → ((¬ r_3 = 0 → (¬ z.toInt64 < 1 ∧ ¬ 9999 < z.toInt64 → (vp_in ((60 + (9 * x)) + y) 560) ∧ ((vp_in ((60 + (9 * x)) + y) 560) ∧ ((vp_in ((60 + (9 * x)) + y) 560) ∧ (True)))) ∧ (¬ (¬ z.toInt64 < 1 ∧ ¬ 9999 < z.toInt64) → True)) ∧ (r_3 = 0 → True))))))) : MetI l yX8_own wsX8_own 2 46 G [.ref m0, .int x, .int y, .int z] [(m0, .inr (8, [.ref m1, .ref m2, .ref m3, .ref m4, .ref m5, .ref m6, .ref m7, .ref m8, .ref m9, .int fu, .int fd, .int fi, .int nu, .int nw, .int nf, .int bf, .int bn, .ref m10, .int ts, .int ap, .int fs, .int ln, .int fo, .int fa, .ref m11, .ref m12, .ref m13, .ref m14, .int wr])), aJ G m1 560 mw, aZ G m2 2 ik, aI G m3 20 zs, aI G m4 20 cl, aI G m5 20 hs, aI G m6 20 ks, aI G m7 20 wa, aI G m8 20 ne, aI G m9 4 mn, aI G m10 400 tx, aI G m11 6 th, aI G m12 6 od, aI G m13 30 bk, aI G m14 30 bh] sz (fun (r : Int32) (u : (Nat → Int64)) => True) (fun (u : (Nat → Int64)) => [(m0, .inr (8, [.ref m1, .ref m2, .ref m3, .ref m4, .ref m5, .ref m6, .ref m7, .ref m8, .ref m9, .int fu, .int fd, .int fi, .int nu, .int nw, .int nf, .int bf, .int bn, .ref m10, .int ts, .int ap, .int fs, .int ln, .int fo, .int fa, .ref m11, .ref m12, .ref m13, .ref m14, .int wr])), aJ G m1 560 u, aZ G m2 2 ik, aI G m3 20 zs, aI G m4 20 cl, aI G m5 20 hs, aI G m6 20 ks, aI G m7 20 wa, aI G m8 20 ne, aI G m9 4 mn, aI G m10 400 tx, aI G m11 6 th, aI G m12 6 od, aI G m13 30 bk, aI G m14 30 bh]) := by
  refine x_startI (cc := cX8_own) (maxL := 5) (ret := (some .int)) (by decide) rfl (Nat.le_of_ble_eq_true rfl) ?_
  intro p e s m args below meth c A R Q ls hRf hRl hQ C hP hD hS hA hSS hl
  obtain ⟨hx, hb, hr, hml, hown, hts, hlocks, hKK⟩ := C
  have hown : s.vm.findClass RX8 = some m.cls := hown
  have hl : lv_has ls 5 [(0, .ref m0), (1, .int x), (2, .int y), (3, .int z)] := hl
  have hinX8 : ∀ w ∈ u_ws RX8 TX8 29, w ∈ wsX8_own := by decide +kernel
  have kl164 := hts (.constant RX8 164 (-1000000001)) (by decide +kernel)
  have kl222 := hts (.constantLong RX8 222 (9999)) (by decide +kernel)
  have kl224 := hts (.constantLong RX8 224 (99999)) (by decide +kernel)
  have kl7 := hts (.fieldLink RX8 7 "WarmStonesModel" "w" "[J") (by decide +kernel)
  have kl73 := hts (.constant RX8 73 (-1000000002)) (by decide +kernel)
  refine lv_aload_n hx hb dX8_own_0 rfl (lv_at hl 0 rfl) ?_
  refine lv_iload_n hx hb dX8_own_1 rfl (lv_at hl 1 rfl) ?_
  obtain ⟨hp, hv⟩ := hv
  refine x_calliR (x_runV (As := [.int x]) (rest := []) (n := 1) (C := RX8) (ci := 8) ⟨hx, hb, hml, hown, hts⟩ (k_X8_isPerson l G m0 m1 m2 m3 m4 m5 m6 m7 m8 m9 m10 m11 m12 m13 m14 _ mw ik zs cl hs ks wa ne mn tx th od bk bh fu fd fi nu nw nf bf bn ts ap fs ln fo fa wr x hp) gX8_own_X8_isPerson rfl (by decide +kernel) ⟨Nat.le_trans (Nat.le_of_ble_eq_true rfl) hRf, Nat.le_trans (Nat.le_of_ble_eq_true rfl) hRl⟩ hKK hSS hS hA hP hD [0, 1, 2, 3, 4, 5, 6, 7, 8, 9, 10, 11, 12, 13, 14] (by decide) rfl rfl rfl 0 rfl rfl hl.1 rfl (Nat.le_of_ble_eq_true rfl) dX8_own_2) hP hD hS hA [0, 1, 2, 3, 4, 5, 6, 7, 8, 9, 10, 11, 12, 13, 14] rfl (fun r_1 _ H locs hw hP hS => ?_)
  have hv := hv r_1 hw
  refine lv_if_eq (tgt := 16) hx hb dX8_own_5 (by decide) (fun hc_2 => ?_) (fun hc_2 => ?_)
  · have hv := hv.1 hc_2
    refine lv_ldc (v := (-1000000001)) hx hb hown kl164 dX8_own_16 ?_
    exact x_iret (v := (-1000000001)) mw hQ hx hb hr hlocks hS dX8_own_18 hv hP hD
  · have hv := hv.2 hc_2
    refine lv_aload_n hx hb dX8_own_8 rfl (lv_at hl 0 rfl) ?_
    refine lv_iload_n hx hb dX8_own_9 rfl (lv_at hl 2 rfl) ?_
    obtain ⟨hp, hv⟩ := hv
    refine x_calliR (x_runV (As := [.int y]) (rest := []) (n := 1) (C := RX8) (ci := 8) ⟨hx, hb, hml, hown, hts⟩ (k_X8_isStone l G m0 m1 m2 m3 m4 m5 m6 m7 m8 m9 m10 m11 m12 m13 m14 _ mw ik zs cl hs ks wa ne mn tx th od bk bh fu fd fi nu nw nf bf bn ts ap fs ln fo fa wr y hp) gX8_own_X8_isStone rfl (by decide +kernel) ⟨Nat.le_trans (Nat.le_of_ble_eq_true rfl) hRf, Nat.le_trans (Nat.le_of_ble_eq_true rfl) hRl⟩ hKK hSS hS hA hP hD [0, 1, 2, 3, 4, 5, 6, 7, 8, 9, 10, 11, 12, 13, 14] (by decide) rfl rfl rfl 0 rfl rfl hl.1 rfl (Nat.le_of_ble_eq_true rfl) dX8_own_10) hP hD hS hA [0, 1, 2, 3, 4, 5, 6, 7, 8, 9, 10, 11, 12, 13, 14] rfl (fun r_3 _ H locs hw hP hS => ?_)
    have hv := hv r_3 hw
    refine lv_if_ne (tgt := 19) hx hb dX8_own_13 (by decide) (fun hc_4 => ?_) (fun hc_4 => ?_)
    · have hv := hv.1 hc_4
      refine lv_iload_n hx hb dX8_own_19 rfl (lv_at hl 3 rfl) ?_
      refine lv_i2l hx hb dX8_own_20 rfl ?_
      refine lv_lconst (v := 1) hx hb dX8_own_21 (by decide) ?_
      refine lv_ldc2 (v := 9999) hx hb hown kl222 dX8_own_22 ?_
      refine x_calliR (x_runS (As := [.long z.toInt64, .long 1, .long 9999]) (rest := []) (n := 3) ⟨hx, hb, hml, hown, hts⟩ (k_X8_in l G  _ z.toInt64 1 9999) gX8_own_X8_in rfl (by decide +kernel) ⟨Nat.le_trans (Nat.le_of_ble_eq_true rfl) hRf, Nat.le_trans (Nat.le_of_ble_eq_true rfl) hRl⟩ hKK hSS hS hA hP hD [] (by decide) rfl rfl hl.1 rfl (Nat.le_of_ble_eq_true rfl) dX8_own_25) hP hD hS hA [] rfl (fun r_5 _ H locs hw hP hS => ?_)
      replace hw := hw.symm; subst hw
      refine lv_if_ne (tgt := 34) hx hb dX8_own_28 (by decide) (fun hc_6 => ?_) (fun hc_6 => ?_)
      · have hv := hv.1 (tv_eqn.mp hc_6)
        refine lv_bipush (v := 60) hx hb dX8_own_34 (by decide) ?_
        refine lv_bipush (v := 9) hx hb dX8_own_36 (by decide) ?_
        refine lv_iload_n hx hb dX8_own_38 rfl (lv_at hl 1 rfl) ?_
        refine lv_imul hx hb dX8_own_39 ?_
        refine lv_iadd hx hb dX8_own_40 ?_
        refine lv_iload_n hx hb dX8_own_41 rfl (lv_at hl 2 rfl) ?_
        refine lv_iadd hx hb dX8_own_42 ?_
        refine lv_istore (lv' := [(4, .int ((60 + (9 * x)) + y)), (0, .ref m0), (1, .int x), (2, .int y), (3, .int z)]) hx hb dX8_own_43 hl (by decide) rfl (fun ls hl => ?_)
        refine lv_aload_n hx hb dX8_own_45 rfl (lv_at hl 1 rfl) ?_
        refine va_get (D := G.1) (ci := 8) (v := .ref m1) (C := RX8) (T := TX8) (N := 29) hx hb hts hinX8 hown hKK.1 hP 0 rfl rfl 0 (by decide) kl7 (fun _ h9 => h9) rfl dX8_own_46 ?_
        refine lv_iload hx hb dX8_own_49 (lv_at hl 0 rfl) ?_
        refine lv_ldc2 (v := 99999) hx hb hown kl224 dX8_own_51 ?_
        refine lv_aload_n hx hb dX8_own_54 rfl (lv_at hl 1 rfl) ?_
        refine va_get (D := G.1) (ci := 8) (v := .ref m1) (C := RX8) (T := TX8) (N := 29) hx hb hts hinX8 hown hKK.1 hP 0 rfl rfl 0 (by decide) kl7 (fun _ h9 => h9) rfl dX8_own_55 ?_
        refine lv_iload hx hb dX8_own_58 (lv_at hl 0 rfl) ?_
        obtain ⟨hin, hv⟩ := hv
        refine va_lald hx hb hKK.1 hP 1 2 rfl rfl hin dX8_own_60 ?_
        refine lv_iload_n hx hb dX8_own_61 rfl (lv_at hl 4 rfl) ?_
        refine lv_i2l hx hb dX8_own_62 rfl ?_
        refine lv_ladd hx hb dX8_own_63 ?_
        refine x_calllR (x_runS (As := [.long 99999, .long ((mw ((60 + (9 * x)) + y).toNatClampNeg) + z.toInt64)]) (rest := [.int ((60 + (9 * x)) + y), .ref m1]) (n := 2) ⟨hx, hb, hml, hown, hts⟩ (k_X8_less l G  _ 99999 ((mw ((60 + (9 * x)) + y).toNatClampNeg) + z.toInt64)) gX8_own_X8_less rfl (by decide +kernel) ⟨Nat.le_trans (Nat.le_of_ble_eq_true rfl) hRf, Nat.le_trans (Nat.le_of_ble_eq_true rfl) hRl⟩ hKK hSS hS hA hP hD [] (by decide) rfl rfl hl.1 rfl (Nat.le_of_ble_eq_true rfl) dX8_own_64) hP hD hS hA [] rfl (fun r_7 _ H locs hw hP hS => ?_)
        replace hw := hw.symm; subst hw
        obtain ⟨hin, hv⟩ := hv
        refine va_last hx hb hKK.1 hP hD hS 1 2 rfl rfl hin dX8_own_67 (fun H locs hP hD hS => ?_)
        have hP : va_P G.1 vwCl [(m0, .inr (8, [.ref m1, .ref m2, .ref m3, .ref m4, .ref m5, .ref m6, .ref m7, .ref m8, .ref m9, .int fu, .int fd, .int fi, .int nu, .int nw, .int nf, .int bf, .int bn, .ref m10, .int ts, .int ap, .int fs, .int ln, .int fo, .int fa, .ref m11, .ref m12, .ref m13, .ref m14, .int wr])), aJ G m1 560 (vp_updL mw (((60 + (9 * x)) + y).toNatClampNeg) (if 99999 < ((mw ((60 + (9 * x)) + y).toNatClampNeg) + z.toInt64) then 99999 else ((mw ((60 + (9 * x)) + y).toNatClampNeg) + z.toInt64))), aZ G m2 2 ik, aI G m3 20 zs, aI G m4 20 cl, aI G m5 20 hs, aI G m6 20 ks, aI G m7 20 wa, aI G m8 20 ne, aI G m9 4 mn, aI G m10 400 tx, aI G m11 6 th, aI G m12 6 od, aI G m13 30 bk, aI G m14 30 bh] H := hP
        have hD : va_D A [(m0, .inr (8, [.ref m1, .ref m2, .ref m3, .ref m4, .ref m5, .ref m6, .ref m7, .ref m8, .ref m9, .int fu, .int fd, .int fi, .int nu, .int nw, .int nf, .int bf, .int bn, .ref m10, .int ts, .int ap, .int fs, .int ln, .int fo, .int fa, .ref m11, .ref m12, .ref m13, .ref m14, .int wr])), aJ G m1 560 (vp_updL mw (((60 + (9 * x)) + y).toNatClampNeg) (if 99999 < ((mw ((60 + (9 * x)) + y).toNatClampNeg) + z.toInt64) then 99999 else ((mw ((60 + (9 * x)) + y).toNatClampNeg) + z.toInt64))), aZ G m2 2 ik, aI G m3 20 zs, aI G m4 20 cl, aI G m5 20 hs, aI G m6 20 ks, aI G m7 20 wa, aI G m8 20 ne, aI G m9 4 mn, aI G m10 400 tx, aI G m11 6 th, aI G m12 6 od, aI G m13 30 bk, aI G m14 30 bh] := hD
        refine lv_aload_n hx hb dX8_own_68 rfl (lv_at hl 1 rfl) ?_
        refine va_get (D := G.1) (ci := 8) (v := .ref m1) (C := RX8) (T := TX8) (N := 29) hx hb hts hinX8 hown hKK.1 hP 0 rfl rfl 0 (by decide) kl7 (fun _ h9 => h9) rfl dX8_own_69 ?_
        refine lv_iload hx hb dX8_own_72 (lv_at hl 0 rfl) ?_
        obtain ⟨hin, hv⟩ := hv
        refine va_lald hx hb hKK.1 hP 1 2 rfl rfl hin dX8_own_74 ?_
        refine lv_l2i hx hb dX8_own_75 rfl ?_
        exact x_iret (v := (((vp_updL mw (((60 + (9 * x)) + y).toNatClampNeg) (if 99999 < ((mw ((60 + (9 * x)) + y).toNatClampNeg) + z.toInt64) then 99999 else ((mw ((60 + (9 * x)) + y).toNatClampNeg) + z.toInt64))) ((60 + (9 * x)) + y).toNatClampNeg) : Int64).toInt32) (vp_updL mw (((60 + (9 * x)) + y).toNatClampNeg) (if 99999 < ((mw ((60 + (9 * x)) + y).toNatClampNeg) + z.toInt64) then 99999 else ((mw ((60 + (9 * x)) + y).toNatClampNeg) + z.toInt64))) hQ hx hb hr hlocks hS dX8_own_76 hv hP hD
      · have hv := hv.2 (tv_eq.mp hc_6)
        refine lv_ldc (v := (-1000000002)) hx hb hown kl73 dX8_own_31 ?_
        exact x_iret (v := (-1000000002)) mw hQ hx hb hr hlocks hS dX8_own_33 hv hP hD
    · have hv := hv.2 hc_4
      refine lv_ldc (v := (-1000000001)) hx hb hown kl164 dX8_own_16 ?_
      exact x_iret (v := (-1000000001)) mw hQ hx hb hr hlocks hS dX8_own_18 hv hP hD
theorem k_X8_own (l : Launch) (G : Gt) (m0 m1 m2 m3 m4 m5 m6 m7 m8 m9 m10 m11 m12 m13 m14 : Nat) (sz : Nat) (mw : Nat → Int64) (ik : Nat → Int32) (zs : Nat → Int32) (cl : Nat → Int32) (hs : Nat → Int32) (ks : Nat → Int32) (wa : Nat → Int32) (ne : Nat → Int32) (mn : Nat → Int32) (tx : Nat → Int32) (th : Nat → Int32) (od : Nat → Int32) (bk : Nat → Int32) (bh : Nat → Int32) (fu : Int32) (fd : Int32) (fi : Int32) (nu : Int32) (nw : Int32) (nf : Int32) (bf : Int32) (bn : Int32) (ts : Int32) (ap : Int32) (fs : Int32) (ln : Int32) (fo : Int32) (fa : Int32) (wr : Int32) (x : Int32) (y : Int32) (z : Int32) (hp : True) : MetI l yX8_own wsX8_own 2 46 G [.ref m0, .int x, .int y, .int z] [(m0, .inr (8, [.ref m1, .ref m2, .ref m3, .ref m4, .ref m5, .ref m6, .ref m7, .ref m8, .ref m9, .int fu, .int fd, .int fi, .int nu, .int nw, .int nf, .int bf, .int bn, .ref m10, .int ts, .int ap, .int fs, .int ln, .int fo, .int fa, .ref m11, .ref m12, .ref m13, .ref m14, .int wr])), aJ G m1 560 mw, aZ G m2 2 ik, aI G m3 20 zs, aI G m4 20 cl, aI G m5 20 hs, aI G m6 20 ks, aI G m7 20 wa, aI G m8 20 ne, aI G m9 4 mn, aI G m10 400 tx, aI G m11 6 th, aI G m12 6 od, aI G m13 30 bk, aI G m14 30 bh] sz (fun (r : Int32) (u : (Nat → Int64)) => True) (fun (u : (Nat → Int64)) => [(m0, .inr (8, [.ref m1, .ref m2, .ref m3, .ref m4, .ref m5, .ref m6, .ref m7, .ref m8, .ref m9, .int fu, .int fd, .int fi, .int nu, .int nw, .int nf, .int bf, .int bn, .ref m10, .int ts, .int ap, .int fs, .int ln, .int fo, .int fa, .ref m11, .ref m12, .ref m13, .ref m14, .int wr])), aJ G m1 560 u, aZ G m2 2 ik, aI G m3 20 zs, aI G m4 20 cl, aI G m5 20 hs, aI G m6 20 ks, aI G m7 20 wa, aI G m8 20 ne, aI G m9 4 mn, aI G m10 400 tx, aI G m11 6 th, aI G m12 6 od, aI G m13 30 bk, aI G m14 30 bh]) :=
  c_X8_own l G m0 m1 m2 m3 m4 m5 m6 m7 m8 m9 m10 m11 m12 m13 m14 sz mw ik zs cl hs ks wa ne mn tx th od bk bh fu fd fi nu nw nf bf bn ts ap fs ln fo fa wr x y z (by
    sorry)

set_option maxHeartbeats 4000000 in
set_option maxRecDepth 100000 in
theorem c_X8_trade (l : Launch) (G : Gt) (m0 m1 m2 m3 m4 m5 m6 m7 m8 m9 m10 m11 m12 m13 m14 : Nat) (sz : Nat) (mw : Nat → Int64) (ik : Nat → Int32) (zs : Nat → Int32) (cl : Nat → Int32) (hs : Nat → Int32) (ks : Nat → Int32) (wa : Nat → Int32) (ne : Nat → Int32) (mn : Nat → Int32) (tx : Nat → Int32) (th : Nat → Int32) (od : Nat → Int32) (bk : Nat → Int32) (bh : Nat → Int32) (fu : Int32) (fd : Int32) (fi : Int32) (nu : Int32) (nw : Int32) (nf : Int32) (bf : Int32) (bn : Int32) (ts : Int32) (ap : Int32) (fs : Int32) (ln : Int32) (fo : Int32) (fa : Int32) (wr : Int32) (x : Int32) (y : Int32) (z : Int32) (v : Int32) (hv : (True) ∧ (∀ (r_1 : Int32), (True) → ((r_1 = 0 → True) ∧ (¬ (r_1 = 0) → (True) ∧ (∀ (r_3 : Int32), (True) → ((r_3 = 0 → True) ∧ (¬ (r_3 = 0) → (x = y → True) ∧ (¬ (x = y) → (True) ∧ (∀ (r_6 : Int32), (True) → ((¬ r_6 = 0 → (¬ v.toInt64 < 1 ∧ ¬ 9999 < v.toInt64 → (vp_in ((60 + (9 * x)) + z) 560) ∧ ((v.toInt64 ≤ (mw ((60 + (9 * x)) + z).toNatClampNeg) → (vp_in ((60 + (9 * y)) + z) 560) ∧ ((((mw ((60 + (9 * y)) + z).toNatClampNeg) + v.toInt64) ≤ 99999 → (vp_in ((60 + (9 * x)) + z) 560) ∧ ((vp_in ((60 + (9 * x)) + z) 560) ∧ ((vp_in ((60 + (9 * y)) + z) 560) ∧ ((vp_in ((60 + (9 * y)) + z) 560) ∧ ((vp_in ((60 + (9 * x)) + z) 560) ∧ (True)))))) ∧ (¬ (((mw ((60 + (9 * y)) + z).toNatClampNeg) + v.toInt64) ≤ 99999) → True))) ∧ (¬ (v.toInt64 ≤ (mw ((60 + (9 * x)) + z).toNatClampNeg)) → True))) ∧ (¬ (¬ v.toInt64 < 1 ∧ ¬ 9999 < v.toInt64) → True)) ∧ (r_6 = 0 → True))))))))))) : MetI l yX8_trade wsX8_trade 2 46 G [.ref m0, .int x, .int y, .int z, .int v] [(m0, .inr (8, [.ref m1, .ref m2, .ref m3, .ref m4, .ref m5, .ref m6, .ref m7, .ref m8, .ref m9, .int fu, .int fd, .int fi, .int nu, .int nw, .int nf, .int bf, .int bn, .ref m10, .int ts, .int ap, .int fs, .int ln, .int fo, .int fa, .ref m11, .ref m12, .ref m13, .ref m14, .int wr])), aJ G m1 560 mw, aZ G m2 2 ik, aI G m3 20 zs, aI G m4 20 cl, aI G m5 20 hs, aI G m6 20 ks, aI G m7 20 wa, aI G m8 20 ne, aI G m9 4 mn, aI G m10 400 tx, aI G m11 6 th, aI G m12 6 od, aI G m13 30 bk, aI G m14 30 bh] sz (fun (r : Int32) (u : (Nat → Int64)) => True) (fun (u : (Nat → Int64)) => [(m0, .inr (8, [.ref m1, .ref m2, .ref m3, .ref m4, .ref m5, .ref m6, .ref m7, .ref m8, .ref m9, .int fu, .int fd, .int fi, .int nu, .int nw, .int nf, .int bf, .int bn, .ref m10, .int ts, .int ap, .int fs, .int ln, .int fo, .int fa, .ref m11, .ref m12, .ref m13, .ref m14, .int wr])), aJ G m1 560 u, aZ G m2 2 ik, aI G m3 20 zs, aI G m4 20 cl, aI G m5 20 hs, aI G m6 20 ks, aI G m7 20 wa, aI G m8 20 ne, aI G m9 4 mn, aI G m10 400 tx, aI G m11 6 th, aI G m12 6 od, aI G m13 30 bk, aI G m14 30 bh]) := by
  refine x_startI (cc := cX8_trade) (maxL := 7) (ret := (some .int)) (by decide) rfl (Nat.le_of_ble_eq_true rfl) ?_
  intro p e s m args below meth c A R Q ls hRf hRl hQ C hP hD hS hA hSS hl
  obtain ⟨hx, hb, hr, hml, hown, hts, hlocks, hKK⟩ := C
  have hown : s.vm.findClass RX8 = some m.cls := hown
  have hl : lv_has ls 7 [(0, .ref m0), (1, .int x), (2, .int y), (3, .int z), (4, .int v)] := hl
  have hinX8 : ∀ w ∈ u_ws RX8 TX8 29, w ∈ wsX8_trade := by decide +kernel
  have kl164 := hts (.constant RX8 164 (-1000000001)) (by decide +kernel)
  have kl198 := hts (.constant RX8 198 (-1000000003)) (by decide +kernel)
  have kl222 := hts (.constantLong RX8 222 (9999)) (by decide +kernel)
  have kl224 := hts (.constantLong RX8 224 (99999)) (by decide +kernel)
  have kl7 := hts (.fieldLink RX8 7 "WarmStonesModel" "w" "[J") (by decide +kernel)
  have kl73 := hts (.constant RX8 73 (-1000000002)) (by decide +kernel)
  have kl77 := hts (.constant RX8 77 (-1000000004)) (by decide +kernel)
  refine lv_aload_n hx hb dX8_trade_0 rfl (lv_at hl 0 rfl) ?_
  refine lv_iload_n hx hb dX8_trade_1 rfl (lv_at hl 1 rfl) ?_
  obtain ⟨hp, hv⟩ := hv
  refine x_calliR (x_runV (As := [.int x]) (rest := []) (n := 1) (C := RX8) (ci := 8) ⟨hx, hb, hml, hown, hts⟩ (k_X8_isPerson l G m0 m1 m2 m3 m4 m5 m6 m7 m8 m9 m10 m11 m12 m13 m14 _ mw ik zs cl hs ks wa ne mn tx th od bk bh fu fd fi nu nw nf bf bn ts ap fs ln fo fa wr x hp) gX8_trade_X8_isPerson rfl (by decide +kernel) ⟨Nat.le_trans (Nat.le_of_ble_eq_true rfl) hRf, Nat.le_trans (Nat.le_of_ble_eq_true rfl) hRl⟩ hKK hSS hS hA hP hD [0, 1, 2, 3, 4, 5, 6, 7, 8, 9, 10, 11, 12, 13, 14] (by decide) rfl rfl rfl 0 rfl rfl hl.1 rfl (Nat.le_of_ble_eq_true rfl) dX8_trade_2) hP hD hS hA [0, 1, 2, 3, 4, 5, 6, 7, 8, 9, 10, 11, 12, 13, 14] rfl (fun r_1 _ H locs hw hP hS => ?_)
  have hv := hv r_1 hw
  refine lv_if_eq (tgt := 29) hx hb dX8_trade_5 (by decide) (fun hc_2 => ?_) (fun hc_2 => ?_)
  · have hv := hv.1 hc_2
    refine lv_ldc (v := (-1000000001)) hx hb hown kl164 dX8_trade_29 ?_
    exact x_iret (v := (-1000000001)) mw hQ hx hb hr hlocks hS dX8_trade_31 hv hP hD
  · have hv := hv.2 hc_2
    refine lv_aload_n hx hb dX8_trade_8 rfl (lv_at hl 0 rfl) ?_
    refine lv_iload_n hx hb dX8_trade_9 rfl (lv_at hl 2 rfl) ?_
    obtain ⟨hp, hv⟩ := hv
    refine x_calliR (x_runV (As := [.int y]) (rest := []) (n := 1) (C := RX8) (ci := 8) ⟨hx, hb, hml, hown, hts⟩ (k_X8_isPerson l G m0 m1 m2 m3 m4 m5 m6 m7 m8 m9 m10 m11 m12 m13 m14 _ mw ik zs cl hs ks wa ne mn tx th od bk bh fu fd fi nu nw nf bf bn ts ap fs ln fo fa wr y hp) gX8_trade_X8_isPerson rfl (by decide +kernel) ⟨Nat.le_trans (Nat.le_of_ble_eq_true rfl) hRf, Nat.le_trans (Nat.le_of_ble_eq_true rfl) hRl⟩ hKK hSS hS hA hP hD [0, 1, 2, 3, 4, 5, 6, 7, 8, 9, 10, 11, 12, 13, 14] (by decide) rfl rfl rfl 0 rfl rfl hl.1 rfl (Nat.le_of_ble_eq_true rfl) dX8_trade_10) hP hD hS hA [0, 1, 2, 3, 4, 5, 6, 7, 8, 9, 10, 11, 12, 13, 14] rfl (fun r_3 _ H locs hw hP hS => ?_)
    have hv := hv r_3 hw
    refine lv_if_eq (tgt := 29) hx hb dX8_trade_13 (by decide) (fun hc_4 => ?_) (fun hc_4 => ?_)
    · have hv := hv.1 hc_4
      refine lv_ldc (v := (-1000000001)) hx hb hown kl164 dX8_trade_29 ?_
      exact x_iret (v := (-1000000001)) mw hQ hx hb hr hlocks hS dX8_trade_31 hv hP hD
    · have hv := hv.2 hc_4
      refine lv_iload_n hx hb dX8_trade_16 rfl (lv_at hl 1 rfl) ?_
      refine lv_iload_n hx hb dX8_trade_17 rfl (lv_at hl 2 rfl) ?_
      refine lv_icmp_eq (tgt := 29) hx hb dX8_trade_18 (by decide) (fun hc_5 => ?_) (fun hc_5 => ?_)
      · have hv := hv.1 hc_5
        refine lv_ldc (v := (-1000000001)) hx hb hown kl164 dX8_trade_29 ?_
        exact x_iret (v := (-1000000001)) mw hQ hx hb hr hlocks hS dX8_trade_31 hv hP hD
      · have hv := hv.2 hc_5
        refine lv_aload_n hx hb dX8_trade_21 rfl (lv_at hl 0 rfl) ?_
        refine lv_iload_n hx hb dX8_trade_22 rfl (lv_at hl 3 rfl) ?_
        obtain ⟨hp, hv⟩ := hv
        refine x_calliR (x_runV (As := [.int z]) (rest := []) (n := 1) (C := RX8) (ci := 8) ⟨hx, hb, hml, hown, hts⟩ (k_X8_isStone l G m0 m1 m2 m3 m4 m5 m6 m7 m8 m9 m10 m11 m12 m13 m14 _ mw ik zs cl hs ks wa ne mn tx th od bk bh fu fd fi nu nw nf bf bn ts ap fs ln fo fa wr z hp) gX8_trade_X8_isStone rfl (by decide +kernel) ⟨Nat.le_trans (Nat.le_of_ble_eq_true rfl) hRf, Nat.le_trans (Nat.le_of_ble_eq_true rfl) hRl⟩ hKK hSS hS hA hP hD [0, 1, 2, 3, 4, 5, 6, 7, 8, 9, 10, 11, 12, 13, 14] (by decide) rfl rfl rfl 0 rfl rfl hl.1 rfl (Nat.le_of_ble_eq_true rfl) dX8_trade_23) hP hD hS hA [0, 1, 2, 3, 4, 5, 6, 7, 8, 9, 10, 11, 12, 13, 14] rfl (fun r_6 _ H locs hw hP hS => ?_)
        have hv := hv r_6 hw
        refine lv_if_ne (tgt := 32) hx hb dX8_trade_26 (by decide) (fun hc_7 => ?_) (fun hc_7 => ?_)
        · have hv := hv.1 hc_7
          refine lv_iload hx hb dX8_trade_32 (lv_at hl 4 rfl) ?_
          refine lv_i2l hx hb dX8_trade_34 rfl ?_
          refine lv_lconst (v := 1) hx hb dX8_trade_35 (by decide) ?_
          refine lv_ldc2 (v := 9999) hx hb hown kl222 dX8_trade_36 ?_
          refine x_calliR (x_runS (As := [.long v.toInt64, .long 1, .long 9999]) (rest := []) (n := 3) ⟨hx, hb, hml, hown, hts⟩ (k_X8_in l G  _ v.toInt64 1 9999) gX8_trade_X8_in rfl (by decide +kernel) ⟨Nat.le_trans (Nat.le_of_ble_eq_true rfl) hRf, Nat.le_trans (Nat.le_of_ble_eq_true rfl) hRl⟩ hKK hSS hS hA hP hD [] (by decide) rfl rfl hl.1 rfl (Nat.le_of_ble_eq_true rfl) dX8_trade_39) hP hD hS hA [] rfl (fun r_8 _ H locs hw hP hS => ?_)
          replace hw := hw.symm; subst hw
          refine lv_if_ne (tgt := 48) hx hb dX8_trade_42 (by decide) (fun hc_9 => ?_) (fun hc_9 => ?_)
          · have hv := hv.1 (tv_eqn.mp hc_9)
            refine lv_bipush (v := 60) hx hb dX8_trade_48 (by decide) ?_
            refine lv_bipush (v := 9) hx hb dX8_trade_50 (by decide) ?_
            refine lv_iload_n hx hb dX8_trade_52 rfl (lv_at hl 1 rfl) ?_
            refine lv_imul hx hb dX8_trade_53 ?_
            refine lv_iadd hx hb dX8_trade_54 ?_
            refine lv_iload_n hx hb dX8_trade_55 rfl (lv_at hl 3 rfl) ?_
            refine lv_iadd hx hb dX8_trade_56 ?_
            refine lv_istore (lv' := [(5, .int ((60 + (9 * x)) + z)), (0, .ref m0), (1, .int x), (2, .int y), (3, .int z), (4, .int v)]) hx hb dX8_trade_57 hl (by decide) rfl (fun ls hl => ?_)
            refine lv_bipush (v := 60) hx hb dX8_trade_59 (by decide) ?_
            refine lv_bipush (v := 9) hx hb dX8_trade_61 (by decide) ?_
            refine lv_iload_n hx hb dX8_trade_63 rfl (lv_at hl 3 rfl) ?_
            refine lv_imul hx hb dX8_trade_64 ?_
            refine lv_iadd hx hb dX8_trade_65 ?_
            refine lv_iload_n hx hb dX8_trade_66 rfl (lv_at hl 4 rfl) ?_
            refine lv_iadd hx hb dX8_trade_67 ?_
            refine lv_istore (lv' := [(6, .int ((60 + (9 * y)) + z)), (5, .int ((60 + (9 * x)) + z)), (0, .ref m0), (1, .int x), (2, .int y), (3, .int z), (4, .int v)]) hx hb dX8_trade_68 hl (by decide) rfl (fun ls hl => ?_)
            refine lv_aload_n hx hb dX8_trade_70 rfl (lv_at hl 2 rfl) ?_
            refine va_get (D := G.1) (ci := 8) (v := .ref m1) (C := RX8) (T := TX8) (N := 29) hx hb hts hinX8 hown hKK.1 hP 0 rfl rfl 0 (by decide) kl7 (fun _ h9 => h9) rfl dX8_trade_71 ?_
            refine lv_iload hx hb dX8_trade_74 (lv_at hl 1 rfl) ?_
            obtain ⟨hin, hv⟩ := hv
            refine va_lald hx hb hKK.1 hP 1 2 rfl rfl hin dX8_trade_76 ?_
            refine lv_iload hx hb dX8_trade_77 (lv_at hl 6 rfl) ?_
            refine lv_i2l hx hb dX8_trade_79 rfl ?_
            refine W.lcmp hx hb dX8_trade_80 ?_
            refine lv_if_ge (tgt := 87) hx hb dX8_trade_81 (by decide) (fun hc_10 => ?_) (fun hc_10 => ?_)
            · have hv := hv.1 ((lg_cmp_ge _ _).mp hc_10)
              refine lv_aload_n hx hb dX8_trade_87 rfl (lv_at hl 2 rfl) ?_
              refine va_get (D := G.1) (ci := 8) (v := .ref m1) (C := RX8) (T := TX8) (N := 29) hx hb hts hinX8 hown hKK.1 hP 0 rfl rfl 0 (by decide) kl7 (fun _ h9 => h9) rfl dX8_trade_88 ?_
              refine lv_iload hx hb dX8_trade_91 (lv_at hl 0 rfl) ?_
              obtain ⟨hin, hv⟩ := hv
              refine va_lald hx hb hKK.1 hP 1 2 rfl rfl hin dX8_trade_93 ?_
              refine lv_iload hx hb dX8_trade_94 (lv_at hl 6 rfl) ?_
              refine lv_i2l hx hb dX8_trade_96 rfl ?_
              refine lv_ladd hx hb dX8_trade_97 ?_
              refine lv_ldc2 (v := 99999) hx hb hown kl224 dX8_trade_98 ?_
              refine W.lcmp hx hb dX8_trade_101 ?_
              refine lv_if_le (tgt := 108) hx hb dX8_trade_102 (by decide) (fun hc_11 => ?_) (fun hc_11 => ?_)
              · have hv := hv.1 ((lg_cmp_le _ _).mp hc_11)
                refine lv_aload_n hx hb dX8_trade_108 rfl (lv_at hl 2 rfl) ?_
                refine va_get (D := G.1) (ci := 8) (v := .ref m1) (C := RX8) (T := TX8) (N := 29) hx hb hts hinX8 hown hKK.1 hP 0 rfl rfl 0 (by decide) kl7 (fun _ h9 => h9) rfl dX8_trade_109 ?_
                refine lv_iload hx hb dX8_trade_112 (lv_at hl 1 rfl) ?_
                refine lv_dup2_11 hx hb dX8_trade_114 rfl rfl ?_
                obtain ⟨hin, hv⟩ := hv
                refine va_lald hx hb hKK.1 hP 1 2 rfl rfl hin dX8_trade_115 ?_
                refine lv_iload hx hb dX8_trade_116 (lv_at hl 6 rfl) ?_
                refine lv_i2l hx hb dX8_trade_118 rfl ?_
                refine lv_lsub hx hb dX8_trade_119 ?_
                obtain ⟨hin, hv⟩ := hv
                refine va_last hx hb hKK.1 hP hD hS 1 2 rfl rfl hin dX8_trade_120 (fun H locs hP hD hS => ?_)
                have hP : va_P G.1 vwCl [(m0, .inr (8, [.ref m1, .ref m2, .ref m3, .ref m4, .ref m5, .ref m6, .ref m7, .ref m8, .ref m9, .int fu, .int fd, .int fi, .int nu, .int nw, .int nf, .int bf, .int bn, .ref m10, .int ts, .int ap, .int fs, .int ln, .int fo, .int fa, .ref m11, .ref m12, .ref m13, .ref m14, .int wr])), aJ G m1 560 (vp_updL mw (((60 + (9 * x)) + z).toNatClampNeg) ((mw ((60 + (9 * x)) + z).toNatClampNeg) - v.toInt64)), aZ G m2 2 ik, aI G m3 20 zs, aI G m4 20 cl, aI G m5 20 hs, aI G m6 20 ks, aI G m7 20 wa, aI G m8 20 ne, aI G m9 4 mn, aI G m10 400 tx, aI G m11 6 th, aI G m12 6 od, aI G m13 30 bk, aI G m14 30 bh] H := hP
                have hD : va_D A [(m0, .inr (8, [.ref m1, .ref m2, .ref m3, .ref m4, .ref m5, .ref m6, .ref m7, .ref m8, .ref m9, .int fu, .int fd, .int fi, .int nu, .int nw, .int nf, .int bf, .int bn, .ref m10, .int ts, .int ap, .int fs, .int ln, .int fo, .int fa, .ref m11, .ref m12, .ref m13, .ref m14, .int wr])), aJ G m1 560 (vp_updL mw (((60 + (9 * x)) + z).toNatClampNeg) ((mw ((60 + (9 * x)) + z).toNatClampNeg) - v.toInt64)), aZ G m2 2 ik, aI G m3 20 zs, aI G m4 20 cl, aI G m5 20 hs, aI G m6 20 ks, aI G m7 20 wa, aI G m8 20 ne, aI G m9 4 mn, aI G m10 400 tx, aI G m11 6 th, aI G m12 6 od, aI G m13 30 bk, aI G m14 30 bh] := hD
                refine lv_aload_n hx hb dX8_trade_121 rfl (lv_at hl 2 rfl) ?_
                refine va_get (D := G.1) (ci := 8) (v := .ref m1) (C := RX8) (T := TX8) (N := 29) hx hb hts hinX8 hown hKK.1 hP 0 rfl rfl 0 (by decide) kl7 (fun _ h9 => h9) rfl dX8_trade_122 ?_
                refine lv_iload hx hb dX8_trade_125 (lv_at hl 0 rfl) ?_
                refine lv_dup2_11 hx hb dX8_trade_127 rfl rfl ?_
                obtain ⟨hin, hv⟩ := hv
                refine va_lald hx hb hKK.1 hP 1 2 rfl rfl hin dX8_trade_128 ?_
                refine lv_iload hx hb dX8_trade_129 (lv_at hl 6 rfl) ?_
                refine lv_i2l hx hb dX8_trade_131 rfl ?_
                refine lv_ladd hx hb dX8_trade_132 ?_
                obtain ⟨hin, hv⟩ := hv
                refine va_last hx hb hKK.1 hP hD hS 1 2 rfl rfl hin dX8_trade_133 (fun H locs hP hD hS => ?_)
                have hP : va_P G.1 vwCl [(m0, .inr (8, [.ref m1, .ref m2, .ref m3, .ref m4, .ref m5, .ref m6, .ref m7, .ref m8, .ref m9, .int fu, .int fd, .int fi, .int nu, .int nw, .int nf, .int bf, .int bn, .ref m10, .int ts, .int ap, .int fs, .int ln, .int fo, .int fa, .ref m11, .ref m12, .ref m13, .ref m14, .int wr])), aJ G m1 560 (vp_updL (vp_updL mw (((60 + (9 * x)) + z).toNatClampNeg) ((mw ((60 + (9 * x)) + z).toNatClampNeg) - v.toInt64)) (((60 + (9 * y)) + z).toNatClampNeg) (((vp_updL mw (((60 + (9 * x)) + z).toNatClampNeg) ((mw ((60 + (9 * x)) + z).toNatClampNeg) - v.toInt64)) ((60 + (9 * y)) + z).toNatClampNeg) + v.toInt64)), aZ G m2 2 ik, aI G m3 20 zs, aI G m4 20 cl, aI G m5 20 hs, aI G m6 20 ks, aI G m7 20 wa, aI G m8 20 ne, aI G m9 4 mn, aI G m10 400 tx, aI G m11 6 th, aI G m12 6 od, aI G m13 30 bk, aI G m14 30 bh] H := hP
                have hD : va_D A [(m0, .inr (8, [.ref m1, .ref m2, .ref m3, .ref m4, .ref m5, .ref m6, .ref m7, .ref m8, .ref m9, .int fu, .int fd, .int fi, .int nu, .int nw, .int nf, .int bf, .int bn, .ref m10, .int ts, .int ap, .int fs, .int ln, .int fo, .int fa, .ref m11, .ref m12, .ref m13, .ref m14, .int wr])), aJ G m1 560 (vp_updL (vp_updL mw (((60 + (9 * x)) + z).toNatClampNeg) ((mw ((60 + (9 * x)) + z).toNatClampNeg) - v.toInt64)) (((60 + (9 * y)) + z).toNatClampNeg) (((vp_updL mw (((60 + (9 * x)) + z).toNatClampNeg) ((mw ((60 + (9 * x)) + z).toNatClampNeg) - v.toInt64)) ((60 + (9 * y)) + z).toNatClampNeg) + v.toInt64)), aZ G m2 2 ik, aI G m3 20 zs, aI G m4 20 cl, aI G m5 20 hs, aI G m6 20 ks, aI G m7 20 wa, aI G m8 20 ne, aI G m9 4 mn, aI G m10 400 tx, aI G m11 6 th, aI G m12 6 od, aI G m13 30 bk, aI G m14 30 bh] := hD
                refine lv_aload_n hx hb dX8_trade_134 rfl (lv_at hl 2 rfl) ?_
                refine va_get (D := G.1) (ci := 8) (v := .ref m1) (C := RX8) (T := TX8) (N := 29) hx hb hts hinX8 hown hKK.1 hP 0 rfl rfl 0 (by decide) kl7 (fun _ h9 => h9) rfl dX8_trade_135 ?_
                refine lv_iload hx hb dX8_trade_138 (lv_at hl 1 rfl) ?_
                obtain ⟨hin, hv⟩ := hv
                refine va_lald hx hb hKK.1 hP 1 2 rfl rfl hin dX8_trade_140 ?_
                refine lv_l2i hx hb dX8_trade_141 rfl ?_
                exact x_iret (v := ((vp_updL (vp_updL mw (((60 + (9 * x)) + z).toNatClampNeg) ((mw ((60 + (9 * x)) + z).toNatClampNeg) - v.toInt64)) (((60 + (9 * y)) + z).toNatClampNeg) (((vp_updL mw (((60 + (9 * x)) + z).toNatClampNeg) ((mw ((60 + (9 * x)) + z).toNatClampNeg) - v.toInt64)) ((60 + (9 * y)) + z).toNatClampNeg) + v.toInt64)) ((60 + (9 * x)) + z).toNatClampNeg).toInt32) (vp_updL (vp_updL mw (((60 + (9 * x)) + z).toNatClampNeg) ((mw ((60 + (9 * x)) + z).toNatClampNeg) - v.toInt64)) (((60 + (9 * y)) + z).toNatClampNeg) (((vp_updL mw (((60 + (9 * x)) + z).toNatClampNeg) ((mw ((60 + (9 * x)) + z).toNatClampNeg) - v.toInt64)) ((60 + (9 * y)) + z).toNatClampNeg) + v.toInt64)) hQ hx hb hr hlocks hS dX8_trade_142 hv hP hD
              · have hv := hv.2 (fun h => hc_11 ((lg_cmp_le _ _).mpr h))
                refine lv_ldc (v := (-1000000004)) hx hb hown kl77 dX8_trade_105 ?_
                exact x_iret (v := (-1000000004)) mw hQ hx hb hr hlocks hS dX8_trade_107 hv hP hD
            · have hv := hv.2 (fun h => hc_10 ((lg_cmp_ge _ _).mpr h))
              refine lv_ldc (v := (-1000000003)) hx hb hown kl198 dX8_trade_84 ?_
              exact x_iret (v := (-1000000003)) mw hQ hx hb hr hlocks hS dX8_trade_86 hv hP hD
          · have hv := hv.2 (tv_eq.mp hc_9)
            refine lv_ldc (v := (-1000000002)) hx hb hown kl73 dX8_trade_45 ?_
            exact x_iret (v := (-1000000002)) mw hQ hx hb hr hlocks hS dX8_trade_47 hv hP hD
        · have hv := hv.2 hc_7
          refine lv_ldc (v := (-1000000001)) hx hb hown kl164 dX8_trade_29 ?_
          exact x_iret (v := (-1000000001)) mw hQ hx hb hr hlocks hS dX8_trade_31 hv hP hD
theorem k_X8_trade (l : Launch) (G : Gt) (m0 m1 m2 m3 m4 m5 m6 m7 m8 m9 m10 m11 m12 m13 m14 : Nat) (sz : Nat) (mw : Nat → Int64) (ik : Nat → Int32) (zs : Nat → Int32) (cl : Nat → Int32) (hs : Nat → Int32) (ks : Nat → Int32) (wa : Nat → Int32) (ne : Nat → Int32) (mn : Nat → Int32) (tx : Nat → Int32) (th : Nat → Int32) (od : Nat → Int32) (bk : Nat → Int32) (bh : Nat → Int32) (fu : Int32) (fd : Int32) (fi : Int32) (nu : Int32) (nw : Int32) (nf : Int32) (bf : Int32) (bn : Int32) (ts : Int32) (ap : Int32) (fs : Int32) (ln : Int32) (fo : Int32) (fa : Int32) (wr : Int32) (x : Int32) (y : Int32) (z : Int32) (v : Int32) (hp : True) : MetI l yX8_trade wsX8_trade 2 46 G [.ref m0, .int x, .int y, .int z, .int v] [(m0, .inr (8, [.ref m1, .ref m2, .ref m3, .ref m4, .ref m5, .ref m6, .ref m7, .ref m8, .ref m9, .int fu, .int fd, .int fi, .int nu, .int nw, .int nf, .int bf, .int bn, .ref m10, .int ts, .int ap, .int fs, .int ln, .int fo, .int fa, .ref m11, .ref m12, .ref m13, .ref m14, .int wr])), aJ G m1 560 mw, aZ G m2 2 ik, aI G m3 20 zs, aI G m4 20 cl, aI G m5 20 hs, aI G m6 20 ks, aI G m7 20 wa, aI G m8 20 ne, aI G m9 4 mn, aI G m10 400 tx, aI G m11 6 th, aI G m12 6 od, aI G m13 30 bk, aI G m14 30 bh] sz (fun (r : Int32) (u : (Nat → Int64)) => True) (fun (u : (Nat → Int64)) => [(m0, .inr (8, [.ref m1, .ref m2, .ref m3, .ref m4, .ref m5, .ref m6, .ref m7, .ref m8, .ref m9, .int fu, .int fd, .int fi, .int nu, .int nw, .int nf, .int bf, .int bn, .ref m10, .int ts, .int ap, .int fs, .int ln, .int fo, .int fa, .ref m11, .ref m12, .ref m13, .ref m14, .int wr])), aJ G m1 560 u, aZ G m2 2 ik, aI G m3 20 zs, aI G m4 20 cl, aI G m5 20 hs, aI G m6 20 ks, aI G m7 20 wa, aI G m8 20 ne, aI G m9 4 mn, aI G m10 400 tx, aI G m11 6 th, aI G m12 6 od, aI G m13 30 bk, aI G m14 30 bh]) :=
  c_X8_trade l G m0 m1 m2 m3 m4 m5 m6 m7 m8 m9 m10 m11 m12 m13 m14 sz mw ik zs cl hs ks wa ne mn tx th od bk bh fu fd fi nu nw nf bf bn ts ap fs ln fo fa wr x y z v (by
    sorry)

set_option maxHeartbeats 4000000 in
set_option maxRecDepth 100000 in
theorem c_X8_forgive (l : Launch) (G : Gt) (m0 m1 m2 m3 m4 m5 m6 m7 m8 m9 m10 m11 m12 m13 m14 : Nat) (sz : Nat) (mw : Nat → Int64) (ik : Nat → Int32) (zs : Nat → Int32) (cl : Nat → Int32) (hs : Nat → Int32) (ks : Nat → Int32) (wa : Nat → Int32) (ne : Nat → Int32) (mn : Nat → Int32) (tx : Nat → Int32) (th : Nat → Int32) (od : Nat → Int32) (bk : Nat → Int32) (bh : Nat → Int32) (fu : Int32) (fd : Int32) (fi : Int32) (nu : Int32) (nw : Int32) (nf : Int32) (bf : Int32) (bn : Int32) (ts : Int32) (ap : Int32) (fs : Int32) (ln : Int32) (fo : Int32) (fa : Int32) (wr : Int32) (x : Int32) (hv : (True) ∧ (∀ (r_1 : Int32), (True) → ((¬ r_1 = 0 → (vp_in (50 + x) 560) ∧ ((vp_in (50 + x) 560) ∧ ((vp_in (40 + x) 560) ∧ (True)))) ∧ (r_1 = 0 → True)))) : MetI l yX8_forgive wsX8_forgive 2 46 G [.ref m0, .int x] [(m0, .inr (8, [.ref m1, .ref m2, .ref m3, .ref m4, .ref m5, .ref m6, .ref m7, .ref m8, .ref m9, .int fu, .int fd, .int fi, .int nu, .int nw, .int nf, .int bf, .int bn, .ref m10, .int ts, .int ap, .int fs, .int ln, .int fo, .int fa, .ref m11, .ref m12, .ref m13, .ref m14, .int wr])), aJ G m1 560 mw, aZ G m2 2 ik, aI G m3 20 zs, aI G m4 20 cl, aI G m5 20 hs, aI G m6 20 ks, aI G m7 20 wa, aI G m8 20 ne, aI G m9 4 mn, aI G m10 400 tx, aI G m11 6 th, aI G m12 6 od, aI G m13 30 bk, aI G m14 30 bh] sz (fun (r : Int32) (u : (Nat → Int64)) => True) (fun (u : (Nat → Int64)) => [(m0, .inr (8, [.ref m1, .ref m2, .ref m3, .ref m4, .ref m5, .ref m6, .ref m7, .ref m8, .ref m9, .int fu, .int fd, .int fi, .int nu, .int nw, .int nf, .int bf, .int bn, .ref m10, .int ts, .int ap, .int fs, .int ln, .int fo, .int fa, .ref m11, .ref m12, .ref m13, .ref m14, .int wr])), aJ G m1 560 u, aZ G m2 2 ik, aI G m3 20 zs, aI G m4 20 cl, aI G m5 20 hs, aI G m6 20 ks, aI G m7 20 wa, aI G m8 20 ne, aI G m9 4 mn, aI G m10 400 tx, aI G m11 6 th, aI G m12 6 od, aI G m13 30 bk, aI G m14 30 bh]) := by
  refine x_startI (cc := cX8_forgive) (maxL := 3) (ret := (some .int)) (by decide) rfl (Nat.le_of_ble_eq_true rfl) ?_
  intro p e s m args below meth c A R Q ls hRf hRl hQ C hP hD hS hA hSS hl
  obtain ⟨hx, hb, hr, hml, hown, hts, hlocks, hKK⟩ := C
  have hown : s.vm.findClass RX8 = some m.cls := hown
  have hl : lv_has ls 3 [(0, .ref m0), (1, .int x)] := hl
  have hinX8 : ∀ w ∈ u_ws RX8 TX8 29, w ∈ wsX8_forgive := by decide +kernel
  have kl164 := hts (.constant RX8 164 (-1000000001)) (by decide +kernel)
  have kl7 := hts (.fieldLink RX8 7 "WarmStonesModel" "w" "[J") (by decide +kernel)
  refine lv_aload_n hx hb dX8_forgive_0 rfl (lv_at hl 0 rfl) ?_
  refine lv_iload_n hx hb dX8_forgive_1 rfl (lv_at hl 1 rfl) ?_
  obtain ⟨hp, hv⟩ := hv
  refine x_calliR (x_runV (As := [.int x]) (rest := []) (n := 1) (C := RX8) (ci := 8) ⟨hx, hb, hml, hown, hts⟩ (k_X8_isPerson l G m0 m1 m2 m3 m4 m5 m6 m7 m8 m9 m10 m11 m12 m13 m14 _ mw ik zs cl hs ks wa ne mn tx th od bk bh fu fd fi nu nw nf bf bn ts ap fs ln fo fa wr x hp) gX8_forgive_X8_isPerson rfl (by decide +kernel) ⟨Nat.le_trans (Nat.le_of_ble_eq_true rfl) hRf, Nat.le_trans (Nat.le_of_ble_eq_true rfl) hRl⟩ hKK hSS hS hA hP hD [0, 1, 2, 3, 4, 5, 6, 7, 8, 9, 10, 11, 12, 13, 14] (by decide) rfl rfl rfl 0 rfl rfl hl.1 rfl (Nat.le_of_ble_eq_true rfl) dX8_forgive_2) hP hD hS hA [0, 1, 2, 3, 4, 5, 6, 7, 8, 9, 10, 11, 12, 13, 14] rfl (fun r_1 _ H locs hw hP hS => ?_)
  have hv := hv r_1 hw
  refine lv_if_ne (tgt := 11) hx hb dX8_forgive_5 (by decide) (fun hc_2 => ?_) (fun hc_2 => ?_)
  · have hv := hv.1 hc_2
    refine lv_aload_n hx hb dX8_forgive_11 rfl (lv_at hl 0 rfl) ?_
    refine va_get (D := G.1) (ci := 8) (v := .ref m1) (C := RX8) (T := TX8) (N := 29) hx hb hts hinX8 hown hKK.1 hP 0 rfl rfl 0 (by decide) kl7 (fun _ h9 => h9) rfl dX8_forgive_12 ?_
    refine lv_bipush (v := 50) hx hb dX8_forgive_15 (by decide) ?_
    refine lv_iload_n hx hb dX8_forgive_17 rfl (lv_at hl 1 rfl) ?_
    refine lv_iadd hx hb dX8_forgive_18 ?_
    obtain ⟨hin, hv⟩ := hv
    refine va_lald hx hb hKK.1 hP 1 2 rfl rfl hin dX8_forgive_19 ?_
    refine lv_l2i hx hb dX8_forgive_20 rfl ?_
    refine lv_istore_n (lv' := [(2, .int ((mw (50 + x).toNatClampNeg).toInt32)), (0, .ref m0), (1, .int x)]) hx hb dX8_forgive_21 rfl hl (by decide) rfl (fun ls hl => ?_)
    refine lv_aload_n hx hb dX8_forgive_22 rfl (lv_at hl 1 rfl) ?_
    refine va_get (D := G.1) (ci := 8) (v := .ref m1) (C := RX8) (T := TX8) (N := 29) hx hb hts hinX8 hown hKK.1 hP 0 rfl rfl 0 (by decide) kl7 (fun _ h9 => h9) rfl dX8_forgive_23 ?_
    refine lv_bipush (v := 50) hx hb dX8_forgive_26 (by decide) ?_
    refine lv_iload_n hx hb dX8_forgive_28 rfl (lv_at hl 2 rfl) ?_
    refine lv_iadd hx hb dX8_forgive_29 ?_
    refine lv_lconst (v := 0) hx hb dX8_forgive_30 (by decide) ?_
    obtain ⟨hin, hv⟩ := hv
    refine va_last hx hb hKK.1 hP hD hS 1 2 rfl rfl hin dX8_forgive_31 (fun H locs hP hD hS => ?_)
    have hP : va_P G.1 vwCl [(m0, .inr (8, [.ref m1, .ref m2, .ref m3, .ref m4, .ref m5, .ref m6, .ref m7, .ref m8, .ref m9, .int fu, .int fd, .int fi, .int nu, .int nw, .int nf, .int bf, .int bn, .ref m10, .int ts, .int ap, .int fs, .int ln, .int fo, .int fa, .ref m11, .ref m12, .ref m13, .ref m14, .int wr])), aJ G m1 560 (vp_updL mw ((50 + x).toNatClampNeg) 0), aZ G m2 2 ik, aI G m3 20 zs, aI G m4 20 cl, aI G m5 20 hs, aI G m6 20 ks, aI G m7 20 wa, aI G m8 20 ne, aI G m9 4 mn, aI G m10 400 tx, aI G m11 6 th, aI G m12 6 od, aI G m13 30 bk, aI G m14 30 bh] H := hP
    have hD : va_D A [(m0, .inr (8, [.ref m1, .ref m2, .ref m3, .ref m4, .ref m5, .ref m6, .ref m7, .ref m8, .ref m9, .int fu, .int fd, .int fi, .int nu, .int nw, .int nf, .int bf, .int bn, .ref m10, .int ts, .int ap, .int fs, .int ln, .int fo, .int fa, .ref m11, .ref m12, .ref m13, .ref m14, .int wr])), aJ G m1 560 (vp_updL mw ((50 + x).toNatClampNeg) 0), aZ G m2 2 ik, aI G m3 20 zs, aI G m4 20 cl, aI G m5 20 hs, aI G m6 20 ks, aI G m7 20 wa, aI G m8 20 ne, aI G m9 4 mn, aI G m10 400 tx, aI G m11 6 th, aI G m12 6 od, aI G m13 30 bk, aI G m14 30 bh] := hD
    refine lv_aload_n hx hb dX8_forgive_32 rfl (lv_at hl 1 rfl) ?_
    refine va_get (D := G.1) (ci := 8) (v := .ref m1) (C := RX8) (T := TX8) (N := 29) hx hb hts hinX8 hown hKK.1 hP 0 rfl rfl 0 (by decide) kl7 (fun _ h9 => h9) rfl dX8_forgive_33 ?_
    refine lv_bipush (v := 40) hx hb dX8_forgive_36 (by decide) ?_
    refine lv_iload_n hx hb dX8_forgive_38 rfl (lv_at hl 2 rfl) ?_
    refine lv_iadd hx hb dX8_forgive_39 ?_
    refine lv_lconst (v := 0) hx hb dX8_forgive_40 (by decide) ?_
    obtain ⟨hin, hv⟩ := hv
    refine va_last hx hb hKK.1 hP hD hS 1 2 rfl rfl hin dX8_forgive_41 (fun H locs hP hD hS => ?_)
    have hP : va_P G.1 vwCl [(m0, .inr (8, [.ref m1, .ref m2, .ref m3, .ref m4, .ref m5, .ref m6, .ref m7, .ref m8, .ref m9, .int fu, .int fd, .int fi, .int nu, .int nw, .int nf, .int bf, .int bn, .ref m10, .int ts, .int ap, .int fs, .int ln, .int fo, .int fa, .ref m11, .ref m12, .ref m13, .ref m14, .int wr])), aJ G m1 560 (vp_updL (vp_updL mw ((50 + x).toNatClampNeg) 0) ((40 + x).toNatClampNeg) 0), aZ G m2 2 ik, aI G m3 20 zs, aI G m4 20 cl, aI G m5 20 hs, aI G m6 20 ks, aI G m7 20 wa, aI G m8 20 ne, aI G m9 4 mn, aI G m10 400 tx, aI G m11 6 th, aI G m12 6 od, aI G m13 30 bk, aI G m14 30 bh] H := hP
    have hD : va_D A [(m0, .inr (8, [.ref m1, .ref m2, .ref m3, .ref m4, .ref m5, .ref m6, .ref m7, .ref m8, .ref m9, .int fu, .int fd, .int fi, .int nu, .int nw, .int nf, .int bf, .int bn, .ref m10, .int ts, .int ap, .int fs, .int ln, .int fo, .int fa, .ref m11, .ref m12, .ref m13, .ref m14, .int wr])), aJ G m1 560 (vp_updL (vp_updL mw ((50 + x).toNatClampNeg) 0) ((40 + x).toNatClampNeg) 0), aZ G m2 2 ik, aI G m3 20 zs, aI G m4 20 cl, aI G m5 20 hs, aI G m6 20 ks, aI G m7 20 wa, aI G m8 20 ne, aI G m9 4 mn, aI G m10 400 tx, aI G m11 6 th, aI G m12 6 od, aI G m13 30 bk, aI G m14 30 bh] := hD
    refine lv_iload_n hx hb dX8_forgive_42 rfl (lv_at hl 0 rfl) ?_
    exact x_iret (v := (mw (50 + x).toNatClampNeg).toInt32) (vp_updL (vp_updL mw ((50 + x).toNatClampNeg) 0) ((40 + x).toNatClampNeg) 0) hQ hx hb hr hlocks hS dX8_forgive_43 hv hP hD
  · have hv := hv.2 hc_2
    refine lv_ldc (v := (-1000000001)) hx hb hown kl164 dX8_forgive_8 ?_
    exact x_iret (v := (-1000000001)) mw hQ hx hb hr hlocks hS dX8_forgive_10 hv hP hD
theorem k_X8_forgive (l : Launch) (G : Gt) (m0 m1 m2 m3 m4 m5 m6 m7 m8 m9 m10 m11 m12 m13 m14 : Nat) (sz : Nat) (mw : Nat → Int64) (ik : Nat → Int32) (zs : Nat → Int32) (cl : Nat → Int32) (hs : Nat → Int32) (ks : Nat → Int32) (wa : Nat → Int32) (ne : Nat → Int32) (mn : Nat → Int32) (tx : Nat → Int32) (th : Nat → Int32) (od : Nat → Int32) (bk : Nat → Int32) (bh : Nat → Int32) (fu : Int32) (fd : Int32) (fi : Int32) (nu : Int32) (nw : Int32) (nf : Int32) (bf : Int32) (bn : Int32) (ts : Int32) (ap : Int32) (fs : Int32) (ln : Int32) (fo : Int32) (fa : Int32) (wr : Int32) (x : Int32) (hp : True) : MetI l yX8_forgive wsX8_forgive 2 46 G [.ref m0, .int x] [(m0, .inr (8, [.ref m1, .ref m2, .ref m3, .ref m4, .ref m5, .ref m6, .ref m7, .ref m8, .ref m9, .int fu, .int fd, .int fi, .int nu, .int nw, .int nf, .int bf, .int bn, .ref m10, .int ts, .int ap, .int fs, .int ln, .int fo, .int fa, .ref m11, .ref m12, .ref m13, .ref m14, .int wr])), aJ G m1 560 mw, aZ G m2 2 ik, aI G m3 20 zs, aI G m4 20 cl, aI G m5 20 hs, aI G m6 20 ks, aI G m7 20 wa, aI G m8 20 ne, aI G m9 4 mn, aI G m10 400 tx, aI G m11 6 th, aI G m12 6 od, aI G m13 30 bk, aI G m14 30 bh] sz (fun (r : Int32) (u : (Nat → Int64)) => True) (fun (u : (Nat → Int64)) => [(m0, .inr (8, [.ref m1, .ref m2, .ref m3, .ref m4, .ref m5, .ref m6, .ref m7, .ref m8, .ref m9, .int fu, .int fd, .int fi, .int nu, .int nw, .int nf, .int bf, .int bn, .ref m10, .int ts, .int ap, .int fs, .int ln, .int fo, .int fa, .ref m11, .ref m12, .ref m13, .ref m14, .int wr])), aJ G m1 560 u, aZ G m2 2 ik, aI G m3 20 zs, aI G m4 20 cl, aI G m5 20 hs, aI G m6 20 ks, aI G m7 20 wa, aI G m8 20 ne, aI G m9 4 mn, aI G m10 400 tx, aI G m11 6 th, aI G m12 6 od, aI G m13 30 bk, aI G m14 30 bh]) :=
  c_X8_forgive l G m0 m1 m2 m3 m4 m5 m6 m7 m8 m9 m10 m11 m12 m13 m14 sz mw ik zs cl hs ks wa ne mn tx th od bk bh fu fd fi nu nw nf bf bn ts ap fs ln fo fa wr x (by
    sorry)

set_option maxHeartbeats 4000000 in
set_option maxRecDepth 100000 in
theorem c_X8_copy (l : Launch) (G : Gt) (m0 m1 m2 m3 m4 m5 m6 m7 m8 m9 m10 m11 m12 m13 m14 : Nat) (sz : Nat) (mw : Nat → Int64) (ik : Nat → Int32) (zs : Nat → Int32) (cl : Nat → Int32) (hs : Nat → Int32) (ks : Nat → Int32) (wa : Nat → Int32) (ne : Nat → Int32) (mn : Nat → Int32) (tx : Nat → Int32) (th : Nat → Int32) (od : Nat → Int32) (bk : Nat → Int32) (bh : Nat → Int32) (fu : Int32) (fd : Int32) (fi : Int32) (nu : Int32) (nw : Int32) (nf : Int32) (bf : Int32) (bn : Int32) (ts : Int32) (ap : Int32) (fs : Int32) (ln : Int32) (fo : Int32) (fa : Int32) (wr : Int32) (x : Int32) (y : Int32) (hv : ∃ (I2_3 : (Nat → Int64) → Int32 → Prop) (μ2_4 : (Nat → Int64) → Int32 → Nat), I2_3 mw 0 ∧ (∀ (fm1_1 : (Nat → Int64)) (x3_2 : Int32), I2_3 fm1_1 x3_2 → (140 ≤ x3_2 → True) ∧ (¬ (140 ≤ x3_2) → (vp_in (x + x3_2) 560) ∧ ((vp_in (y + x3_2) 560) ∧ (I2_3 (vp_updL fm1_1 ((y + x3_2).toNatClampNeg) (fm1_1 (x + x3_2).toNatClampNeg)) (x3_2 + 1) ∧ μ2_4 (vp_updL fm1_1 ((y + x3_2).toNatClampNeg) (fm1_1 (x + x3_2).toNatClampNeg)) (x3_2 + 1) < μ2_4 fm1_1 x3_2))))) : MetV l yX8_copy wsX8_copy 0 0 G [.ref m0, .int x, .int y] [(m0, .inr (8, [.ref m1, .ref m2, .ref m3, .ref m4, .ref m5, .ref m6, .ref m7, .ref m8, .ref m9, .int fu, .int fd, .int fi, .int nu, .int nw, .int nf, .int bf, .int bn, .ref m10, .int ts, .int ap, .int fs, .int ln, .int fo, .int fa, .ref m11, .ref m12, .ref m13, .ref m14, .int wr])), aJ G m1 560 mw, aZ G m2 2 ik, aI G m3 20 zs, aI G m4 20 cl, aI G m5 20 hs, aI G m6 20 ks, aI G m7 20 wa, aI G m8 20 ne, aI G m9 4 mn, aI G m10 400 tx, aI G m11 6 th, aI G m12 6 od, aI G m13 30 bk, aI G m14 30 bh] sz (fun (u : (Nat → Int64)) => True) (fun (u : (Nat → Int64)) => [(m0, .inr (8, [.ref m1, .ref m2, .ref m3, .ref m4, .ref m5, .ref m6, .ref m7, .ref m8, .ref m9, .int fu, .int fd, .int fi, .int nu, .int nw, .int nf, .int bf, .int bn, .ref m10, .int ts, .int ap, .int fs, .int ln, .int fo, .int fa, .ref m11, .ref m12, .ref m13, .ref m14, .int wr])), aJ G m1 560 u, aZ G m2 2 ik, aI G m3 20 zs, aI G m4 20 cl, aI G m5 20 hs, aI G m6 20 ks, aI G m7 20 wa, aI G m8 20 ne, aI G m9 4 mn, aI G m10 400 tx, aI G m11 6 th, aI G m12 6 od, aI G m13 30 bk, aI G m14 30 bh]) := by
  refine x_startV (cc := cX8_copy) (maxL := 4) (ret := none) (by decide) rfl (Nat.le_of_ble_eq_true rfl) ?_
  intro p e s m args below meth c A R Q ls hRf hRl hQ C hP hD hS hA hSS hl
  obtain ⟨hx, hb, hr, hml, hown, hts, hlocks, hKK⟩ := C
  have hown : s.vm.findClass RX8 = some m.cls := hown
  have hl : lv_has ls 4 [(0, .ref m0), (1, .int x), (2, .int y)] := hl
  have hinX8 : ∀ w ∈ u_ws RX8 TX8 29, w ∈ wsX8_copy := by decide +kernel
  have kl7 := hts (.fieldLink RX8 7 "WarmStonesModel" "w" "[J") (by decide +kernel)
  refine lv_iconst (v := 0) hx hb dX8_copy_0 (by decide) ?_
  refine lv_istore_n (lv' := [(3, .int 0), (0, .ref m0), (1, .int x), (2, .int y)]) hx hb dX8_copy_1 rfl hl (by decide) rfl (fun ls hl => ?_)
  obtain ⟨I2_3, μ2_4, hi0, hs_8⟩ := hv
  have Lm_10 : ∀ (n_9 : Nat) (fm1_1 : (Nat → Int64)) (x3_2 : Int32) (H : Heap) (locs : List Loc) (ls : Array Slot), μ2_4 fm1_1 x3_2 < n_9 → I2_3 fm1_1 x3_2 → va_P G.1 vwCl [(m0, .inr (8, [.ref m1, .ref m2, .ref m3, .ref m4, .ref m5, .ref m6, .ref m7, .ref m8, .ref m9, .int fu, .int fd, .int fi, .int nu, .int nw, .int nf, .int bf, .int bn, .ref m10, .int ts, .int ap, .int fs, .int ln, .int fo, .int fa, .ref m11, .ref m12, .ref m13, .ref m14, .int wr])), aJ G m1 560 fm1_1, aZ G m2 2 ik, aI G m3 20 zs, aI G m4 20 cl, aI G m5 20 hs, aI G m6 20 ks, aI G m7 20 wa, aI G m8 20 ne, aI G m9 4 mn, aI G m10 400 tx, aI G m11 6 th, aI G m12 6 od, aI G m13 30 bk, aI G m14 30 bh] H → va_D A [(m0, .inr (8, [.ref m1, .ref m2, .ref m3, .ref m4, .ref m5, .ref m6, .ref m7, .ref m8, .ref m9, .int fu, .int fd, .int fi, .int nu, .int nw, .int nf, .int bf, .int bn, .ref m10, .int ts, .int ap, .int fs, .int ln, .int fo, .int fa, .ref m11, .ref m12, .ref m13, .ref m14, .int wr])), aJ G m1 560 fm1_1, aZ G m2 2 ik, aI G m3 20 zs, aI G m4 20 cl, aI G m5 20 hs, aI G m6 20 ks, aI G m7 20 wa, aI G m8 20 ne, aI G m9 4 mn, aI G m10 400 tx, aI G m11 6 th, aI G m12 6 od, aI G m13 30 bk, aI G m14 30 bh] → va_S A s.heap H locs → lv_has ls 4 [(3, .int x3_2), (0, .ref m0), (1, .int x), (2, .int y)] → W p l e R s m args below meth c H locs 0 0 Q (F0 m 2 ls []) := by
    intro n_9
    induction n_9 with
    | zero => intro fm1_1 x3_2 H locs ls hm; exact absurd hm (Nat.not_lt_zero _)
    | succ n_9 ih_5 =>
      intro fm1_1 x3_2 H locs ls hI_6 hi hP hD hS hl
      have hv := hs_8 fm1_1 x3_2 hi
      refine lv_iload_n hx hb dX8_copy_2 rfl (lv_at hl 0 rfl) ?_
      refine lv_sipush (v := 140) hx hb dX8_copy_3 (by decide) ?_
      refine lv_icmp_ge (tgt := 31) hx hb dX8_copy_6 (by decide) (fun hc_7 => ?_) (fun hc_7 => ?_)
      · have hv := hv.1 hc_7
        exact x_vret fm1_1 hQ hx hb hr hlocks hS dX8_copy_31 hv hP hD
      · have hv := hv.2 hc_7
        refine lv_aload_n hx hb dX8_copy_9 rfl (lv_at hl 1 rfl) ?_
        refine va_get (D := G.1) (ci := 8) (v := .ref m1) (C := RX8) (T := TX8) (N := 29) hx hb hts hinX8 hown hKK.1 hP 0 rfl rfl 0 (by decide) kl7 (fun _ h9 => h9) rfl dX8_copy_10 ?_
        refine lv_iload_n hx hb dX8_copy_13 rfl (lv_at hl 3 rfl) ?_
        refine lv_iload_n hx hb dX8_copy_14 rfl (lv_at hl 0 rfl) ?_
        refine lv_iadd hx hb dX8_copy_15 ?_
        refine lv_aload_n hx hb dX8_copy_16 rfl (lv_at hl 1 rfl) ?_
        refine va_get (D := G.1) (ci := 8) (v := .ref m1) (C := RX8) (T := TX8) (N := 29) hx hb hts hinX8 hown hKK.1 hP 0 rfl rfl 0 (by decide) kl7 (fun _ h9 => h9) rfl dX8_copy_17 ?_
        refine lv_iload_n hx hb dX8_copy_20 rfl (lv_at hl 2 rfl) ?_
        refine lv_iload_n hx hb dX8_copy_21 rfl (lv_at hl 0 rfl) ?_
        refine lv_iadd hx hb dX8_copy_22 ?_
        obtain ⟨hin, hv⟩ := hv
        refine va_lald hx hb hKK.1 hP 1 2 rfl rfl hin dX8_copy_23 ?_
        obtain ⟨hin, hv⟩ := hv
        refine va_last hx hb hKK.1 hP hD hS 1 2 rfl rfl hin dX8_copy_24 (fun H locs hP hD hS => ?_)
        have hP : va_P G.1 vwCl [(m0, .inr (8, [.ref m1, .ref m2, .ref m3, .ref m4, .ref m5, .ref m6, .ref m7, .ref m8, .ref m9, .int fu, .int fd, .int fi, .int nu, .int nw, .int nf, .int bf, .int bn, .ref m10, .int ts, .int ap, .int fs, .int ln, .int fo, .int fa, .ref m11, .ref m12, .ref m13, .ref m14, .int wr])), aJ G m1 560 (vp_updL fm1_1 ((y + x3_2).toNatClampNeg) (fm1_1 (x + x3_2).toNatClampNeg)), aZ G m2 2 ik, aI G m3 20 zs, aI G m4 20 cl, aI G m5 20 hs, aI G m6 20 ks, aI G m7 20 wa, aI G m8 20 ne, aI G m9 4 mn, aI G m10 400 tx, aI G m11 6 th, aI G m12 6 od, aI G m13 30 bk, aI G m14 30 bh] H := hP
        have hD : va_D A [(m0, .inr (8, [.ref m1, .ref m2, .ref m3, .ref m4, .ref m5, .ref m6, .ref m7, .ref m8, .ref m9, .int fu, .int fd, .int fi, .int nu, .int nw, .int nf, .int bf, .int bn, .ref m10, .int ts, .int ap, .int fs, .int ln, .int fo, .int fa, .ref m11, .ref m12, .ref m13, .ref m14, .int wr])), aJ G m1 560 (vp_updL fm1_1 ((y + x3_2).toNatClampNeg) (fm1_1 (x + x3_2).toNatClampNeg)), aZ G m2 2 ik, aI G m3 20 zs, aI G m4 20 cl, aI G m5 20 hs, aI G m6 20 ks, aI G m7 20 wa, aI G m8 20 ne, aI G m9 4 mn, aI G m10 400 tx, aI G m11 6 th, aI G m12 6 od, aI G m13 30 bk, aI G m14 30 bh] := hD
        refine lv_iinc (v := (x3_2 + 1)) (lv' := [(3, .int (x3_2 + 1)), (0, .ref m0), (1, .int x), (2, .int y)]) hx hb dX8_copy_25 hl (k := 0) rfl rfl (by decide) rfl (fun ls hl => ?_)
        refine lv_goto (tgt := 2) hx hb dX8_copy_28 (by decide) ?_
        exact ih_5 _ _ _ _ _ (Nat.lt_of_lt_of_le hv.2 (Nat.le_of_lt_succ hI_6)) hv.1 hP hD hS hl
  exact Lm_10 _ _ _ _ _ _ (Nat.lt_succ_self _) hi0 hP hD hS hl
theorem k_X8_copy (l : Launch) (G : Gt) (m0 m1 m2 m3 m4 m5 m6 m7 m8 m9 m10 m11 m12 m13 m14 : Nat) (sz : Nat) (mw : Nat → Int64) (ik : Nat → Int32) (zs : Nat → Int32) (cl : Nat → Int32) (hs : Nat → Int32) (ks : Nat → Int32) (wa : Nat → Int32) (ne : Nat → Int32) (mn : Nat → Int32) (tx : Nat → Int32) (th : Nat → Int32) (od : Nat → Int32) (bk : Nat → Int32) (bh : Nat → Int32) (fu : Int32) (fd : Int32) (fi : Int32) (nu : Int32) (nw : Int32) (nf : Int32) (bf : Int32) (bn : Int32) (ts : Int32) (ap : Int32) (fs : Int32) (ln : Int32) (fo : Int32) (fa : Int32) (wr : Int32) (x : Int32) (y : Int32) (hp : True) : MetV l yX8_copy wsX8_copy 0 0 G [.ref m0, .int x, .int y] [(m0, .inr (8, [.ref m1, .ref m2, .ref m3, .ref m4, .ref m5, .ref m6, .ref m7, .ref m8, .ref m9, .int fu, .int fd, .int fi, .int nu, .int nw, .int nf, .int bf, .int bn, .ref m10, .int ts, .int ap, .int fs, .int ln, .int fo, .int fa, .ref m11, .ref m12, .ref m13, .ref m14, .int wr])), aJ G m1 560 mw, aZ G m2 2 ik, aI G m3 20 zs, aI G m4 20 cl, aI G m5 20 hs, aI G m6 20 ks, aI G m7 20 wa, aI G m8 20 ne, aI G m9 4 mn, aI G m10 400 tx, aI G m11 6 th, aI G m12 6 od, aI G m13 30 bk, aI G m14 30 bh] sz (fun (u : (Nat → Int64)) => True) (fun (u : (Nat → Int64)) => [(m0, .inr (8, [.ref m1, .ref m2, .ref m3, .ref m4, .ref m5, .ref m6, .ref m7, .ref m8, .ref m9, .int fu, .int fd, .int fi, .int nu, .int nw, .int nf, .int bf, .int bn, .ref m10, .int ts, .int ap, .int fs, .int ln, .int fo, .int fa, .ref m11, .ref m12, .ref m13, .ref m14, .int wr])), aJ G m1 560 u, aZ G m2 2 ik, aI G m3 20 zs, aI G m4 20 cl, aI G m5 20 hs, aI G m6 20 ks, aI G m7 20 wa, aI G m8 20 ne, aI G m9 4 mn, aI G m10 400 tx, aI G m11 6 th, aI G m12 6 od, aI G m13 30 bk, aI G m14 30 bh]) :=
  c_X8_copy l G m0 m1 m2 m3 m4 m5 m6 m7 m8 m9 m10 m11 m12 m13 m14 sz mw ik zs cl hs ks wa ne mn tx th od bk bh fu fd fi nu nw nf bf bn ts ap fs ln fo fa wr x y (by
    sorry)

set_option maxHeartbeats 4000000 in
set_option maxRecDepth 100000 in
theorem c_X8_tryAllUp (l : Launch) (G : Gt) (m0 m1 m2 m3 m4 m5 m6 m7 m8 m9 m10 m11 m12 m13 m14 : Nat) (sz : Nat) (mw : Nat → Int64) (ik : Nat → Int32) (zs : Nat → Int32) (cl : Nat → Int32) (hs : Nat → Int32) (ks : Nat → Int32) (wa : Nat → Int32) (ne : Nat → Int32) (mn : Nat → Int32) (tx : Nat → Int32) (th : Nat → Int32) (od : Nat → Int32) (bk : Nat → Int32) (bh : Nat → Int32) (fu : Int32) (fd : Int32) (fi : Int32) (nu : Int32) (nw : Int32) (nf : Int32) (bf : Int32) (bn : Int32) (ts : Int32) (ap : Int32) (fs : Int32) (ln : Int32) (fo : Int32) (fa : Int32) (wr : Int32) (hv : (True) ∧ (∀ (mw2_2 : Nat → Int64), (True) → (∃ (I10_5 : (Nat → Int64) → Int32 → Prop) (μ10_6 : (Nat → Int64) → Int32 → Nat), I10_5 mw2_2 0 ∧ (∀ (fm1_3 : (Nat → Int64)) (x1_4 : Int32), I10_5 fm1_3 x1_4 → (8 ≤ x1_4 → True) ∧ (¬ (8 ≤ x1_4) → (vp_in (160 + x1_4) 560) ∧ ((vp_in (170 + x1_4) 560) ∧ (I10_5 (vp_updL (vp_updL fm1_3 ((160 + x1_4).toNatClampNeg) (-1)) ((170 + x1_4).toNatClampNeg) 0) (x1_4 + 1) ∧ μ10_6 (vp_updL (vp_updL fm1_3 ((160 + x1_4).toNatClampNeg) (-1)) ((170 + x1_4).toNatClampNeg) 0) (x1_4 + 1) < μ10_6 fm1_3 x1_4))))))) : MetV l yX8_tryAllUp wsX8_tryAllUp 1 23 G [.ref m0] [(m0, .inr (8, [.ref m1, .ref m2, .ref m3, .ref m4, .ref m5, .ref m6, .ref m7, .ref m8, .ref m9, .int fu, .int fd, .int fi, .int nu, .int nw, .int nf, .int bf, .int bn, .ref m10, .int ts, .int ap, .int fs, .int ln, .int fo, .int fa, .ref m11, .ref m12, .ref m13, .ref m14, .int wr])), aJ G m1 560 mw, aZ G m2 2 ik, aI G m3 20 zs, aI G m4 20 cl, aI G m5 20 hs, aI G m6 20 ks, aI G m7 20 wa, aI G m8 20 ne, aI G m9 4 mn, aI G m10 400 tx, aI G m11 6 th, aI G m12 6 od, aI G m13 30 bk, aI G m14 30 bh] sz (fun (u : (Nat → Int64)) => True) (fun (u : (Nat → Int64)) => [(m0, .inr (8, [.ref m1, .ref m2, .ref m3, .ref m4, .ref m5, .ref m6, .ref m7, .ref m8, .ref m9, .int fu, .int fd, .int fi, .int nu, .int nw, .int nf, .int bf, .int bn, .ref m10, .int ts, .int ap, .int fs, .int ln, .int fo, .int fa, .ref m11, .ref m12, .ref m13, .ref m14, .int wr])), aJ G m1 560 u, aZ G m2 2 ik, aI G m3 20 zs, aI G m4 20 cl, aI G m5 20 hs, aI G m6 20 ks, aI G m7 20 wa, aI G m8 20 ne, aI G m9 4 mn, aI G m10 400 tx, aI G m11 6 th, aI G m12 6 od, aI G m13 30 bk, aI G m14 30 bh]) := by
  refine x_startV (cc := cX8_tryAllUp) (maxL := 2) (ret := none) (by decide) rfl (Nat.le_of_ble_eq_true rfl) ?_
  intro p e s m args below meth c A R Q ls hRf hRl hQ C hP hD hS hA hSS hl
  obtain ⟨hx, hb, hr, hml, hown, hts, hlocks, hKK⟩ := C
  have hown : s.vm.findClass RX8 = some m.cls := hown
  have hl : lv_has ls 2 [(0, .ref m0)] := hl
  have hinX8 : ∀ w ∈ u_ws RX8 TX8 29, w ∈ wsX8_tryAllUp := by decide +kernel
  have kl152 := hts (.constantLong RX8 152 (-1)) (by decide +kernel)
  have kl7 := hts (.fieldLink RX8 7 "WarmStonesModel" "w" "[J") (by decide +kernel)
  refine lv_aload_n hx hb dX8_tryAllUp_0 rfl (lv_at hl 0 rfl) ?_
  refine lv_iconst (v := 0) hx hb dX8_tryAllUp_1 (by decide) ?_
  refine lv_sipush (v := 140) hx hb dX8_tryAllUp_2 (by decide) ?_
  obtain ⟨hp, hv⟩ := hv
  refine x_callv (wr := []) (w' := fun (u : (Nat → Int64)) => [(m0, .inr (8, [.ref m1, .ref m2, .ref m3, .ref m4, .ref m5, .ref m6, .ref m7, .ref m8, .ref m9, .int fu, .int fd, .int fi, .int nu, .int nw, .int nf, .int bf, .int bn, .ref m10, .int ts, .int ap, .int fs, .int ln, .int fo, .int fa, .ref m11, .ref m12, .ref m13, .ref m14, .int wr])), aJ G m1 560 u, aZ G m2 2 ik, aI G m3 20 zs, aI G m4 20 cl, aI G m5 20 hs, aI G m6 20 ks, aI G m7 20 wa, aI G m8 20 ne, aI G m9 4 mn, aI G m10 400 tx, aI G m11 6 th, aI G m12 6 od, aI G m13 30 bk, aI G m14 30 bh]) (x_runV (As := [.int 0, .int 140]) (rest := []) (n := 2) (C := RX8) (ci := 8) ⟨hx, hb, hml, hown, hts⟩ (k_X8_copy l G m0 m1 m2 m3 m4 m5 m6 m7 m8 m9 m10 m11 m12 m13 m14 _ mw ik zs cl hs ks wa ne mn tx th od bk bh fu fd fi nu nw nf bf bn ts ap fs ln fo fa wr 0 140 hp) gX8_tryAllUp_X8_copy rfl (by decide +kernel) ⟨Nat.le_trans (Nat.le_of_ble_eq_true rfl) hRf, Nat.le_trans (Nat.le_of_ble_eq_true rfl) hRl⟩ hKK hSS hS hA hP hD [0, 1, 2, 3, 4, 5, 6, 7, 8, 9, 10, 11, 12, 13, 14] (by decide) rfl rfl rfl 0 rfl rfl hl.1 rfl (Nat.le_of_ble_eq_true rfl) dX8_tryAllUp_5) hP hD hS hA [0, 1, 2, 3, 4, 5, 6, 7, 8, 9, 10, 11, 12, 13, 14] [] [0, 1, 2, 3, 4, 5, 6, 7, 8, 9, 10, 11, 12, 13, 14] rfl rfl (by decide) (by decide) (by decide) (fun _ => rfl) (fun  u H locs hw hP hD hS => ?_)
  obtain ⟨mw2_2, rfl⟩ : ∃ z, z = u := ⟨_, rfl⟩
  have hP : va_P G.1 vwCl [(m0, .inr (8, [.ref m1, .ref m2, .ref m3, .ref m4, .ref m5, .ref m6, .ref m7, .ref m8, .ref m9, .int fu, .int fd, .int fi, .int nu, .int nw, .int nf, .int bf, .int bn, .ref m10, .int ts, .int ap, .int fs, .int ln, .int fo, .int fa, .ref m11, .ref m12, .ref m13, .ref m14, .int wr])), aJ G m1 560 mw2_2, aZ G m2 2 ik, aI G m3 20 zs, aI G m4 20 cl, aI G m5 20 hs, aI G m6 20 ks, aI G m7 20 wa, aI G m8 20 ne, aI G m9 4 mn, aI G m10 400 tx, aI G m11 6 th, aI G m12 6 od, aI G m13 30 bk, aI G m14 30 bh] H := hP
  have hD : va_D A [(m0, .inr (8, [.ref m1, .ref m2, .ref m3, .ref m4, .ref m5, .ref m6, .ref m7, .ref m8, .ref m9, .int fu, .int fd, .int fi, .int nu, .int nw, .int nf, .int bf, .int bn, .ref m10, .int ts, .int ap, .int fs, .int ln, .int fo, .int fa, .ref m11, .ref m12, .ref m13, .ref m14, .int wr])), aJ G m1 560 mw2_2, aZ G m2 2 ik, aI G m3 20 zs, aI G m4 20 cl, aI G m5 20 hs, aI G m6 20 ks, aI G m7 20 wa, aI G m8 20 ne, aI G m9 4 mn, aI G m10 400 tx, aI G m11 6 th, aI G m12 6 od, aI G m13 30 bk, aI G m14 30 bh] := hD
  have hv := hv mw2_2 hw
  refine lv_iconst (v := 0) hx hb dX8_tryAllUp_8 (by decide) ?_
  refine lv_istore_n (lv' := [(1, .int 0), (0, .ref m0)]) hx hb dX8_tryAllUp_9 rfl hl (by decide) rfl (fun ls hl => ?_)
  obtain ⟨I10_5, μ10_6, hi0, hs_10⟩ := hv
  have Lm_12 : ∀ (n_11 : Nat) (fm1_3 : (Nat → Int64)) (x1_4 : Int32) (H : Heap) (locs : List Loc) (ls : Array Slot), μ10_6 fm1_3 x1_4 < n_11 → I10_5 fm1_3 x1_4 → va_P G.1 vwCl [(m0, .inr (8, [.ref m1, .ref m2, .ref m3, .ref m4, .ref m5, .ref m6, .ref m7, .ref m8, .ref m9, .int fu, .int fd, .int fi, .int nu, .int nw, .int nf, .int bf, .int bn, .ref m10, .int ts, .int ap, .int fs, .int ln, .int fo, .int fa, .ref m11, .ref m12, .ref m13, .ref m14, .int wr])), aJ G m1 560 fm1_3, aZ G m2 2 ik, aI G m3 20 zs, aI G m4 20 cl, aI G m5 20 hs, aI G m6 20 ks, aI G m7 20 wa, aI G m8 20 ne, aI G m9 4 mn, aI G m10 400 tx, aI G m11 6 th, aI G m12 6 od, aI G m13 30 bk, aI G m14 30 bh] H → va_D A [(m0, .inr (8, [.ref m1, .ref m2, .ref m3, .ref m4, .ref m5, .ref m6, .ref m7, .ref m8, .ref m9, .int fu, .int fd, .int fi, .int nu, .int nw, .int nf, .int bf, .int bn, .ref m10, .int ts, .int ap, .int fs, .int ln, .int fo, .int fa, .ref m11, .ref m12, .ref m13, .ref m14, .int wr])), aJ G m1 560 fm1_3, aZ G m2 2 ik, aI G m3 20 zs, aI G m4 20 cl, aI G m5 20 hs, aI G m6 20 ks, aI G m7 20 wa, aI G m8 20 ne, aI G m9 4 mn, aI G m10 400 tx, aI G m11 6 th, aI G m12 6 od, aI G m13 30 bk, aI G m14 30 bh] → va_S A s.heap H locs → lv_has ls 2 [(1, .int x1_4), (0, .ref m0)] → W p l e R s m args below meth c H locs 0 0 Q (F0 m 10 ls []) := by
    intro n_11
    induction n_11 with
    | zero => intro fm1_3 x1_4 H locs ls hm; exact absurd hm (Nat.not_lt_zero _)
    | succ n_11 ih_7 =>
      intro fm1_3 x1_4 H locs ls hI_8 hi hP hD hS hl
      have hv := hs_10 fm1_3 x1_4 hi
      refine lv_iload_n hx hb dX8_tryAllUp_10 rfl (lv_at hl 0 rfl) ?_
      refine lv_bipush (v := 8) hx hb dX8_tryAllUp_11 (by decide) ?_
      refine lv_icmp_ge (tgt := 46) hx hb dX8_tryAllUp_13 (by decide) (fun hc_9 => ?_) (fun hc_9 => ?_)
      · have hv := hv.1 hc_9
        exact x_vret fm1_3 hQ hx hb hr hlocks hS dX8_tryAllUp_46 hv hP hD
      · have hv := hv.2 hc_9
        refine lv_aload_n hx hb dX8_tryAllUp_16 rfl (lv_at hl 1 rfl) ?_
        refine va_get (D := G.1) (ci := 8) (v := .ref m1) (C := RX8) (T := TX8) (N := 29) hx hb hts hinX8 hown hKK.1 hP 0 rfl rfl 0 (by decide) kl7 (fun _ h9 => h9) rfl dX8_tryAllUp_17 ?_
        refine lv_sipush (v := 160) hx hb dX8_tryAllUp_20 (by decide) ?_
        refine lv_iload_n hx hb dX8_tryAllUp_23 rfl (lv_at hl 0 rfl) ?_
        refine lv_iadd hx hb dX8_tryAllUp_24 ?_
        refine lv_ldc2 (v := (-1)) hx hb hown kl152 dX8_tryAllUp_25 ?_
        obtain ⟨hin, hv⟩ := hv
        refine va_last hx hb hKK.1 hP hD hS 1 2 rfl rfl hin dX8_tryAllUp_28 (fun H locs hP hD hS => ?_)
        have hP : va_P G.1 vwCl [(m0, .inr (8, [.ref m1, .ref m2, .ref m3, .ref m4, .ref m5, .ref m6, .ref m7, .ref m8, .ref m9, .int fu, .int fd, .int fi, .int nu, .int nw, .int nf, .int bf, .int bn, .ref m10, .int ts, .int ap, .int fs, .int ln, .int fo, .int fa, .ref m11, .ref m12, .ref m13, .ref m14, .int wr])), aJ G m1 560 (vp_updL fm1_3 ((160 + x1_4).toNatClampNeg) (-1)), aZ G m2 2 ik, aI G m3 20 zs, aI G m4 20 cl, aI G m5 20 hs, aI G m6 20 ks, aI G m7 20 wa, aI G m8 20 ne, aI G m9 4 mn, aI G m10 400 tx, aI G m11 6 th, aI G m12 6 od, aI G m13 30 bk, aI G m14 30 bh] H := hP
        have hD : va_D A [(m0, .inr (8, [.ref m1, .ref m2, .ref m3, .ref m4, .ref m5, .ref m6, .ref m7, .ref m8, .ref m9, .int fu, .int fd, .int fi, .int nu, .int nw, .int nf, .int bf, .int bn, .ref m10, .int ts, .int ap, .int fs, .int ln, .int fo, .int fa, .ref m11, .ref m12, .ref m13, .ref m14, .int wr])), aJ G m1 560 (vp_updL fm1_3 ((160 + x1_4).toNatClampNeg) (-1)), aZ G m2 2 ik, aI G m3 20 zs, aI G m4 20 cl, aI G m5 20 hs, aI G m6 20 ks, aI G m7 20 wa, aI G m8 20 ne, aI G m9 4 mn, aI G m10 400 tx, aI G m11 6 th, aI G m12 6 od, aI G m13 30 bk, aI G m14 30 bh] := hD
        refine lv_aload_n hx hb dX8_tryAllUp_29 rfl (lv_at hl 1 rfl) ?_
        refine va_get (D := G.1) (ci := 8) (v := .ref m1) (C := RX8) (T := TX8) (N := 29) hx hb hts hinX8 hown hKK.1 hP 0 rfl rfl 0 (by decide) kl7 (fun _ h9 => h9) rfl dX8_tryAllUp_30 ?_
        refine lv_sipush (v := 170) hx hb dX8_tryAllUp_33 (by decide) ?_
        refine lv_iload_n hx hb dX8_tryAllUp_36 rfl (lv_at hl 0 rfl) ?_
        refine lv_iadd hx hb dX8_tryAllUp_37 ?_
        refine lv_lconst (v := 0) hx hb dX8_tryAllUp_38 (by decide) ?_
        obtain ⟨hin, hv⟩ := hv
        refine va_last hx hb hKK.1 hP hD hS 1 2 rfl rfl hin dX8_tryAllUp_39 (fun H locs hP hD hS => ?_)
        have hP : va_P G.1 vwCl [(m0, .inr (8, [.ref m1, .ref m2, .ref m3, .ref m4, .ref m5, .ref m6, .ref m7, .ref m8, .ref m9, .int fu, .int fd, .int fi, .int nu, .int nw, .int nf, .int bf, .int bn, .ref m10, .int ts, .int ap, .int fs, .int ln, .int fo, .int fa, .ref m11, .ref m12, .ref m13, .ref m14, .int wr])), aJ G m1 560 (vp_updL (vp_updL fm1_3 ((160 + x1_4).toNatClampNeg) (-1)) ((170 + x1_4).toNatClampNeg) 0), aZ G m2 2 ik, aI G m3 20 zs, aI G m4 20 cl, aI G m5 20 hs, aI G m6 20 ks, aI G m7 20 wa, aI G m8 20 ne, aI G m9 4 mn, aI G m10 400 tx, aI G m11 6 th, aI G m12 6 od, aI G m13 30 bk, aI G m14 30 bh] H := hP
        have hD : va_D A [(m0, .inr (8, [.ref m1, .ref m2, .ref m3, .ref m4, .ref m5, .ref m6, .ref m7, .ref m8, .ref m9, .int fu, .int fd, .int fi, .int nu, .int nw, .int nf, .int bf, .int bn, .ref m10, .int ts, .int ap, .int fs, .int ln, .int fo, .int fa, .ref m11, .ref m12, .ref m13, .ref m14, .int wr])), aJ G m1 560 (vp_updL (vp_updL fm1_3 ((160 + x1_4).toNatClampNeg) (-1)) ((170 + x1_4).toNatClampNeg) 0), aZ G m2 2 ik, aI G m3 20 zs, aI G m4 20 cl, aI G m5 20 hs, aI G m6 20 ks, aI G m7 20 wa, aI G m8 20 ne, aI G m9 4 mn, aI G m10 400 tx, aI G m11 6 th, aI G m12 6 od, aI G m13 30 bk, aI G m14 30 bh] := hD
        refine lv_iinc (v := (x1_4 + 1)) (lv' := [(1, .int (x1_4 + 1)), (0, .ref m0)]) hx hb dX8_tryAllUp_40 hl (k := 0) rfl rfl (by decide) rfl (fun ls hl => ?_)
        refine lv_goto (tgt := 10) hx hb dX8_tryAllUp_43 (by decide) ?_
        exact ih_7 _ _ _ _ _ (Nat.lt_of_lt_of_le hv.2 (Nat.le_of_lt_succ hI_8)) hv.1 hP hD hS hl
  exact Lm_12 _ _ _ _ _ _ (Nat.lt_succ_self _) hi0 hP hD hS hl
theorem k_X8_tryAllUp (l : Launch) (G : Gt) (m0 m1 m2 m3 m4 m5 m6 m7 m8 m9 m10 m11 m12 m13 m14 : Nat) (sz : Nat) (mw : Nat → Int64) (ik : Nat → Int32) (zs : Nat → Int32) (cl : Nat → Int32) (hs : Nat → Int32) (ks : Nat → Int32) (wa : Nat → Int32) (ne : Nat → Int32) (mn : Nat → Int32) (tx : Nat → Int32) (th : Nat → Int32) (od : Nat → Int32) (bk : Nat → Int32) (bh : Nat → Int32) (fu : Int32) (fd : Int32) (fi : Int32) (nu : Int32) (nw : Int32) (nf : Int32) (bf : Int32) (bn : Int32) (ts : Int32) (ap : Int32) (fs : Int32) (ln : Int32) (fo : Int32) (fa : Int32) (wr : Int32) (hp : True) : MetV l yX8_tryAllUp wsX8_tryAllUp 1 23 G [.ref m0] [(m0, .inr (8, [.ref m1, .ref m2, .ref m3, .ref m4, .ref m5, .ref m6, .ref m7, .ref m8, .ref m9, .int fu, .int fd, .int fi, .int nu, .int nw, .int nf, .int bf, .int bn, .ref m10, .int ts, .int ap, .int fs, .int ln, .int fo, .int fa, .ref m11, .ref m12, .ref m13, .ref m14, .int wr])), aJ G m1 560 mw, aZ G m2 2 ik, aI G m3 20 zs, aI G m4 20 cl, aI G m5 20 hs, aI G m6 20 ks, aI G m7 20 wa, aI G m8 20 ne, aI G m9 4 mn, aI G m10 400 tx, aI G m11 6 th, aI G m12 6 od, aI G m13 30 bk, aI G m14 30 bh] sz (fun (u : (Nat → Int64)) => True) (fun (u : (Nat → Int64)) => [(m0, .inr (8, [.ref m1, .ref m2, .ref m3, .ref m4, .ref m5, .ref m6, .ref m7, .ref m8, .ref m9, .int fu, .int fd, .int fi, .int nu, .int nw, .int nf, .int bf, .int bn, .ref m10, .int ts, .int ap, .int fs, .int ln, .int fo, .int fa, .ref m11, .ref m12, .ref m13, .ref m14, .int wr])), aJ G m1 560 u, aZ G m2 2 ik, aI G m3 20 zs, aI G m4 20 cl, aI G m5 20 hs, aI G m6 20 ks, aI G m7 20 wa, aI G m8 20 ne, aI G m9 4 mn, aI G m10 400 tx, aI G m11 6 th, aI G m12 6 od, aI G m13 30 bk, aI G m14 30 bh]) :=
  c_X8_tryAllUp l G m0 m1 m2 m3 m4 m5 m6 m7 m8 m9 m10 m11 m12 m13 m14 sz mw ik zs cl hs ks wa ne mn tx th od bk bh fu fd fi nu nw nf bf bn ts ap fs ln fo fa wr (by
    sorry)

set_option maxHeartbeats 4000000 in
set_option maxRecDepth 100000 in
theorem c_X8_seatIn (l : Launch) (G : Gt) (sz : Nat) (x : Int32) (y : Int32) (z : Int32) (hv : ∃ (I7_3 : Int32 → Int32 → Prop) (μ7_4 : Int32 → Int32 → Nat), I7_3 x (z - 1) ∧ (∀ (x3_1 : Int32) (x4_2 : Int32), I7_3 x3_1 x4_2 → (x4_2 ≤ y → True) ∧ (¬ (x4_2 ≤ y) → I7_3 (x3_1 / 10) (x4_2 + (-1)) ∧ μ7_4 (x3_1 / 10) (x4_2 + (-1)) < μ7_4 x3_1 x4_2))) : MetI l yX8_seatIn wsX8_seatIn 0 0 G [.int x, .int y, .int z] [] sz (fun (r : Int32) (_ : Unit) => True) (fun (_ : Unit) => []) := by
  refine x_startI (cc := cX8_seatIn) (maxL := 5) (ret := (some .int)) (by decide) rfl (Nat.le_of_ble_eq_true rfl) ?_
  intro p e s m args below meth c A R Q ls hRf hRl hQ C hP hD hS hA hSS hl
  obtain ⟨hx, hb, hr, hml, hown, hts, hlocks, hKK⟩ := C
  have hown : s.vm.findClass RX8 = some m.cls := hown
  have hl : lv_has ls 5 [(0, .int x), (1, .int y), (2, .int z)] := hl
  refine lv_iload_n hx hb dX8_seatIn_0 rfl (lv_at hl 0 rfl) ?_
  refine lv_istore_n (lv' := [(3, .int x), (0, .int x), (1, .int y), (2, .int z)]) hx hb dX8_seatIn_1 rfl hl (by decide) rfl (fun ls hl => ?_)
  refine lv_iload_n hx hb dX8_seatIn_2 rfl (lv_at hl 3 rfl) ?_
  refine lv_iconst (v := 1) hx hb dX8_seatIn_3 (by decide) ?_
  refine lv_isub hx hb dX8_seatIn_4 ?_
  refine lv_istore (lv' := [(4, .int (z - 1)), (3, .int x), (0, .int x), (1, .int y), (2, .int z)]) hx hb dX8_seatIn_5 hl (by decide) rfl (fun ls hl => ?_)
  obtain ⟨I7_3, μ7_4, hi0, hs_8⟩ := hv
  have Lm_10 : ∀ (n_9 : Nat) (x3_1 : Int32) (x4_2 : Int32) (H : Heap) (locs : List Loc) (ls : Array Slot), μ7_4 x3_1 x4_2 < n_9 → I7_3 x3_1 x4_2 → va_P G.1 vwCl [] H → va_D A [] → va_S A s.heap H locs → lv_has ls 5 [(4, .int x4_2), (3, .int x3_1), (0, .int x), (1, .int y), (2, .int z)] → W p l e R s m args below meth c H locs 0 0 Q (F0 m 7 ls []) := by
    intro n_9
    induction n_9 with
    | zero => intro x3_1 x4_2 H locs ls hm; exact absurd hm (Nat.not_lt_zero _)
    | succ n_9 ih_5 =>
      intro x3_1 x4_2 H locs ls hI_6 hi hP hD hS hl
      have hv := hs_8 x3_1 x4_2 hi
      refine lv_iload hx hb dX8_seatIn_7 (lv_at hl 0 rfl) ?_
      refine lv_iload_n hx hb dX8_seatIn_9 rfl (lv_at hl 3 rfl) ?_
      refine lv_icmp_le (tgt := 24) hx hb dX8_seatIn_10 (by decide) (fun hc_7 => ?_) (fun hc_7 => ?_)
      · have hv := hv.1 hc_7
        refine lv_iload_n hx hb dX8_seatIn_24 rfl (lv_at hl 1 rfl) ?_
        refine lv_bipush (v := 10) hx hb dX8_seatIn_25 (by decide) ?_
        refine lv_irem hx hb dX8_seatIn_27 (by decide) ?_
        refine lv_iconst (v := 1) hx hb dX8_seatIn_28 (by decide) ?_
        refine lv_isub hx hb dX8_seatIn_29 ?_
        exact x_iret (v := ((x3_1 - x3_1 / 10 * 10) - 1)) () hQ hx hb hr hlocks hS dX8_seatIn_30 hv hP hD
      · have hv := hv.2 hc_7
        refine lv_iload_n hx hb dX8_seatIn_13 rfl (lv_at hl 1 rfl) ?_
        refine lv_bipush (v := 10) hx hb dX8_seatIn_14 (by decide) ?_
        refine lv_idiv hx hb dX8_seatIn_16 (by decide) ?_
        refine lv_istore_n (lv' := [(3, .int (x3_1 / 10)), (4, .int x4_2), (0, .int x), (1, .int y), (2, .int z)]) hx hb dX8_seatIn_17 rfl hl (by decide) rfl (fun ls hl => ?_)
        refine lv_iinc (v := (x4_2 + (-1))) (lv' := [(4, .int (x4_2 + (-1))), (3, .int (x3_1 / 10)), (0, .int x), (1, .int y), (2, .int z)]) hx hb dX8_seatIn_18 hl (k := 1) rfl rfl (by decide) rfl (fun ls hl => ?_)
        refine lv_goto (tgt := 7) hx hb dX8_seatIn_21 (by decide) ?_
        exact ih_5 _ _ _ _ _ (Nat.lt_of_lt_of_le hv.2 (Nat.le_of_lt_succ hI_6)) hv.1 hP hD hS hl
  exact Lm_10 _ _ _ _ _ _ (Nat.lt_succ_self _) hi0 hP hD hS hl
theorem k_X8_seatIn (l : Launch) (G : Gt) (sz : Nat) (x : Int32) (y : Int32) (z : Int32) (hp : True) : MetI l yX8_seatIn wsX8_seatIn 0 0 G [.int x, .int y, .int z] [] sz (fun (r : Int32) (_ : Unit) => True) (fun (_ : Unit) => []) :=
  c_X8_seatIn l G  sz x y z (by
    sorry)

set_option maxHeartbeats 4000000 in
set_option maxRecDepth 100000 in
theorem c_X8_isSeating (l : Launch) (G : Gt) (m0 m1 m2 m3 m4 m5 m6 m7 m8 m9 m10 m11 m12 m13 m14 : Nat) (sz : Nat) (mw : Nat → Int64) (ik : Nat → Int32) (zs : Nat → Int32) (cl : Nat → Int32) (hs : Nat → Int32) (ks : Nat → Int32) (wa : Nat → Int32) (ne : Nat → Int32) (mn : Nat → Int32) (tx : Nat → Int32) (th : Nat → Int32) (od : Nat → Int32) (bk : Nat → Int32) (bh : Nat → Int32) (fu : Int32) (fd : Int32) (fi : Int32) (nu : Int32) (nw : Int32) (nf : Int32) (bf : Int32) (bn : Int32) (ts : Int32) (ap : Int32) (fs : Int32) (ln : Int32) (fo : Int32) (fa : Int32) (wr : Int32) (x : Int32) (hv : ∃ (I7_4 : Int32 → Int32 → Int32 → Prop) (μ7_5 : Int32 → Int32 → Int32 → Nat), I7_4 0 1 0 ∧ (∀ (x2_1 : Int32) (x3_2 : Int32) (x4_3 : Int32), I7_4 x2_1 x3_2 x4_3 → ((mn 1) ≤ x4_3 → (narrow .boolean (.int x3_2) = .int x3_2) ∧ True) ∧ (¬ ((mn 1) ≤ x4_3) → (True) ∧ (∀ (r_9 : Int32), (True) → ((x3_2 = 0 → (0 ≤ r_9 → I7_4 (x2_1 ||| ((1 : Int32) <<< (r_9 &&& 31))) 0 (x4_3 + 1) ∧ μ7_5 (x2_1 ||| ((1 : Int32) <<< (r_9 &&& 31))) 0 (x4_3 + 1) < μ7_5 x2_1 x3_2 x4_3) ∧ (¬ (0 ≤ r_9) → I7_4 (x2_1 ||| 0) 0 (x4_3 + 1) ∧ μ7_5 (x2_1 ||| 0) 0 (x4_3 + 1) < μ7_5 x2_1 x3_2 x4_3)) ∧ (¬ (x3_2 = 0) → ((mn 0) ≤ r_9 → (0 ≤ r_9 → I7_4 (x2_1 ||| ((1 : Int32) <<< (r_9 &&& 31))) 0 (x4_3 + 1) ∧ μ7_5 (x2_1 ||| ((1 : Int32) <<< (r_9 &&& 31))) 0 (x4_3 + 1) < μ7_5 x2_1 x3_2 x4_3) ∧ (¬ (0 ≤ r_9) → I7_4 (x2_1 ||| 0) 0 (x4_3 + 1) ∧ μ7_5 (x2_1 ||| 0) 0 (x4_3 + 1) < μ7_5 x2_1 x3_2 x4_3)) ∧ (¬ ((mn 0) ≤ r_9) → (r_9 < 0 → (0 ≤ r_9 → I7_4 (x2_1 ||| ((1 : Int32) <<< (r_9 &&& 31))) 1 (x4_3 + 1) ∧ μ7_5 (x2_1 ||| ((1 : Int32) <<< (r_9 &&& 31))) 1 (x4_3 + 1) < μ7_5 x2_1 x3_2 x4_3) ∧ (¬ (0 ≤ r_9) → I7_4 (x2_1 ||| 0) 1 (x4_3 + 1) ∧ μ7_5 (x2_1 ||| 0) 1 (x4_3 + 1) < μ7_5 x2_1 x3_2 x4_3)) ∧ (¬ (r_9 < 0) → (¬ ((x2_1 >>> (r_9 &&& 31)) &&& 1) = 0 → (0 ≤ r_9 → I7_4 (x2_1 ||| ((1 : Int32) <<< (r_9 &&& 31))) 0 (x4_3 + 1) ∧ μ7_5 (x2_1 ||| ((1 : Int32) <<< (r_9 &&& 31))) 0 (x4_3 + 1) < μ7_5 x2_1 x3_2 x4_3) ∧ (¬ (0 ≤ r_9) → I7_4 (x2_1 ||| 0) 0 (x4_3 + 1) ∧ μ7_5 (x2_1 ||| 0) 0 (x4_3 + 1) < μ7_5 x2_1 x3_2 x4_3)) ∧ (((x2_1 >>> (r_9 &&& 31)) &&& 1) = 0 → (0 ≤ r_9 → I7_4 (x2_1 ||| ((1 : Int32) <<< (r_9 &&& 31))) 1 (x4_3 + 1) ∧ μ7_5 (x2_1 ||| ((1 : Int32) <<< (r_9 &&& 31))) 1 (x4_3 + 1) < μ7_5 x2_1 x3_2 x4_3) ∧ (¬ (0 ≤ r_9) → I7_4 (x2_1 ||| 0) 1 (x4_3 + 1) ∧ μ7_5 (x2_1 ||| 0) 1 (x4_3 + 1) < μ7_5 x2_1 x3_2 x4_3)))))))))) : MetI l yX8_isSeating wsX8_isSeating 1 24 G [.ref m0, .int x] [(m0, .inr (8, [.ref m1, .ref m2, .ref m3, .ref m4, .ref m5, .ref m6, .ref m7, .ref m8, .ref m9, .int fu, .int fd, .int fi, .int nu, .int nw, .int nf, .int bf, .int bn, .ref m10, .int ts, .int ap, .int fs, .int ln, .int fo, .int fa, .ref m11, .ref m12, .ref m13, .ref m14, .int wr])), aJ G m1 560 mw, aZ G m2 2 ik, aI G m3 20 zs, aI G m4 20 cl, aI G m5 20 hs, aI G m6 20 ks, aI G m7 20 wa, aI G m8 20 ne, aI G m9 4 mn, aI G m10 400 tx, aI G m11 6 th, aI G m12 6 od, aI G m13 30 bk, aI G m14 30 bh] sz (fun (r : Int32) (_ : Unit) => True) (fun (_ : Unit) => [(m0, .inr (8, [.ref m1, .ref m2, .ref m3, .ref m4, .ref m5, .ref m6, .ref m7, .ref m8, .ref m9, .int fu, .int fd, .int fi, .int nu, .int nw, .int nf, .int bf, .int bn, .ref m10, .int ts, .int ap, .int fs, .int ln, .int fo, .int fa, .ref m11, .ref m12, .ref m13, .ref m14, .int wr])), aJ G m1 560 mw, aZ G m2 2 ik, aI G m3 20 zs, aI G m4 20 cl, aI G m5 20 hs, aI G m6 20 ks, aI G m7 20 wa, aI G m8 20 ne, aI G m9 4 mn, aI G m10 400 tx, aI G m11 6 th, aI G m12 6 od, aI G m13 30 bk, aI G m14 30 bh]) := by
  refine x_startI (cc := cX8_isSeating) (maxL := 6) (ret := (some .boolean)) (by decide) rfl (Nat.le_of_ble_eq_true rfl) ?_
  intro p e s m args below meth c A R Q ls hRf hRl hQ C hP hD hS hA hSS hl
  obtain ⟨hx, hb, hr, hml, hown, hts, hlocks, hKK⟩ := C
  have hown : s.vm.findClass RX8 = some m.cls := hown
  have hl : lv_has ls 6 [(0, .ref m0), (1, .int x)] := hl
  have hinX8 : ∀ w ∈ u_ws RX8 TX8 29, w ∈ wsX8_isSeating := by decide +kernel
  have kl36 := hts (.fieldLink RX8 36 "WarmStonesModel" "many" "[I") (by decide +kernel)
  refine lv_iconst (v := 0) hx hb dX8_isSeating_0 (by decide) ?_
  refine lv_istore_n (lv' := [(2, .int 0), (0, .ref m0), (1, .int x)]) hx hb dX8_isSeating_1 rfl hl (by decide) rfl (fun ls hl => ?_)
  refine lv_iconst (v := 1) hx hb dX8_isSeating_2 (by decide) ?_
  refine lv_istore_n (lv' := [(3, .int 1), (2, .int 0), (0, .ref m0), (1, .int x)]) hx hb dX8_isSeating_3 rfl hl (by decide) rfl (fun ls hl => ?_)
  refine lv_iconst (v := 0) hx hb dX8_isSeating_4 (by decide) ?_
  refine lv_istore (lv' := [(4, .int 0), (3, .int 1), (2, .int 0), (0, .ref m0), (1, .int x)]) hx hb dX8_isSeating_5 hl (by decide) rfl (fun ls hl => ?_)
  obtain ⟨I7_4, μ7_5, hi0, hs_19⟩ := hv
  have Lm_21 : ∀ (n_20 : Nat) (x2_1 : Int32) (x3_2 : Int32) (x4_3 : Int32) (H : Heap) (locs : List Loc) (ls : Array Slot), μ7_5 x2_1 x3_2 x4_3 < n_20 → I7_4 x2_1 x3_2 x4_3 → va_P G.1 vwCl [(m0, .inr (8, [.ref m1, .ref m2, .ref m3, .ref m4, .ref m5, .ref m6, .ref m7, .ref m8, .ref m9, .int fu, .int fd, .int fi, .int nu, .int nw, .int nf, .int bf, .int bn, .ref m10, .int ts, .int ap, .int fs, .int ln, .int fo, .int fa, .ref m11, .ref m12, .ref m13, .ref m14, .int wr])), aJ G m1 560 mw, aZ G m2 2 ik, aI G m3 20 zs, aI G m4 20 cl, aI G m5 20 hs, aI G m6 20 ks, aI G m7 20 wa, aI G m8 20 ne, aI G m9 4 mn, aI G m10 400 tx, aI G m11 6 th, aI G m12 6 od, aI G m13 30 bk, aI G m14 30 bh] H → va_D A [(m0, .inr (8, [.ref m1, .ref m2, .ref m3, .ref m4, .ref m5, .ref m6, .ref m7, .ref m8, .ref m9, .int fu, .int fd, .int fi, .int nu, .int nw, .int nf, .int bf, .int bn, .ref m10, .int ts, .int ap, .int fs, .int ln, .int fo, .int fa, .ref m11, .ref m12, .ref m13, .ref m14, .int wr])), aJ G m1 560 mw, aZ G m2 2 ik, aI G m3 20 zs, aI G m4 20 cl, aI G m5 20 hs, aI G m6 20 ks, aI G m7 20 wa, aI G m8 20 ne, aI G m9 4 mn, aI G m10 400 tx, aI G m11 6 th, aI G m12 6 od, aI G m13 30 bk, aI G m14 30 bh] → va_S A s.heap H locs → lv_has ls 6 [(4, .int x4_3), (3, .int x3_2), (2, .int x2_1), (0, .ref m0), (1, .int x)] → W p l e R s m args below meth c H locs 0 0 Q (F0 m 7 ls []) := by
    intro n_20
    induction n_20 with
    | zero => intro x2_1 x3_2 x4_3 H locs ls hm; exact absurd hm (Nat.not_lt_zero _)
    | succ n_20 ih_6 =>
      intro x2_1 x3_2 x4_3 H locs ls hI_7 hi hP hD hS hl
      have hv := hs_19 x2_1 x3_2 x4_3 hi
      refine lv_iload hx hb dX8_isSeating_7 (lv_at hl 0 rfl) ?_
      refine lv_aload_n hx hb dX8_isSeating_9 rfl (lv_at hl 3 rfl) ?_
      refine va_get (D := G.1) (ci := 8) (v := .ref m9) (C := RX8) (T := TX8) (N := 29) hx hb hts hinX8 hown hKK.1 hP 0 rfl rfl 8 (by decide) kl36 (fun _ h9 => h9) rfl dX8_isSeating_10 ?_
      refine lv_iconst (v := 1) hx hb dX8_isSeating_13 (by decide) ?_
      refine va_iald hx hb hKK.1 hP 9 0 rfl rfl (by unfold vp_in; decide) dX8_isSeating_14 ?_
      refine lv_icmp_ge (tgt := 89) hx hb dX8_isSeating_15 (by decide) (fun hc_8 => ?_) (fun hc_8 => ?_)
      · have hv := hv.1 hc_8
        refine lv_iload_n hx hb dX8_isSeating_89 rfl (lv_at hl 1 rfl) ?_
        exact x_zret (v := x3_2) () hQ hx hb hr hlocks hS dX8_isSeating_90 hv.1 hv.2 hP hD
      · have hv := hv.2 hc_8
        refine lv_iload_n hx hb dX8_isSeating_18 rfl (lv_at hl 4 rfl) ?_
        refine lv_iload hx hb dX8_isSeating_19 (lv_at hl 0 rfl) ?_
        refine lv_aload_n hx hb dX8_isSeating_21 rfl (lv_at hl 3 rfl) ?_
        refine va_get (D := G.1) (ci := 8) (v := .ref m9) (C := RX8) (T := TX8) (N := 29) hx hb hts hinX8 hown hKK.1 hP 0 rfl rfl 8 (by decide) kl36 (fun _ h9 => h9) rfl dX8_isSeating_22 ?_
        refine lv_iconst (v := 1) hx hb dX8_isSeating_25 (by decide) ?_
        refine va_iald hx hb hKK.1 hP 9 0 rfl rfl (by unfold vp_in; decide) dX8_isSeating_26 ?_
        obtain ⟨hp, hv⟩ := hv
        refine x_calliR (x_runS (As := [.int x, .int x4_3, .int (mn 1)]) (rest := []) (n := 3) ⟨hx, hb, hml, hown, hts⟩ (k_X8_seatIn l G  _ x x4_3 (mn 1) hp) gX8_isSeating_X8_seatIn rfl (by decide +kernel) ⟨Nat.le_trans (Nat.le_of_ble_eq_true rfl) hRf, Nat.le_trans (Nat.le_of_ble_eq_true rfl) hRl⟩ hKK hSS hS hA hP hD [] (by decide) rfl rfl hl.1 rfl (Nat.le_of_ble_eq_true rfl) dX8_isSeating_27) hP hD hS hA [] rfl (fun r_9 _ H locs hw hP hS => ?_)
        have hv := hv r_9 hw
        refine lv_istore (lv' := [(5, .int r_9), (4, .int x4_3), (3, .int x3_2), (2, .int x2_1), (0, .ref m0), (1, .int x)]) hx hb dX8_isSeating_30 hl (by decide) rfl (fun ls hl => ?_)
        refine lv_iload_n hx hb dX8_isSeating_32 rfl (lv_at hl 2 rfl) ?_
        refine lv_if_eq (tgt := 65) hx hb dX8_isSeating_33 (by decide) (fun hc_10 => ?_) (fun hc_10 => ?_)
        · have hv := hv.1 hc_10
          refine lv_iconst (v := 0) hx hb dX8_isSeating_65 (by decide) ?_
          refine lv_istore_n (lv' := [(3, .int 0), (5, .int r_9), (4, .int x4_3), (2, .int x2_1), (0, .ref m0), (1, .int x)]) hx hb dX8_isSeating_66 rfl hl (by decide) rfl (fun ls hl => ?_)
          refine lv_iload_n hx hb dX8_isSeating_67 rfl (lv_at hl 3 rfl) ?_
          refine lv_iload hx hb dX8_isSeating_68 (lv_at hl 1 rfl) ?_
          refine lv_if_ge (tgt := 77) hx hb dX8_isSeating_70 (by decide) (fun hc_11 => ?_) (fun hc_11 => ?_)
          · have hv := hv.1 hc_11
            refine lv_iconst (v := 1) hx hb dX8_isSeating_77 (by decide) ?_
            refine lv_iload hx hb dX8_isSeating_78 (lv_at hl 1 rfl) ?_
            refine lv_ishl hx hb dX8_isSeating_80 ?_
            refine lv_ior hx hb dX8_isSeating_81 ?_
            refine lv_istore_n (lv' := [(2, .int (x2_1 ||| ((1 : Int32) <<< (r_9 &&& 31)))), (3, .int 0), (5, .int r_9), (4, .int x4_3), (0, .ref m0), (1, .int x)]) hx hb dX8_isSeating_82 rfl hl (by decide) rfl (fun ls hl => ?_)
            refine lv_iinc (v := (x4_3 + 1)) (lv' := [(4, .int (x4_3 + 1)), (2, .int (x2_1 ||| ((1 : Int32) <<< (r_9 &&& 31)))), (3, .int 0), (5, .int r_9), (0, .ref m0), (1, .int x)]) hx hb dX8_isSeating_83 hl (k := 3) rfl rfl (by decide) rfl (fun ls hl => ?_)
            refine lv_goto (tgt := 7) hx hb dX8_isSeating_86 (by decide) ?_
            exact ih_6 _ _ _ _ _ _ (Nat.lt_of_lt_of_le hv.2 (Nat.le_of_lt_succ hI_7)) hv.1 hP hD hS (lv_sub hl [0, 2, 1, 4, 5] rfl)
          · have hv := hv.2 hc_11
            refine lv_iconst (v := 0) hx hb dX8_isSeating_73 (by decide) ?_
            refine lv_goto (tgt := 81) hx hb dX8_isSeating_74 (by decide) ?_
            refine lv_ior hx hb dX8_isSeating_81 ?_
            refine lv_istore_n (lv' := [(2, .int (x2_1 ||| 0)), (3, .int 0), (5, .int r_9), (4, .int x4_3), (0, .ref m0), (1, .int x)]) hx hb dX8_isSeating_82 rfl hl (by decide) rfl (fun ls hl => ?_)
            refine lv_iinc (v := (x4_3 + 1)) (lv' := [(4, .int (x4_3 + 1)), (2, .int (x2_1 ||| 0)), (3, .int 0), (5, .int r_9), (0, .ref m0), (1, .int x)]) hx hb dX8_isSeating_83 hl (k := 3) rfl rfl (by decide) rfl (fun ls hl => ?_)
            refine lv_goto (tgt := 7) hx hb dX8_isSeating_86 (by decide) ?_
            exact ih_6 _ _ _ _ _ _ (Nat.lt_of_lt_of_le hv.2 (Nat.le_of_lt_succ hI_7)) hv.1 hP hD hS (lv_sub hl [0, 2, 1, 4, 5] rfl)
        · have hv := hv.2 hc_10
          refine lv_iload hx hb dX8_isSeating_36 (lv_at hl 0 rfl) ?_
          refine lv_aload_n hx hb dX8_isSeating_38 rfl (lv_at hl 4 rfl) ?_
          refine va_get (D := G.1) (ci := 8) (v := .ref m9) (C := RX8) (T := TX8) (N := 29) hx hb hts hinX8 hown hKK.1 hP 0 rfl rfl 8 (by decide) kl36 (fun _ h9 => h9) rfl dX8_isSeating_39 ?_
          refine lv_iconst (v := 0) hx hb dX8_isSeating_42 (by decide) ?_
          refine va_iald hx hb hKK.1 hP 9 0 rfl rfl (by unfold vp_in; decide) dX8_isSeating_43 ?_
          refine lv_icmp_ge (tgt := 65) hx hb dX8_isSeating_44 (by decide) (fun hc_12 => ?_) (fun hc_12 => ?_)
          · have hv := hv.1 hc_12
            refine lv_iconst (v := 0) hx hb dX8_isSeating_65 (by decide) ?_
            refine lv_istore_n (lv' := [(3, .int 0), (5, .int r_9), (4, .int x4_3), (2, .int x2_1), (0, .ref m0), (1, .int x)]) hx hb dX8_isSeating_66 rfl hl (by decide) rfl (fun ls hl => ?_)
            refine lv_iload_n hx hb dX8_isSeating_67 rfl (lv_at hl 3 rfl) ?_
            refine lv_iload hx hb dX8_isSeating_68 (lv_at hl 1 rfl) ?_
            refine lv_if_ge (tgt := 77) hx hb dX8_isSeating_70 (by decide) (fun hc_13 => ?_) (fun hc_13 => ?_)
            · have hv := hv.1 hc_13
              refine lv_iconst (v := 1) hx hb dX8_isSeating_77 (by decide) ?_
              refine lv_iload hx hb dX8_isSeating_78 (lv_at hl 1 rfl) ?_
              refine lv_ishl hx hb dX8_isSeating_80 ?_
              refine lv_ior hx hb dX8_isSeating_81 ?_
              refine lv_istore_n (lv' := [(2, .int (x2_1 ||| ((1 : Int32) <<< (r_9 &&& 31)))), (3, .int 0), (5, .int r_9), (4, .int x4_3), (0, .ref m0), (1, .int x)]) hx hb dX8_isSeating_82 rfl hl (by decide) rfl (fun ls hl => ?_)
              refine lv_iinc (v := (x4_3 + 1)) (lv' := [(4, .int (x4_3 + 1)), (2, .int (x2_1 ||| ((1 : Int32) <<< (r_9 &&& 31)))), (3, .int 0), (5, .int r_9), (0, .ref m0), (1, .int x)]) hx hb dX8_isSeating_83 hl (k := 3) rfl rfl (by decide) rfl (fun ls hl => ?_)
              refine lv_goto (tgt := 7) hx hb dX8_isSeating_86 (by decide) ?_
              exact ih_6 _ _ _ _ _ _ (Nat.lt_of_lt_of_le hv.2 (Nat.le_of_lt_succ hI_7)) hv.1 hP hD hS (lv_sub hl [0, 2, 1, 4, 5] rfl)
            · have hv := hv.2 hc_13
              refine lv_iconst (v := 0) hx hb dX8_isSeating_73 (by decide) ?_
              refine lv_goto (tgt := 81) hx hb dX8_isSeating_74 (by decide) ?_
              refine lv_ior hx hb dX8_isSeating_81 ?_
              refine lv_istore_n (lv' := [(2, .int (x2_1 ||| 0)), (3, .int 0), (5, .int r_9), (4, .int x4_3), (0, .ref m0), (1, .int x)]) hx hb dX8_isSeating_82 rfl hl (by decide) rfl (fun ls hl => ?_)
              refine lv_iinc (v := (x4_3 + 1)) (lv' := [(4, .int (x4_3 + 1)), (2, .int (x2_1 ||| 0)), (3, .int 0), (5, .int r_9), (0, .ref m0), (1, .int x)]) hx hb dX8_isSeating_83 hl (k := 3) rfl rfl (by decide) rfl (fun ls hl => ?_)
              refine lv_goto (tgt := 7) hx hb dX8_isSeating_86 (by decide) ?_
              exact ih_6 _ _ _ _ _ _ (Nat.lt_of_lt_of_le hv.2 (Nat.le_of_lt_succ hI_7)) hv.1 hP hD hS (lv_sub hl [0, 2, 1, 4, 5] rfl)
          · have hv := hv.2 hc_12
            refine lv_iload hx hb dX8_isSeating_47 (lv_at hl 0 rfl) ?_
            refine lv_if_lt (tgt := 61) hx hb dX8_isSeating_49 (by decide) (fun hc_14 => ?_) (fun hc_14 => ?_)
            · have hv := hv.1 hc_14
              refine lv_iconst (v := 1) hx hb dX8_isSeating_61 (by decide) ?_
              refine lv_goto (tgt := 66) hx hb dX8_isSeating_62 (by decide) ?_
              refine lv_istore_n (lv' := [(3, .int 1), (5, .int r_9), (4, .int x4_3), (2, .int x2_1), (0, .ref m0), (1, .int x)]) hx hb dX8_isSeating_66 rfl hl (by decide) rfl (fun ls hl => ?_)
              refine lv_iload_n hx hb dX8_isSeating_67 rfl (lv_at hl 3 rfl) ?_
              refine lv_iload hx hb dX8_isSeating_68 (lv_at hl 1 rfl) ?_
              refine lv_if_ge (tgt := 77) hx hb dX8_isSeating_70 (by decide) (fun hc_15 => ?_) (fun hc_15 => ?_)
              · have hv := hv.1 hc_15
                refine lv_iconst (v := 1) hx hb dX8_isSeating_77 (by decide) ?_
                refine lv_iload hx hb dX8_isSeating_78 (lv_at hl 1 rfl) ?_
                refine lv_ishl hx hb dX8_isSeating_80 ?_
                refine lv_ior hx hb dX8_isSeating_81 ?_
                refine lv_istore_n (lv' := [(2, .int (x2_1 ||| ((1 : Int32) <<< (r_9 &&& 31)))), (3, .int 1), (5, .int r_9), (4, .int x4_3), (0, .ref m0), (1, .int x)]) hx hb dX8_isSeating_82 rfl hl (by decide) rfl (fun ls hl => ?_)
                refine lv_iinc (v := (x4_3 + 1)) (lv' := [(4, .int (x4_3 + 1)), (2, .int (x2_1 ||| ((1 : Int32) <<< (r_9 &&& 31)))), (3, .int 1), (5, .int r_9), (0, .ref m0), (1, .int x)]) hx hb dX8_isSeating_83 hl (k := 3) rfl rfl (by decide) rfl (fun ls hl => ?_)
                refine lv_goto (tgt := 7) hx hb dX8_isSeating_86 (by decide) ?_
                exact ih_6 _ _ _ _ _ _ (Nat.lt_of_lt_of_le hv.2 (Nat.le_of_lt_succ hI_7)) hv.1 hP hD hS (lv_sub hl [0, 2, 1, 4, 5] rfl)
              · have hv := hv.2 hc_15
                refine lv_iconst (v := 0) hx hb dX8_isSeating_73 (by decide) ?_
                refine lv_goto (tgt := 81) hx hb dX8_isSeating_74 (by decide) ?_
                refine lv_ior hx hb dX8_isSeating_81 ?_
                refine lv_istore_n (lv' := [(2, .int (x2_1 ||| 0)), (3, .int 1), (5, .int r_9), (4, .int x4_3), (0, .ref m0), (1, .int x)]) hx hb dX8_isSeating_82 rfl hl (by decide) rfl (fun ls hl => ?_)
                refine lv_iinc (v := (x4_3 + 1)) (lv' := [(4, .int (x4_3 + 1)), (2, .int (x2_1 ||| 0)), (3, .int 1), (5, .int r_9), (0, .ref m0), (1, .int x)]) hx hb dX8_isSeating_83 hl (k := 3) rfl rfl (by decide) rfl (fun ls hl => ?_)
                refine lv_goto (tgt := 7) hx hb dX8_isSeating_86 (by decide) ?_
                exact ih_6 _ _ _ _ _ _ (Nat.lt_of_lt_of_le hv.2 (Nat.le_of_lt_succ hI_7)) hv.1 hP hD hS (lv_sub hl [0, 2, 1, 4, 5] rfl)
            · have hv := hv.2 hc_14
              refine lv_iload_n hx hb dX8_isSeating_52 rfl (lv_at hl 3 rfl) ?_
              refine lv_iload hx hb dX8_isSeating_53 (lv_at hl 0 rfl) ?_
              refine lv_ishr hx hb dX8_isSeating_55 ?_
              refine lv_iconst (v := 1) hx hb dX8_isSeating_56 (by decide) ?_
              refine lv_iand hx hb dX8_isSeating_57 ?_
              refine lv_if_ne (tgt := 65) hx hb dX8_isSeating_58 (by decide) (fun hc_16 => ?_) (fun hc_16 => ?_)
              · have hv := hv.1 hc_16
                refine lv_iconst (v := 0) hx hb dX8_isSeating_65 (by decide) ?_
                refine lv_istore_n (lv' := [(3, .int 0), (5, .int r_9), (4, .int x4_3), (2, .int x2_1), (0, .ref m0), (1, .int x)]) hx hb dX8_isSeating_66 rfl hl (by decide) rfl (fun ls hl => ?_)
                refine lv_iload_n hx hb dX8_isSeating_67 rfl (lv_at hl 3 rfl) ?_
                refine lv_iload hx hb dX8_isSeating_68 (lv_at hl 1 rfl) ?_
                refine lv_if_ge (tgt := 77) hx hb dX8_isSeating_70 (by decide) (fun hc_17 => ?_) (fun hc_17 => ?_)
                · have hv := hv.1 hc_17
                  refine lv_iconst (v := 1) hx hb dX8_isSeating_77 (by decide) ?_
                  refine lv_iload hx hb dX8_isSeating_78 (lv_at hl 1 rfl) ?_
                  refine lv_ishl hx hb dX8_isSeating_80 ?_
                  refine lv_ior hx hb dX8_isSeating_81 ?_
                  refine lv_istore_n (lv' := [(2, .int (x2_1 ||| ((1 : Int32) <<< (r_9 &&& 31)))), (3, .int 0), (5, .int r_9), (4, .int x4_3), (0, .ref m0), (1, .int x)]) hx hb dX8_isSeating_82 rfl hl (by decide) rfl (fun ls hl => ?_)
                  refine lv_iinc (v := (x4_3 + 1)) (lv' := [(4, .int (x4_3 + 1)), (2, .int (x2_1 ||| ((1 : Int32) <<< (r_9 &&& 31)))), (3, .int 0), (5, .int r_9), (0, .ref m0), (1, .int x)]) hx hb dX8_isSeating_83 hl (k := 3) rfl rfl (by decide) rfl (fun ls hl => ?_)
                  refine lv_goto (tgt := 7) hx hb dX8_isSeating_86 (by decide) ?_
                  exact ih_6 _ _ _ _ _ _ (Nat.lt_of_lt_of_le hv.2 (Nat.le_of_lt_succ hI_7)) hv.1 hP hD hS (lv_sub hl [0, 2, 1, 4, 5] rfl)
                · have hv := hv.2 hc_17
                  refine lv_iconst (v := 0) hx hb dX8_isSeating_73 (by decide) ?_
                  refine lv_goto (tgt := 81) hx hb dX8_isSeating_74 (by decide) ?_
                  refine lv_ior hx hb dX8_isSeating_81 ?_
                  refine lv_istore_n (lv' := [(2, .int (x2_1 ||| 0)), (3, .int 0), (5, .int r_9), (4, .int x4_3), (0, .ref m0), (1, .int x)]) hx hb dX8_isSeating_82 rfl hl (by decide) rfl (fun ls hl => ?_)
                  refine lv_iinc (v := (x4_3 + 1)) (lv' := [(4, .int (x4_3 + 1)), (2, .int (x2_1 ||| 0)), (3, .int 0), (5, .int r_9), (0, .ref m0), (1, .int x)]) hx hb dX8_isSeating_83 hl (k := 3) rfl rfl (by decide) rfl (fun ls hl => ?_)
                  refine lv_goto (tgt := 7) hx hb dX8_isSeating_86 (by decide) ?_
                  exact ih_6 _ _ _ _ _ _ (Nat.lt_of_lt_of_le hv.2 (Nat.le_of_lt_succ hI_7)) hv.1 hP hD hS (lv_sub hl [0, 2, 1, 4, 5] rfl)
              · have hv := hv.2 hc_16
                refine lv_iconst (v := 1) hx hb dX8_isSeating_61 (by decide) ?_
                refine lv_goto (tgt := 66) hx hb dX8_isSeating_62 (by decide) ?_
                refine lv_istore_n (lv' := [(3, .int 1), (5, .int r_9), (4, .int x4_3), (2, .int x2_1), (0, .ref m0), (1, .int x)]) hx hb dX8_isSeating_66 rfl hl (by decide) rfl (fun ls hl => ?_)
                refine lv_iload_n hx hb dX8_isSeating_67 rfl (lv_at hl 3 rfl) ?_
                refine lv_iload hx hb dX8_isSeating_68 (lv_at hl 1 rfl) ?_
                refine lv_if_ge (tgt := 77) hx hb dX8_isSeating_70 (by decide) (fun hc_18 => ?_) (fun hc_18 => ?_)
                · have hv := hv.1 hc_18
                  refine lv_iconst (v := 1) hx hb dX8_isSeating_77 (by decide) ?_
                  refine lv_iload hx hb dX8_isSeating_78 (lv_at hl 1 rfl) ?_
                  refine lv_ishl hx hb dX8_isSeating_80 ?_
                  refine lv_ior hx hb dX8_isSeating_81 ?_
                  refine lv_istore_n (lv' := [(2, .int (x2_1 ||| ((1 : Int32) <<< (r_9 &&& 31)))), (3, .int 1), (5, .int r_9), (4, .int x4_3), (0, .ref m0), (1, .int x)]) hx hb dX8_isSeating_82 rfl hl (by decide) rfl (fun ls hl => ?_)
                  refine lv_iinc (v := (x4_3 + 1)) (lv' := [(4, .int (x4_3 + 1)), (2, .int (x2_1 ||| ((1 : Int32) <<< (r_9 &&& 31)))), (3, .int 1), (5, .int r_9), (0, .ref m0), (1, .int x)]) hx hb dX8_isSeating_83 hl (k := 3) rfl rfl (by decide) rfl (fun ls hl => ?_)
                  refine lv_goto (tgt := 7) hx hb dX8_isSeating_86 (by decide) ?_
                  exact ih_6 _ _ _ _ _ _ (Nat.lt_of_lt_of_le hv.2 (Nat.le_of_lt_succ hI_7)) hv.1 hP hD hS (lv_sub hl [0, 2, 1, 4, 5] rfl)
                · have hv := hv.2 hc_18
                  refine lv_iconst (v := 0) hx hb dX8_isSeating_73 (by decide) ?_
                  refine lv_goto (tgt := 81) hx hb dX8_isSeating_74 (by decide) ?_
                  refine lv_ior hx hb dX8_isSeating_81 ?_
                  refine lv_istore_n (lv' := [(2, .int (x2_1 ||| 0)), (3, .int 1), (5, .int r_9), (4, .int x4_3), (0, .ref m0), (1, .int x)]) hx hb dX8_isSeating_82 rfl hl (by decide) rfl (fun ls hl => ?_)
                  refine lv_iinc (v := (x4_3 + 1)) (lv' := [(4, .int (x4_3 + 1)), (2, .int (x2_1 ||| 0)), (3, .int 1), (5, .int r_9), (0, .ref m0), (1, .int x)]) hx hb dX8_isSeating_83 hl (k := 3) rfl rfl (by decide) rfl (fun ls hl => ?_)
                  refine lv_goto (tgt := 7) hx hb dX8_isSeating_86 (by decide) ?_
                  exact ih_6 _ _ _ _ _ _ (Nat.lt_of_lt_of_le hv.2 (Nat.le_of_lt_succ hI_7)) hv.1 hP hD hS (lv_sub hl [0, 2, 1, 4, 5] rfl)
  exact Lm_21 _ _ _ _ _ _ _ (Nat.lt_succ_self _) hi0 hP hD hS hl
theorem k_X8_isSeating (l : Launch) (G : Gt) (m0 m1 m2 m3 m4 m5 m6 m7 m8 m9 m10 m11 m12 m13 m14 : Nat) (sz : Nat) (mw : Nat → Int64) (ik : Nat → Int32) (zs : Nat → Int32) (cl : Nat → Int32) (hs : Nat → Int32) (ks : Nat → Int32) (wa : Nat → Int32) (ne : Nat → Int32) (mn : Nat → Int32) (tx : Nat → Int32) (th : Nat → Int32) (od : Nat → Int32) (bk : Nat → Int32) (bh : Nat → Int32) (fu : Int32) (fd : Int32) (fi : Int32) (nu : Int32) (nw : Int32) (nf : Int32) (bf : Int32) (bn : Int32) (ts : Int32) (ap : Int32) (fs : Int32) (ln : Int32) (fo : Int32) (fa : Int32) (wr : Int32) (x : Int32) (hp : True) : MetI l yX8_isSeating wsX8_isSeating 1 24 G [.ref m0, .int x] [(m0, .inr (8, [.ref m1, .ref m2, .ref m3, .ref m4, .ref m5, .ref m6, .ref m7, .ref m8, .ref m9, .int fu, .int fd, .int fi, .int nu, .int nw, .int nf, .int bf, .int bn, .ref m10, .int ts, .int ap, .int fs, .int ln, .int fo, .int fa, .ref m11, .ref m12, .ref m13, .ref m14, .int wr])), aJ G m1 560 mw, aZ G m2 2 ik, aI G m3 20 zs, aI G m4 20 cl, aI G m5 20 hs, aI G m6 20 ks, aI G m7 20 wa, aI G m8 20 ne, aI G m9 4 mn, aI G m10 400 tx, aI G m11 6 th, aI G m12 6 od, aI G m13 30 bk, aI G m14 30 bh] sz (fun (r : Int32) (_ : Unit) => True) (fun (_ : Unit) => [(m0, .inr (8, [.ref m1, .ref m2, .ref m3, .ref m4, .ref m5, .ref m6, .ref m7, .ref m8, .ref m9, .int fu, .int fd, .int fi, .int nu, .int nw, .int nf, .int bf, .int bn, .ref m10, .int ts, .int ap, .int fs, .int ln, .int fo, .int fa, .ref m11, .ref m12, .ref m13, .ref m14, .int wr])), aJ G m1 560 mw, aZ G m2 2 ik, aI G m3 20 zs, aI G m4 20 cl, aI G m5 20 hs, aI G m6 20 ks, aI G m7 20 wa, aI G m8 20 ne, aI G m9 4 mn, aI G m10 400 tx, aI G m11 6 th, aI G m12 6 od, aI G m13 30 bk, aI G m14 30 bh]) :=
  c_X8_isSeating l G m0 m1 m2 m3 m4 m5 m6 m7 m8 m9 m10 m11 m12 m13 m14 sz mw ik zs cl hs ks wa ne mn tx th od bk bh fu fd fi nu nw nf bf bn ts ap fs ln fo fa wr x (by
    sorry)

set_option maxHeartbeats 4000000 in
set_option maxRecDepth 100000 in
theorem c_X8_leastWarmth (l : Launch) (G : Gt) (m0 m1 m2 m3 m4 m5 m6 m7 m8 m9 m10 m11 m12 m13 m14 : Nat) (sz : Nat) (mw : Nat → Int64) (ik : Nat → Int32) (zs : Nat → Int32) (cl : Nat → Int32) (hs : Nat → Int32) (ks : Nat → Int32) (wa : Nat → Int32) (ne : Nat → Int32) (mn : Nat → Int32) (tx : Nat → Int32) (th : Nat → Int32) (od : Nat → Int32) (bk : Nat → Int32) (bh : Nat → Int32) (fu : Int32) (fd : Int32) (fi : Int32) (nu : Int32) (nw : Int32) (nf : Int32) (bf : Int32) (bn : Int32) (ts : Int32) (ap : Int32) (fs : Int32) (ln : Int32) (fo : Int32) (fa : Int32) (wr : Int32) (hv : ∃ (I11_3 : Int64 → Int32 → Prop) (μ11_4 : Int64 → Int32 → Nat), I11_3 (mw 150) 1 ∧ (∀ (x1_1 : Int64) (x3_2 : Int32), I11_3 x1_1 x3_2 → ((mn 1) ≤ x3_2 → True) ∧ (¬ ((mn 1) ≤ x3_2) → (vp_in (150 + x3_2) 560) ∧ (I11_3 (if x1_1 < (mw (150 + x3_2).toNatClampNeg) then x1_1 else (mw (150 + x3_2).toNatClampNeg)) (x3_2 + 1) ∧ μ11_4 (if x1_1 < (mw (150 + x3_2).toNatClampNeg) then x1_1 else (mw (150 + x3_2).toNatClampNeg)) (x3_2 + 1) < μ11_4 x1_1 x3_2)))) : MetL l yX8_leastWarmth wsX8_leastWarmth 1 23 G [.ref m0] [(m0, .inr (8, [.ref m1, .ref m2, .ref m3, .ref m4, .ref m5, .ref m6, .ref m7, .ref m8, .ref m9, .int fu, .int fd, .int fi, .int nu, .int nw, .int nf, .int bf, .int bn, .ref m10, .int ts, .int ap, .int fs, .int ln, .int fo, .int fa, .ref m11, .ref m12, .ref m13, .ref m14, .int wr])), aJ G m1 560 mw, aZ G m2 2 ik, aI G m3 20 zs, aI G m4 20 cl, aI G m5 20 hs, aI G m6 20 ks, aI G m7 20 wa, aI G m8 20 ne, aI G m9 4 mn, aI G m10 400 tx, aI G m11 6 th, aI G m12 6 od, aI G m13 30 bk, aI G m14 30 bh] sz (fun (r : Int64) (_ : Unit) => True) (fun (_ : Unit) => [(m0, .inr (8, [.ref m1, .ref m2, .ref m3, .ref m4, .ref m5, .ref m6, .ref m7, .ref m8, .ref m9, .int fu, .int fd, .int fi, .int nu, .int nw, .int nf, .int bf, .int bn, .ref m10, .int ts, .int ap, .int fs, .int ln, .int fo, .int fa, .ref m11, .ref m12, .ref m13, .ref m14, .int wr])), aJ G m1 560 mw, aZ G m2 2 ik, aI G m3 20 zs, aI G m4 20 cl, aI G m5 20 hs, aI G m6 20 ks, aI G m7 20 wa, aI G m8 20 ne, aI G m9 4 mn, aI G m10 400 tx, aI G m11 6 th, aI G m12 6 od, aI G m13 30 bk, aI G m14 30 bh]) := by
  refine x_startL (cc := cX8_leastWarmth) (maxL := 4) (ret := (some .long)) (by decide) rfl (Nat.le_of_ble_eq_true rfl) ?_
  intro p e s m args below meth c A R Q ls hRf hRl hQ C hP hD hS hA hSS hl
  obtain ⟨hx, hb, hr, hml, hown, hts, hlocks, hKK⟩ := C
  have hown : s.vm.findClass RX8 = some m.cls := hown
  have hl : lv_has ls 4 [(0, .ref m0)] := hl
  have hinX8 : ∀ w ∈ u_ws RX8 TX8 29, w ∈ wsX8_leastWarmth := by decide +kernel
  have kl36 := hts (.fieldLink RX8 36 "WarmStonesModel" "many" "[I") (by decide +kernel)
  have kl7 := hts (.fieldLink RX8 7 "WarmStonesModel" "w" "[J") (by decide +kernel)
  refine lv_aload_n hx hb dX8_leastWarmth_0 rfl (lv_at hl 0 rfl) ?_
  refine va_get (D := G.1) (ci := 8) (v := .ref m1) (C := RX8) (T := TX8) (N := 29) hx hb hts hinX8 hown hKK.1 hP 0 rfl rfl 0 (by decide) kl7 (fun _ h9 => h9) rfl dX8_leastWarmth_1 ?_
  refine lv_sipush (v := 150) hx hb dX8_leastWarmth_4 (by decide) ?_
  refine va_lald hx hb hKK.1 hP 1 2 rfl rfl (by unfold vp_in; decide) dX8_leastWarmth_7 ?_
  refine lv_lstore_n (lv' := [(1, .long (mw 150)), (0, .ref m0)]) hx hb dX8_leastWarmth_8 rfl hl (by decide) rfl (fun ls hl => ?_)
  refine lv_iconst (v := 1) hx hb dX8_leastWarmth_9 (by decide) ?_
  refine lv_istore_n (lv' := [(3, .int 1), (1, .long (mw 150)), (0, .ref m0)]) hx hb dX8_leastWarmth_10 rfl hl (by decide) rfl (fun ls hl => ?_)
  obtain ⟨I11_3, μ11_4, hi0, hs_9⟩ := hv
  have Lm_11 : ∀ (n_10 : Nat) (x1_1 : Int64) (x3_2 : Int32) (H : Heap) (locs : List Loc) (ls : Array Slot), μ11_4 x1_1 x3_2 < n_10 → I11_3 x1_1 x3_2 → va_P G.1 vwCl [(m0, .inr (8, [.ref m1, .ref m2, .ref m3, .ref m4, .ref m5, .ref m6, .ref m7, .ref m8, .ref m9, .int fu, .int fd, .int fi, .int nu, .int nw, .int nf, .int bf, .int bn, .ref m10, .int ts, .int ap, .int fs, .int ln, .int fo, .int fa, .ref m11, .ref m12, .ref m13, .ref m14, .int wr])), aJ G m1 560 mw, aZ G m2 2 ik, aI G m3 20 zs, aI G m4 20 cl, aI G m5 20 hs, aI G m6 20 ks, aI G m7 20 wa, aI G m8 20 ne, aI G m9 4 mn, aI G m10 400 tx, aI G m11 6 th, aI G m12 6 od, aI G m13 30 bk, aI G m14 30 bh] H → va_D A [(m0, .inr (8, [.ref m1, .ref m2, .ref m3, .ref m4, .ref m5, .ref m6, .ref m7, .ref m8, .ref m9, .int fu, .int fd, .int fi, .int nu, .int nw, .int nf, .int bf, .int bn, .ref m10, .int ts, .int ap, .int fs, .int ln, .int fo, .int fa, .ref m11, .ref m12, .ref m13, .ref m14, .int wr])), aJ G m1 560 mw, aZ G m2 2 ik, aI G m3 20 zs, aI G m4 20 cl, aI G m5 20 hs, aI G m6 20 ks, aI G m7 20 wa, aI G m8 20 ne, aI G m9 4 mn, aI G m10 400 tx, aI G m11 6 th, aI G m12 6 od, aI G m13 30 bk, aI G m14 30 bh] → va_S A s.heap H locs → lv_has ls 4 [(3, .int x3_2), (1, .long x1_1), (0, .ref m0)] → W p l e R s m args below meth c H locs 0 0 Q (F0 m 11 ls []) := by
    intro n_10
    induction n_10 with
    | zero => intro x1_1 x3_2 H locs ls hm; exact absurd hm (Nat.not_lt_zero _)
    | succ n_10 ih_5 =>
      intro x1_1 x3_2 H locs ls hI_6 hi hP hD hS hl
      have hv := hs_9 x1_1 x3_2 hi
      refine lv_iload_n hx hb dX8_leastWarmth_11 rfl (lv_at hl 0 rfl) ?_
      refine lv_aload_n hx hb dX8_leastWarmth_12 rfl (lv_at hl 2 rfl) ?_
      refine va_get (D := G.1) (ci := 8) (v := .ref m9) (C := RX8) (T := TX8) (N := 29) hx hb hts hinX8 hown hKK.1 hP 0 rfl rfl 8 (by decide) kl36 (fun _ h9 => h9) rfl dX8_leastWarmth_13 ?_
      refine lv_iconst (v := 1) hx hb dX8_leastWarmth_16 (by decide) ?_
      refine va_iald hx hb hKK.1 hP 9 0 rfl rfl (by unfold vp_in; decide) dX8_leastWarmth_17 ?_
      refine lv_icmp_ge (tgt := 42) hx hb dX8_leastWarmth_18 (by decide) (fun hc_7 => ?_) (fun hc_7 => ?_)
      · have hv := hv.1 hc_7
        refine lv_lload_n hx hb dX8_leastWarmth_42 rfl (lv_at hl 1 rfl) ?_
        exact x_lret (v := x1_1) () hQ hx hb hr hlocks hS dX8_leastWarmth_43 hv hP hD
      · have hv := hv.2 hc_7
        refine lv_lload_n hx hb dX8_leastWarmth_21 rfl (lv_at hl 1 rfl) ?_
        refine lv_aload_n hx hb dX8_leastWarmth_22 rfl (lv_at hl 2 rfl) ?_
        refine va_get (D := G.1) (ci := 8) (v := .ref m1) (C := RX8) (T := TX8) (N := 29) hx hb hts hinX8 hown hKK.1 hP 0 rfl rfl 0 (by decide) kl7 (fun _ h9 => h9) rfl dX8_leastWarmth_23 ?_
        refine lv_sipush (v := 150) hx hb dX8_leastWarmth_26 (by decide) ?_
        refine lv_iload_n hx hb dX8_leastWarmth_29 rfl (lv_at hl 0 rfl) ?_
        refine lv_iadd hx hb dX8_leastWarmth_30 ?_
        obtain ⟨hin, hv⟩ := hv
        refine va_lald hx hb hKK.1 hP 1 2 rfl rfl hin dX8_leastWarmth_31 ?_
        refine x_calllR (x_runS (As := [.long x1_1, .long (mw (150 + x3_2).toNatClampNeg)]) (rest := []) (n := 2) ⟨hx, hb, hml, hown, hts⟩ (k_X8_less l G  _ x1_1 (mw (150 + x3_2).toNatClampNeg)) gX8_leastWarmth_X8_less rfl (by decide +kernel) ⟨Nat.le_trans (Nat.le_of_ble_eq_true rfl) hRf, Nat.le_trans (Nat.le_of_ble_eq_true rfl) hRl⟩ hKK hSS hS hA hP hD [] (by decide) rfl rfl hl.1 rfl (Nat.le_of_ble_eq_true rfl) dX8_leastWarmth_32) hP hD hS hA [] rfl (fun r_8 _ H locs hw hP hS => ?_)
        replace hw := hw.symm; subst hw
        refine lv_lstore_n (lv' := [(1, .long (if x1_1 < (mw (150 + x3_2).toNatClampNeg) then x1_1 else (mw (150 + x3_2).toNatClampNeg))), (3, .int x3_2), (0, .ref m0)]) hx hb dX8_leastWarmth_35 rfl hl (by decide) rfl (fun ls hl => ?_)
        refine lv_iinc (v := (x3_2 + 1)) (lv' := [(3, .int (x3_2 + 1)), (1, .long (if x1_1 < (mw (150 + x3_2).toNatClampNeg) then x1_1 else (mw (150 + x3_2).toNatClampNeg))), (0, .ref m0)]) hx hb dX8_leastWarmth_36 hl (k := 1) rfl rfl (by decide) rfl (fun ls hl => ?_)
        refine lv_goto (tgt := 11) hx hb dX8_leastWarmth_39 (by decide) ?_
        exact ih_5 _ _ _ _ _ (Nat.lt_of_lt_of_le hv.2 (Nat.le_of_lt_succ hI_6)) hv.1 hP hD hS hl
  exact Lm_11 _ _ _ _ _ _ (Nat.lt_succ_self _) hi0 hP hD hS hl
theorem k_X8_leastWarmth (l : Launch) (G : Gt) (m0 m1 m2 m3 m4 m5 m6 m7 m8 m9 m10 m11 m12 m13 m14 : Nat) (sz : Nat) (mw : Nat → Int64) (ik : Nat → Int32) (zs : Nat → Int32) (cl : Nat → Int32) (hs : Nat → Int32) (ks : Nat → Int32) (wa : Nat → Int32) (ne : Nat → Int32) (mn : Nat → Int32) (tx : Nat → Int32) (th : Nat → Int32) (od : Nat → Int32) (bk : Nat → Int32) (bh : Nat → Int32) (fu : Int32) (fd : Int32) (fi : Int32) (nu : Int32) (nw : Int32) (nf : Int32) (bf : Int32) (bn : Int32) (ts : Int32) (ap : Int32) (fs : Int32) (ln : Int32) (fo : Int32) (fa : Int32) (wr : Int32) (hp : True) : MetL l yX8_leastWarmth wsX8_leastWarmth 1 23 G [.ref m0] [(m0, .inr (8, [.ref m1, .ref m2, .ref m3, .ref m4, .ref m5, .ref m6, .ref m7, .ref m8, .ref m9, .int fu, .int fd, .int fi, .int nu, .int nw, .int nf, .int bf, .int bn, .ref m10, .int ts, .int ap, .int fs, .int ln, .int fo, .int fa, .ref m11, .ref m12, .ref m13, .ref m14, .int wr])), aJ G m1 560 mw, aZ G m2 2 ik, aI G m3 20 zs, aI G m4 20 cl, aI G m5 20 hs, aI G m6 20 ks, aI G m7 20 wa, aI G m8 20 ne, aI G m9 4 mn, aI G m10 400 tx, aI G m11 6 th, aI G m12 6 od, aI G m13 30 bk, aI G m14 30 bh] sz (fun (r : Int64) (_ : Unit) => True) (fun (_ : Unit) => [(m0, .inr (8, [.ref m1, .ref m2, .ref m3, .ref m4, .ref m5, .ref m6, .ref m7, .ref m8, .ref m9, .int fu, .int fd, .int fi, .int nu, .int nw, .int nf, .int bf, .int bn, .ref m10, .int ts, .int ap, .int fs, .int ln, .int fo, .int fa, .ref m11, .ref m12, .ref m13, .ref m14, .int wr])), aJ G m1 560 mw, aZ G m2 2 ik, aI G m3 20 zs, aI G m4 20 cl, aI G m5 20 hs, aI G m6 20 ks, aI G m7 20 wa, aI G m8 20 ne, aI G m9 4 mn, aI G m10 400 tx, aI G m11 6 th, aI G m12 6 od, aI G m13 30 bk, aI G m14 30 bh]) :=
  c_X8_leastWarmth l G m0 m1 m2 m3 m4 m5 m6 m7 m8 m9 m10 m11 m12 m13 m14 sz mw ik zs cl hs ks wa ne mn tx th od bk bh fu fd fi nu nw nf bf bn ts ap fs ln fo fa wr (by
    sorry)
