set_option maxHeartbeats 4000000 in
set_option maxRecDepth 100000 in
theorem c_X8_tryAllUp (l : Launch) (G : Gt) (m0 m1 m2 m3 m4 m5 m6 m7 m8 m9 m10 m11 m12 m13 m14 : Nat) (sz : Nat) (mw : Nat → Int64) (ik : Nat → Int32) (zs : Nat → Int32) (cl : Nat → Int32) (hs : Nat → Int32) (ks : Nat → Int32) (wa : Nat → Int32) (ne : Nat → Int32) (mn : Nat → Int32) (tx : Nat → Int32) (th : Nat → Int32) (od : Nat → Int32) (bk : Nat → Int32) (bh : Nat → Int32) (fu : Int32) (fd : Int32) (fi : Int32) (nu : Int32) (nw : Int32) (nf : Int32) (bf : Int32) (bn : Int32) (ts : Int32) (ap : Int32) (fs : Int32) (ln : Int32) (fo : Int32) (fa : Int32) (wr : Int32) (v : Nat → Int) (hv : ∃ (gX_1 : Nat) (gY_2 : Nat) (gv_3 : Nat → Int), (((0 : Int32) = nI gX_1 ∧ (140 : Int32) = nI gY_2 ∧ gX_1 + 140 ≤ 560 ∧ gY_2 + 140 ≤ 560 ∧ (gX_1 + 140 ≤ gY_2 ∨ gY_2 + 140 ≤ gX_1) ∧ MR gX_1 mw gv_3) ∧ (∀ (mw2_5 : Nat → Int64), (MR gY_2 mw2_5 gv_3 ∧ MF gY_2 mw mw2_5) → (∃ (I10_8 : (Nat → Int64) → Int32 → Prop) (μ10_9 : (Nat → Int64) → Int32 → Nat), I10_8 mw2_5 0 ∧ (∀ (fm1_6 : (Nat → Int64)) (x1_7 : Int32), I10_8 fm1_6 x1_7 → (8 ≤ x1_7 → MR 140 fm1_6 (zUp v) ∧ MF 140 mw fm1_6) ∧ (¬ (8 ≤ x1_7) → (vp_in (160 + x1_7) 560) ∧ (∀ (fm1_13 : (Nat → Int64)), (fm1_13 = (vp_updL fm1_6 ((160 + x1_7).toNatClampNeg) (-1))) → ((vp_in (170 + x1_7) 560) ∧ (∀ (fm1_14 : (Nat → Int64)), (fm1_14 = (vp_updL fm1_13 ((170 + x1_7).toNatClampNeg) 0)) → (I10_8 fm1_14 (x1_7 + 1) ∧ μ10_9 fm1_14 (x1_7 + 1) < μ10_9 fm1_6 x1_7)))))))))) : MetV l yX8_tryAllUp wsX8_tryAllUp 1 23 G [.ref m0] [(m0, .inr (8, [.ref m1, .ref m2, .ref m3, .ref m4, .ref m5, .ref m6, .ref m7, .ref m8, .ref m9, .int fu, .int fd, .int fi, .int nu, .int nw, .int nf, .int bf, .int bn, .ref m10, .int ts, .int ap, .int fs, .int ln, .int fo, .int fa, .ref m11, .ref m12, .ref m13, .ref m14, .int wr])), aJ G m1 560 mw, aZ G m2 2 ik, aI G m3 20 zs, aI G m4 20 cl, aI G m5 20 hs, aI G m6 20 ks, aI G m7 20 wa, aI G m8 20 ne, aI G m9 4 mn, aI G m10 400 tx, aI G m11 6 th, aI G m12 6 od, aI G m13 30 bk, aI G m14 30 bh] sz (fun (u : (Nat → Int64)) => MR 140 u (zUp v) ∧ MF 140 mw u) (fun (u : (Nat → Int64)) => [(m0, .inr (8, [.ref m1, .ref m2, .ref m3, .ref m4, .ref m5, .ref m6, .ref m7, .ref m8, .ref m9, .int fu, .int fd, .int fi, .int nu, .int nw, .int nf, .int bf, .int bn, .ref m10, .int ts, .int ap, .int fs, .int ln, .int fo, .int fa, .ref m11, .ref m12, .ref m13, .ref m14, .int wr])), aJ G m1 560 u, aZ G m2 2 ik, aI G m3 20 zs, aI G m4 20 cl, aI G m5 20 hs, aI G m6 20 ks, aI G m7 20 wa, aI G m8 20 ne, aI G m9 4 mn, aI G m10 400 tx, aI G m11 6 th, aI G m12 6 od, aI G m13 30 bk, aI G m14 30 bh]) := by
  refine x_startV (cc := cX8_tryAllUp) (maxL := 2) (ret := none) (by decide) rfl (Nat.le_of_ble_eq_true rfl) ?_
  intro p e s m args below meth c A R Q ls hRf hRl hQ C hP hD hS hA hSS hl
  obtain ⟨hx, hb, hr, hml, hown, hts, hlocks, hKK⟩ := C
  have hown : s.vm.findClass RX8 = some m.cls := hown
  have hl : lv_has ls 2 [(0, .ref m0)] := hl
  have hinX8 : ∀ w ∈ u_ws RX8 TX8 29, w ∈ wsX8_tryAllUp := by decide +kernel
  have kl152 := hts (.constantLong RX8 152 (-1)) (by decide +kernel)
  have kl7 := hts (.fieldLink RX8 7 "WarmStonesModel" "w" "[J") (by decide +kernel)
  refine lv_aload_n hx hb dX8_tryAllUp_0 rfl (lv_at hl 0 rfl) ?_
  refine lv_iconst (v := 0) hx hb dX8_tryAllUp_1 (by decide) ?_
  refine lv_sipush (v := 140) hx hb dX8_tryAllUp_2 (by decide) ?_
  obtain ⟨gX_1, gY_2, gv_3, hv⟩ := hv
  obtain ⟨hp, hv⟩ := hv
  refine x_callv (wr := []) (w' := fun (u : (Nat → Int64)) => [(m0, .inr (8, [.ref m1, .ref m2, .ref m3, .ref m4, .ref m5, .ref m6, .ref m7, .ref m8, .ref m9, .int fu, .int fd, .int fi, .int nu, .int nw, .int nf, .int bf, .int bn, .ref m10, .int ts, .int ap, .int fs, .int ln, .int fo, .int fa, .ref m11, .ref m12, .ref m13, .ref m14, .int wr])), aJ G m1 560 u, aZ G m2 2 ik, aI G m3 20 zs, aI G m4 20 cl, aI G m5 20 hs, aI G m6 20 ks, aI G m7 20 wa, aI G m8 20 ne, aI G m9 4 mn, aI G m10 400 tx, aI G m11 6 th, aI G m12 6 od, aI G m13 30 bk, aI G m14 30 bh]) (x_runV (As := [.int 0, .int 140]) (rest := []) (n := 2) (C := RX8) (ci := 8) ⟨hx, hb, hml, hown, hts⟩ (k_X8_copy l G m0 m1 m2 m3 m4 m5 m6 m7 m8 m9 m10 m11 m12 m13 m14 _ mw ik zs cl hs ks wa ne mn tx th od bk bh fu fd fi nu nw nf bf bn ts ap fs ln fo fa wr 0 140 gX_1 gY_2 gv_3 hp) gX8_tryAllUp_X8_copy rfl (by decide +kernel) ⟨Nat.le_trans (Nat.le_of_ble_eq_true rfl) hRf, Nat.le_trans (Nat.le_of_ble_eq_true rfl) hRl⟩ hKK hSS hS hA hP hD [0, 1, 2, 3, 4, 5, 6, 7, 8, 9, 10, 11, 12, 13, 14] (by decide) rfl rfl rfl 0 rfl rfl hl.1 rfl (Nat.le_of_ble_eq_true rfl) dX8_tryAllUp_5) hP hD hS hA [0, 1, 2, 3, 4, 5, 6, 7, 8, 9, 10, 11, 12, 13, 14] [] [0, 1, 2, 3, 4, 5, 6, 7, 8, 9, 10, 11, 12, 13, 14] rfl rfl (by decide) (by decide) (by decide) (fun _ => rfl) (fun  u H locs hw hP hD hS => ?_)
  obtain ⟨mw2_5, rfl⟩ : ∃ z9_, z9_ = u := ⟨_, rfl⟩
  have hP : va_P G.1 vwCl [(m0, .inr (8, [.ref m1, .ref m2, .ref m3, .ref m4, .ref m5, .ref m6, .ref m7, .ref m8, .ref m9, .int fu, .int fd, .int fi, .int nu, .int nw, .int nf, .int bf, .int bn, .ref m10, .int ts, .int ap, .int fs, .int ln, .int fo, .int fa, .ref m11, .ref m12, .ref m13, .ref m14, .int wr])), aJ G m1 560 mw2_5, aZ G m2 2 ik, aI G m3 20 zs, aI G m4 20 cl, aI G m5 20 hs, aI G m6 20 ks, aI G m7 20 wa, aI G m8 20 ne, aI G m9 4 mn, aI G m10 400 tx, aI G m11 6 th, aI G m12 6 od, aI G m13 30 bk, aI G m14 30 bh] H := hP
  have hD : va_D A [(m0, .inr (8, [.ref m1, .ref m2, .ref m3, .ref m4, .ref m5, .ref m6, .ref m7, .ref m8, .ref m9, .int fu, .int fd, .int fi, .int nu, .int nw, .int nf, .int bf, .int bn, .ref m10, .int ts, .int ap, .int fs, .int ln, .int fo, .int fa, .ref m11, .ref m12, .ref m13, .ref m14, .int wr])), aJ G m1 560 mw2_5, aZ G m2 2 ik, aI G m3 20 zs, aI G m4 20 cl, aI G m5 20 hs, aI G m6 20 ks, aI G m7 20 wa, aI G m8 20 ne, aI G m9 4 mn, aI G m10 400 tx, aI G m11 6 th, aI G m12 6 od, aI G m13 30 bk, aI G m14 30 bh] := hD
  have hv := hv mw2_5 hw
  refine lv_iconst (v := 0) hx hb dX8_tryAllUp_8 (by decide) ?_
  refine lv_istore_n (lv' := [(1, .int 0), (0, .ref m0)]) hx hb dX8_tryAllUp_9 rfl hl (by decide) rfl (fun ls hl => ?_)
  obtain ⟨I10_8, μ10_9, hi0, hs_15⟩ := hv
  have Lm_17 : ∀ (n_16 : Nat) (fm1_6 : (Nat → Int64)) (x1_7 : Int32) (H : Heap) (locs : List Loc) (ls : Array Slot), μ10_9 fm1_6 x1_7 < n_16 → I10_8 fm1_6 x1_7 → va_P G.1 vwCl [(m0, .inr (8, [.ref m1, .ref m2, .ref m3, .ref m4, .ref m5, .ref m6, .ref m7, .ref m8, .ref m9, .int fu, .int fd, .int fi, .int nu, .int nw, .int nf, .int bf, .int bn, .ref m10, .int ts, .int ap, .int fs, .int ln, .int fo, .int fa, .ref m11, .ref m12, .ref m13, .ref m14, .int wr])), aJ G m1 560 fm1_6, aZ G m2 2 ik, aI G m3 20 zs, aI G m4 20 cl, aI G m5 20 hs, aI G m6 20 ks, aI G m7 20 wa, aI G m8 20 ne, aI G m9 4 mn, aI G m10 400 tx, aI G m11 6 th, aI G m12 6 od, aI G m13 30 bk, aI G m14 30 bh] H → va_D A [(m0, .inr (8, [.ref m1, .ref m2, .ref m3, .ref m4, .ref m5, .ref m6, .ref m7, .ref m8, .ref m9, .int fu, .int fd, .int fi, .int nu, .int nw, .int nf, .int bf, .int bn, .ref m10, .int ts, .int ap, .int fs, .int ln, .int fo, .int fa, .ref m11, .ref m12, .ref m13, .ref m14, .int wr])), aJ G m1 560 fm1_6, aZ G m2 2 ik, aI G m3 20 zs, aI G m4 20 cl, aI G m5 20 hs, aI G m6 20 ks, aI G m7 20 wa, aI G m8 20 ne, aI G m9 4 mn, aI G m10 400 tx, aI G m11 6 th, aI G m12 6 od, aI G m13 30 bk, aI G m14 30 bh] → va_S A s.heap H locs → lv_has ls 2 [(1, .int x1_7), (0, .ref m0)] → W p l e R s m args below meth c H locs 0 0 Q (F0 m 10 ls []) := by
    intro n_16
    induction n_16 with
    | zero => intro fm1_6 x1_7 H locs ls hm; exact absurd hm (Nat.not_lt_zero _)
    | succ n_16 ih_10 =>
      intro fm1_6 x1_7 H locs ls hI_11 hi hP hD hS hl
      have hv := hs_15 fm1_6 x1_7 hi
      refine lv_iload_n hx hb dX8_tryAllUp_10 rfl (lv_at hl 0 rfl) ?_
      refine lv_bipush (v := 8) hx hb dX8_tryAllUp_11 (by decide) ?_
      refine lv_icmp_ge (tgt := 46) hx hb dX8_tryAllUp_13 (by decide) (fun hc_12 => ?_) (fun hc_12 => ?_)
      · have hv := hv.1 hc_12
        exact x_vret fm1_6 hQ hx hb hr hlocks hS dX8_tryAllUp_46 hv hP hD
      · have hv := hv.2 hc_12
        refine lv_aload_n hx hb dX8_tryAllUp_16 rfl (lv_at hl 1 rfl) ?_
        refine va_get (D := G.1) (ci := 8) (v := .ref m1) (C := RX8) (T := TX8) (N := 29) hx hb hts hinX8 hown hKK.1 hP 0 rfl rfl 0 (by decide) kl7 (fun _ h9 => h9) rfl dX8_tryAllUp_17 ?_
        refine lv_sipush (v := 160) hx hb dX8_tryAllUp_20 (by decide) ?_
        refine lv_iload_n hx hb dX8_tryAllUp_23 rfl (lv_at hl 0 rfl) ?_
        refine lv_iadd hx hb dX8_tryAllUp_24 ?_
        refine lv_ldc2 (v := (-1)) hx hb hown kl152 dX8_tryAllUp_25 ?_
        obtain ⟨hin, hv⟩ := hv
        refine va_last hx hb hKK.1 hP hD hS 1 2 rfl rfl hin dX8_tryAllUp_28 (fun H locs hP hD hS => ?_)
        obtain ⟨fm1_13, ef⟩ : ∃ z9_, z9_ = (vp_updL fm1_6 ((160 + x1_7).toNatClampNeg) (-1)) := ⟨_, rfl⟩
        have hP : va_P G.1 vwCl [(m0, .inr (8, [.ref m1, .ref m2, .ref m3, .ref m4, .ref m5, .ref m6, .ref m7, .ref m8, .ref m9, .int fu, .int fd, .int fi, .int nu, .int nw, .int nf, .int bf, .int bn, .ref m10, .int ts, .int ap, .int fs, .int ln, .int fo, .int fa, .ref m11, .ref m12, .ref m13, .ref m14, .int wr])), aJ G m1 560 fm1_13, aZ G m2 2 ik, aI G m3 20 zs, aI G m4 20 cl, aI G m5 20 hs, aI G m6 20 ks, aI G m7 20 wa, aI G m8 20 ne, aI G m9 4 mn, aI G m10 400 tx, aI G m11 6 th, aI G m12 6 od, aI G m13 30 bk, aI G m14 30 bh] H := by rw [ef]; exact hP
        have hD : va_D A [(m0, .inr (8, [.ref m1, .ref m2, .ref m3, .ref m4, .ref m5, .ref m6, .ref m7, .ref m8, .ref m9, .int fu, .int fd, .int fi, .int nu, .int nw, .int nf, .int bf, .int bn, .ref m10, .int ts, .int ap, .int fs, .int ln, .int fo, .int fa, .ref m11, .ref m12, .ref m13, .ref m14, .int wr])), aJ G m1 560 fm1_13, aZ G m2 2 ik, aI G m3 20 zs, aI G m4 20 cl, aI G m5 20 hs, aI G m6 20 ks, aI G m7 20 wa, aI G m8 20 ne, aI G m9 4 mn, aI G m10 400 tx, aI G m11 6 th, aI G m12 6 od, aI G m13 30 bk, aI G m14 30 bh] := by rw [ef]; exact hD
        have hv := hv fm1_13 ef
        refine lv_aload_n hx hb dX8_tryAllUp_29 rfl (lv_at hl 1 rfl) ?_
        refine va_get (D := G.1) (ci := 8) (v := .ref m1) (C := RX8) (T := TX8) (N := 29) hx hb hts hinX8 hown hKK.1 hP 0 rfl rfl 0 (by decide) kl7 (fun _ h9 => h9) rfl dX8_tryAllUp_30 ?_
        refine lv_sipush (v := 170) hx hb dX8_tryAllUp_33 (by decide) ?_
        refine lv_iload_n hx hb dX8_tryAllUp_36 rfl (lv_at hl 0 rfl) ?_
        refine lv_iadd hx hb dX8_tryAllUp_37 ?_
        refine lv_lconst (v := 0) hx hb dX8_tryAllUp_38 (by decide) ?_
        obtain ⟨hin, hv⟩ := hv
        refine va_last hx hb hKK.1 hP hD hS 1 2 rfl rfl hin dX8_tryAllUp_39 (fun H locs hP hD hS => ?_)
        obtain ⟨fm1_14, ef⟩ : ∃ z9_, z9_ = (vp_updL fm1_13 ((170 + x1_7).toNatClampNeg) 0) := ⟨_, rfl⟩
        have hP : va_P G.1 vwCl [(m0, .inr (8, [.ref m1, .ref m2, .ref m3, .ref m4, .ref m5, .ref m6, .ref m7, .ref m8, .ref m9, .int fu, .int fd, .int fi, .int nu, .int nw, .int nf, .int bf, .int bn, .ref m10, .int ts, .int ap, .int fs, .int ln, .int fo, .int fa, .ref m11, .ref m12, .ref m13, .ref m14, .int wr])), aJ G m1 560 fm1_14, aZ G m2 2 ik, aI G m3 20 zs, aI G m4 20 cl, aI G m5 20 hs, aI G m6 20 ks, aI G m7 20 wa, aI G m8 20 ne, aI G m9 4 mn, aI G m10 400 tx, aI G m11 6 th, aI G m12 6 od, aI G m13 30 bk, aI G m14 30 bh] H := by rw [ef]; exact hP
        have hD : va_D A [(m0, .inr (8, [.ref m1, .ref m2, .ref m3, .ref m4, .ref m5, .ref m6, .ref m7, .ref m8, .ref m9, .int fu, .int fd, .int fi, .int nu, .int nw, .int nf, .int bf, .int bn, .ref m10, .int ts, .int ap, .int fs, .int ln, .int fo, .int fa, .ref m11, .ref m12, .ref m13, .ref m14, .int wr])), aJ G m1 560 fm1_14, aZ G m2 2 ik, aI G m3 20 zs, aI G m4 20 cl, aI G m5 20 hs, aI G m6 20 ks, aI G m7 20 wa, aI G m8 20 ne, aI G m9 4 mn, aI G m10 400 tx, aI G m11 6 th, aI G m12 6 od, aI G m13 30 bk, aI G m14 30 bh] := by rw [ef]; exact hD
        have hv := hv fm1_14 ef
        refine lv_iinc (v := (x1_7 + 1)) (lv' := [(1, .int (x1_7 + 1)), (0, .ref m0)]) hx hb dX8_tryAllUp_40 hl (k := 0) rfl rfl (by decide) rfl (fun ls hl => ?_)
        refine lv_goto (tgt := 10) hx hb dX8_tryAllUp_43 (by decide) ?_
        exact ih_10 _ _ _ _ _ (Nat.lt_of_lt_of_le hv.2 (Nat.le_of_lt_succ hI_11)) hv.1 hP hD hS hl
  exact Lm_17 _ _ _ _ _ _ (Nat.lt_succ_self _) hi0 hP hD hS hl
theorem v_X8_tryAllUp (l : Launch) (G : Gt) (m0 m1 m2 m3 m4 m5 m6 m7 m8 m9 m10 m11 m12 m13 m14 : Nat) (sz : Nat) (mw : Nat → Int64) (ik : Nat → Int32) (zs : Nat → Int32) (cl : Nat → Int32) (hs : Nat → Int32) (ks : Nat → Int32) (wa : Nat → Int32) (ne : Nat → Int32) (mn : Nat → Int32) (tx : Nat → Int32) (th : Nat → Int32) (od : Nat → Int32) (bk : Nat → Int32) (bh : Nat → Int32) (fu : Int32) (fd : Int32) (fi : Int32) (nu : Int32) (nw : Int32) (nf : Int32) (bf : Int32) (bn : Int32) (ts : Int32) (ap : Int32) (fs : Int32) (ln : Int32) (fo : Int32) (fa : Int32) (wr : Int32) (v : Nat → Int) (hp : MR 0 mw v) : ∃ (gX_1 : Nat) (gY_2 : Nat) (gv_3 : Nat → Int), (((0 : Int32) = nI gX_1 ∧ (140 : Int32) = nI gY_2 ∧ gX_1 + 140 ≤ 560 ∧ gY_2 + 140 ≤ 560 ∧ (gX_1 + 140 ≤ gY_2 ∨ gY_2 + 140 ≤ gX_1) ∧ MR gX_1 mw gv_3) ∧ (∀ (mw2_5 : Nat → Int64), (MR gY_2 mw2_5 gv_3 ∧ MF gY_2 mw mw2_5) → (∃ (I10_8 : (Nat → Int64) → Int32 → Prop) (μ10_9 : (Nat → Int64) → Int32 → Nat), I10_8 mw2_5 0 ∧ (∀ (fm1_6 : (Nat → Int64)) (x1_7 : Int32), I10_8 fm1_6 x1_7 → (8 ≤ x1_7 → MR 140 fm1_6 (zUp v) ∧ MF 140 mw fm1_6) ∧ (¬ (8 ≤ x1_7) → (vp_in (160 + x1_7) 560) ∧ (∀ (fm1_13 : (Nat → Int64)), (fm1_13 = (vp_updL fm1_6 ((160 + x1_7).toNatClampNeg) (-1))) → ((vp_in (170 + x1_7) 560) ∧ (∀ (fm1_14 : (Nat → Int64)), (fm1_14 = (vp_updL fm1_13 ((170 + x1_7).toNatClampNeg) 0)) → (I10_8 fm1_14 (x1_7 + 1) ∧ μ10_9 fm1_14 (x1_7 + 1) < μ10_9 fm1_6 x1_7))))))))) := by
  have hR := hp
  refine ⟨0, 140, v, ⟨rfl, rfl, by omega, by omega, by omega, hR⟩, fun w0 hw0 => ?_⟩
  refine ⟨fun w z => ∃ i, i ≤ 8 ∧ z = nI i ∧ MF 140 mw w ∧ MR 140 w (fun k => if 20 ≤ k ∧ k < 20 + i then -1 else if 30 ≤ k ∧ k < 30 + i then 0 else v k), fun _ z => 8 - z.toNatClampNeg, ⟨0, by omega, rfl, hw0.2, fun k hk => ?_⟩, ?_⟩
  · rw [hw0.1 k hk]; dsimp only; rw [if_neg (by omega), if_neg (by omega)]
  rintro w z ⟨i, hi, rfl, hF, hRi⟩
  have ei : (nI i).toNatClampNeg = i := nI_clamp (by omega)
  have ei1 : nI i + 1 = nI (i + 1) := nI_1 i
  have ej : (nI (i + 1)).toNatClampNeg = i + 1 := nI_clamp (by omega)
  have e1 : 160 + nI i = nI (160 + i) := ix1 160 i
  have c1 : (nI (160 + i)).toNatClampNeg = 140 + (20 + i) := by rw [nI_clamp (by omega)]; omega
  have e2 : 170 + nI i = nI (170 + i) := ix1 170 i
  have c2 : (nI (170 + i)).toNatClampNeg = 140 + (30 + i) := by rw [nI_clamp (by omega)]; omega
  simp only [ei, ei1, ej, e1, c1, e2, c2]
  have h88 : (8 : Int32) ≤ nI i ↔ 8 ≤ i := nI_leI (a := 8) (by omega) (by omega)
  rw [h88]
  refine ⟨fun h => ?_, fun h => ⟨vp_in_nI (by omega) (by omega), fun w1 ew1 => ⟨vp_in_nI (by omega) (by omega), fun w2 ew2 => ⟨⟨i + 1, by omega, rfl, ?_, fun k hk => ?_⟩, by omega⟩⟩⟩⟩
  · have e : i = 8 := by omega
    subst e
    exact ⟨hRi, hF⟩
  · rw [ew2, ew1]; exact (hF.up (by omega)).up (by omega)
  · have h2 : MR 140 w2 (uz (uz (fun k => if 20 ≤ k ∧ k < 20 + i then -1 else if 30 ≤ k ∧ k < 30 + i then 0 else v k) (20 + i) (-1)) (30 + i) 0) := by
      rw [ew2, ew1]; exact (hRi.up rfl).up rfl
    rw [h2 k hk]
    show _ = if 20 ≤ k ∧ k < 20 + (i + 1) then -1 else if 30 ≤ k ∧ k < 30 + (i + 1) then 0 else v k
    by_cases a : k = 30 + i
    · subst a; rw [uz_eq, if_neg (by omega), if_pos (by omega)]
    · rw [uz_ne a]
      by_cases b : k = 20 + i
      · subst b; rw [uz_eq, if_pos (by omega)]
      · rw [uz_ne b]
        by_cases c : 20 ≤ k ∧ k < 20 + i
        · rw [if_pos c, if_pos (show 20 ≤ k ∧ k < 20 + (i + 1) by omega)]
        · rw [if_neg c, if_neg (show ¬ (20 ≤ k ∧ k < 20 + (i + 1)) by omega)]
          by_cases d : 30 ≤ k ∧ k < 30 + i
          · rw [if_pos d, if_pos (show 30 ≤ k ∧ k < 30 + (i + 1) by omega)]
          · rw [if_neg d, if_neg (show ¬ (30 ≤ k ∧ k < 30 + (i + 1)) by omega)]
theorem k_X8_tryAllUp (l : Launch) (G : Gt) (m0 m1 m2 m3 m4 m5 m6 m7 m8 m9 m10 m11 m12 m13 m14 : Nat) (sz : Nat) (mw : Nat → Int64) (ik : Nat → Int32) (zs : Nat → Int32) (cl : Nat → Int32) (hs : Nat → Int32) (ks : Nat → Int32) (wa : Nat → Int32) (ne : Nat → Int32) (mn : Nat → Int32) (tx : Nat → Int32) (th : Nat → Int32) (od : Nat → Int32) (bk : Nat → Int32) (bh : Nat → Int32) (fu : Int32) (fd : Int32) (fi : Int32) (nu : Int32) (nw : Int32) (nf : Int32) (bf : Int32) (bn : Int32) (ts : Int32) (ap : Int32) (fs : Int32) (ln : Int32) (fo : Int32) (fa : Int32) (wr : Int32) (v : Nat → Int) (hp : MR 0 mw v) : MetV l yX8_tryAllUp wsX8_tryAllUp 1 23 G [.ref m0] [(m0, .inr (8, [.ref m1, .ref m2, .ref m3, .ref m4, .ref m5, .ref m6, .ref m7, .ref m8, .ref m9, .int fu, .int fd, .int fi, .int nu, .int nw, .int nf, .int bf, .int bn, .ref m10, .int ts, .int ap, .int fs, .int ln, .int fo, .int fa, .ref m11, .ref m12, .ref m13, .ref m14, .int wr])), aJ G m1 560 mw, aZ G m2 2 ik, aI G m3 20 zs, aI G m4 20 cl, aI G m5 20 hs, aI G m6 20 ks, aI G m7 20 wa, aI G m8 20 ne, aI G m9 4 mn, aI G m10 400 tx, aI G m11 6 th, aI G m12 6 od, aI G m13 30 bk, aI G m14 30 bh] sz (fun (u : (Nat → Int64)) => MR 140 u (zUp v) ∧ MF 140 mw u) (fun (u : (Nat → Int64)) => [(m0, .inr (8, [.ref m1, .ref m2, .ref m3, .ref m4, .ref m5, .ref m6, .ref m7, .ref m8, .ref m9, .int fu, .int fd, .int fi, .int nu, .int nw, .int nf, .int bf, .int bn, .ref m10, .int ts, .int ap, .int fs, .int ln, .int fo, .int fa, .ref m11, .ref m12, .ref m13, .ref m14, .int wr])), aJ G m1 560 u, aZ G m2 2 ik, aI G m3 20 zs, aI G m4 20 cl, aI G m5 20 hs, aI G m6 20 ks, aI G m7 20 wa, aI G m8 20 ne, aI G m9 4 mn, aI G m10 400 tx, aI G m11 6 th, aI G m12 6 od, aI G m13 30 bk, aI G m14 30 bh]) :=
  c_X8_tryAllUp l G m0 m1 m2 m3 m4 m5 m6 m7 m8 m9 m10 m11 m12 m13 m14 sz mw ik zs cl hs ks wa ne mn tx th od bk bh fu fd fi nu nw nf bf bn ts ap fs ln fo fa wr v (v_X8_tryAllUp l G m0 m1 m2 m3 m4 m5 m6 m7 m8 m9 m10 m11 m12 m13 m14 sz mw ik zs cl hs ks wa ne mn tx th od bk bh fu fd fi nu nw nf bf bn ts ap fs ln fo fa wr v hp)

set_option maxHeartbeats 4000000 in
set_option maxRecDepth 100000 in
theorem c_X8_seatIn (l : Launch) (G : Gt) (sz : Nat) (x : Int32) (y : Int32) (z : Int32) (cq : Nat) (ip : Nat) (nq : Nat) (hv : ∀ (y_1 : Int32), (y_1 = (z - 1)) → (∃ (I7_4 : Int32 → Int32 → Prop) (μ7_5 : Int32 → Int32 → Nat), I7_4 x y_1 ∧ (∀ (x3_2 : Int32) (x4_3 : Int32), I7_4 x3_2 x4_3 → (x4_3 ≤ y → ((x3_2 - x3_2 / 10 * 10) - 1).toInt = (dg nq cq ip : Int) - 1) ∧ (¬ (x4_3 ≤ y) → ∀ (y_9 : Int32), (y_9 = (x3_2 / 10)) → (I7_4 y_9 (x4_3 + (-1)) ∧ μ7_5 y_9 (x4_3 + (-1)) < μ7_5 x3_2 x4_3))))) : MetI l yX8_seatIn wsX8_seatIn 0 0 G [.int x, .int y, .int z] [] sz (fun (r : Int32) (_ : Unit) => r.toInt = (dg nq cq ip : Int) - 1) (fun (_ : Unit) => []) := by
  refine x_startI (cc := cX8_seatIn) (maxL := 5) (ret := (some .int)) (by decide) rfl (Nat.le_of_ble_eq_true rfl) ?_
  intro p e s m args below meth c A R Q ls hRf hRl hQ C hP hD hS hA hSS hl
  obtain ⟨hx, hb, hr, hml, hown, hts, hlocks, hKK⟩ := C
  have hown : s.vm.findClass RX8 = some m.cls := hown
  have hl : lv_has ls 5 [(0, .int x), (1, .int y), (2, .int z)] := hl
  refine lv_iload_n hx hb dX8_seatIn_0 rfl (lv_at hl 0 rfl) ?_
  refine lv_istore_n (lv' := [(3, .int x), (0, .int x), (1, .int y), (2, .int z)]) hx hb dX8_seatIn_1 rfl hl (by decide) rfl (fun ls hl => ?_)
  refine lv_iload_n hx hb dX8_seatIn_2 rfl (lv_at hl 3 rfl) ?_
  refine lv_iconst (v := 1) hx hb dX8_seatIn_3 (by decide) ?_
  refine lv_isub hx hb dX8_seatIn_4 ?_
  refine lv_topi (fun y_1 ey => ?_)
  have hv := hv y_1 ey
  refine lv_istore (lv' := [(4, .int y_1), (3, .int x), (0, .int x), (1, .int y), (2, .int z)]) hx hb dX8_seatIn_5 hl (by decide) rfl (fun ls hl => ?_)
  obtain ⟨I7_4, μ7_5, hi0, hs_10⟩ := hv
  have Lm_12 : ∀ (n_11 : Nat) (x3_2 : Int32) (x4_3 : Int32) (H : Heap) (locs : List Loc) (ls : Array Slot), μ7_5 x3_2 x4_3 < n_11 → I7_4 x3_2 x4_3 → va_P G.1 vwCl [] H → va_D A [] → va_S A s.heap H locs → lv_has ls 5 [(4, .int x4_3), (3, .int x3_2), (0, .int x), (1, .int y), (2, .int z)] → W p l e R s m args below meth c H locs 0 0 Q (F0 m 7 ls []) := by
    intro n_11
    induction n_11 with
    | zero => intro x3_2 x4_3 H locs ls hm; exact absurd hm (Nat.not_lt_zero _)
    | succ n_11 ih_6 =>
      intro x3_2 x4_3 H locs ls hI_7 hi hP hD hS hl
      have hv := hs_10 x3_2 x4_3 hi
      refine lv_iload hx hb dX8_seatIn_7 (lv_at hl 0 rfl) ?_
      refine lv_iload_n hx hb dX8_seatIn_9 rfl (lv_at hl 3 rfl) ?_
      refine lv_icmp_le (tgt := 24) hx hb dX8_seatIn_10 (by decide) (fun hc_8 => ?_) (fun hc_8 => ?_)
      · have hv := hv.1 hc_8
        refine lv_iload_n hx hb dX8_seatIn_24 rfl (lv_at hl 1 rfl) ?_
        refine lv_bipush (v := 10) hx hb dX8_seatIn_25 (by decide) ?_
        refine lv_irem hx hb dX8_seatIn_27 (by decide) ?_
        refine lv_iconst (v := 1) hx hb dX8_seatIn_28 (by decide) ?_
        refine lv_isub hx hb dX8_seatIn_29 ?_
        exact x_iret (v := ((x3_2 - x3_2 / 10 * 10) - 1)) () hQ hx hb hr hlocks hS dX8_seatIn_30 hv hP hD
      · have hv := hv.2 hc_8
        refine lv_iload_n hx hb dX8_seatIn_13 rfl (lv_at hl 1 rfl) ?_
        refine lv_bipush (v := 10) hx hb dX8_seatIn_14 (by decide) ?_
        refine lv_idiv hx hb dX8_seatIn_16 (by decide) ?_
        refine lv_topi (fun y_9 ey => ?_)
        have hv := hv y_9 ey
        refine lv_istore_n (lv' := [(3, .int y_9), (4, .int x4_3), (0, .int x), (1, .int y), (2, .int z)]) hx hb dX8_seatIn_17 rfl hl (by decide) rfl (fun ls hl => ?_)
        refine lv_iinc (v := (x4_3 + (-1))) (lv' := [(4, .int (x4_3 + (-1))), (3, .int y_9), (0, .int x), (1, .int y), (2, .int z)]) hx hb dX8_seatIn_18 hl (k := 1) rfl rfl (by decide) rfl (fun ls hl => ?_)
        refine lv_goto (tgt := 7) hx hb dX8_seatIn_21 (by decide) ?_
        exact ih_6 _ _ _ _ _ (Nat.lt_of_lt_of_le hv.2 (Nat.le_of_lt_succ hI_7)) hv.1 hP hD hS hl
  exact Lm_12 _ _ _ _ _ _ (Nat.lt_succ_self _) hi0 hP hD hS hl
theorem v_X8_seatIn (l : Launch) (G : Gt) (sz : Nat) (x : Int32) (y : Int32) (z : Int32) (cq : Nat) (ip : Nat) (nq : Nat) (hp : x = nI cq ∧ cq < 10000 ∧ y = nI ip ∧ ip < nq ∧ z = nI nq ∧ nq ≤ 4) : ∀ (y_1 : Int32), (y_1 = (z - 1)) → (∃ (I7_4 : Int32 → Int32 → Prop) (μ7_5 : Int32 → Int32 → Nat), I7_4 x y_1 ∧ (∀ (x3_2 : Int32) (x4_3 : Int32), I7_4 x3_2 x4_3 → (x4_3 ≤ y → ((x3_2 - x3_2 / 10 * 10) - 1).toInt = (dg nq cq ip : Int) - 1) ∧ (¬ (x4_3 ≤ y) → ∀ (y_9 : Int32), (y_9 = (x3_2 / 10)) → (I7_4 y_9 (x4_3 + (-1)) ∧ μ7_5 y_9 (x4_3 + (-1)) < μ7_5 x3_2 x4_3)))) := by
  obtain ⟨rfl, hc, rfl, hi, rfl, h4⟩ := hp
  intro y0 ey0
  have ey : y0 = nI (nq - 1) := by
    rw [ey0, ← Int32.toInt_inj, i_sub (nI_toInt (by omega)) i32_1 (by omega) (by omega), nI_toInt (by omega)]
    omega
  subst ey
  refine ⟨fun a z => ∃ k, ip ≤ k ∧ k ≤ nq - 1 ∧ z = nI k ∧ a = nI (cq / 10 ^ (nq - 1 - k)), fun _ z => z.toNatClampNeg, ⟨nq - 1, by omega, by omega, rfl, by rw [Nat.sub_self, Nat.pow_zero, Nat.div_one]⟩, ?_⟩
  rintro a z ⟨k, h1, h2, rfl, rfl⟩
  have hle : nI k ≤ nI ip ↔ k ≤ ip := nI_leI (by omega) (by omega)
  rw [hle]
  have hd : cq / 10 ^ (nq - 1 - k) ≤ cq := Nat.div_le_self _ _
  refine ⟨fun q => ?_, fun q y ey => ?_⟩
  · have e : k = ip := by omega
    subst e
    unfold dg
    generalize cq / 10 ^ (nq - 1 - k) = E at hd ⊢
    have er := i_rem (a := nI E) (b := 10) (nI_toInt (by omega)) (show (10 : Int32).toInt = 10 from rfl) (by omega) (by omega)
    rw [i_sub er i32_1 (by omega) (by omega)]
    omega
  · have ek : nI k + (-1) = nI (k - 1) := nI_m1 (by omega) (by omega)
    have c1 : (nI (k - 1)).toNatClampNeg = k - 1 := nI_clamp (by omega)
    have c2 : (nI k).toNatClampNeg = k := nI_clamp (by omega)
    dsimp only
    rw [ek, c1, c2]
    refine ⟨⟨k - 1, by omega, by omega, rfl, ?_⟩, by omega⟩
    rw [ey, nI_div10 (by omega), show nq - 1 - (k - 1) = nq - 1 - k + 1 by omega, Nat.pow_succ, Nat.div_div_eq_div_mul]
theorem k_X8_seatIn (l : Launch) (G : Gt) (sz : Nat) (x : Int32) (y : Int32) (z : Int32) (cq : Nat) (ip : Nat) (nq : Nat) (hp : x = nI cq ∧ cq < 10000 ∧ y = nI ip ∧ ip < nq ∧ z = nI nq ∧ nq ≤ 4) : MetI l yX8_seatIn wsX8_seatIn 0 0 G [.int x, .int y, .int z] [] sz (fun (r : Int32) (_ : Unit) => r.toInt = (dg nq cq ip : Int) - 1) (fun (_ : Unit) => []) :=
  c_X8_seatIn l G  sz x y z cq ip nq (v_X8_seatIn l G  sz x y z cq ip nq hp)

set_option maxHeartbeats 4000000 in
set_option maxRecDepth 100000 in
theorem c_X8_isSeating (l : Launch) (G : Gt) (m0 m1 m2 m3 m4 m5 m6 m7 m8 m9 m10 m11 m12 m13 m14 : Nat) (sz : Nat) (mw : Nat → Int64) (ik : Nat → Int32) (zs : Nat → Int32) (cl : Nat → Int32) (hs : Nat → Int32) (ks : Nat → Int32) (wa : Nat → Int32) (ne : Nat → Int32) (mn : Nat → Int32) (tx : Nat → Int32) (th : Nat → Int32) (od : Nat → Int32) (bk : Nat → Int32) (bh : Nat → Int32) (fu : Int32) (fd : Int32) (fi : Int32) (nu : Int32) (nw : Int32) (nf : Int32) (bf : Int32) (bn : Int32) (ts : Int32) (ap : Int32) (fs : Int32) (ln : Int32) (fo : Int32) (fa : Int32) (wr : Int32) (x : Int32) (cq : Nat) (Ns : Nat) (Np : Nat) (hv : ∃ (I7_4 : Int32 → Int32 → Int32 → Prop) (μ7_5 : Int32 → Int32 → Int32 → Nat), I7_4 0 1 0 ∧ (∀ (x2_1 : Int32) (x3_2 : Int32) (x4_3 : Int32), I7_4 x2_1 x3_2 x4_3 → ((mn 1) ≤ x4_3 → (narrow .boolean (.int x3_2) = .int x3_2) ∧ x3_2 = (if okB Ns (dg Np cq) Np = true then 1 else 0)) ∧ (¬ ((mn 1) ≤ x4_3) → ∃ (gcq_9 : Nat) (gip_10 : Nat) (gnq_11 : Nat), ((x = nI gcq_9 ∧ gcq_9 < 10000 ∧ x4_3 = nI gip_10 ∧ gip_10 < gnq_11 ∧ (mn 1) = nI gnq_11 ∧ gnq_11 ≤ 4) ∧ (∀ (r_12 : Int32), (r_12.toInt = (dg gnq_11 gcq_9 gip_10 : Int) - 1) → ((x3_2 = 0 → (0 ≤ r_12 → ∀ (y_15 : Int32), (y_15 = (x2_1 ||| ((1 : Int32) <<< (r_12 &&& 31)))) → (I7_4 y_15 0 (x4_3 + 1) ∧ μ7_5 y_15 0 (x4_3 + 1) < μ7_5 x2_1 x3_2 x4_3)) ∧ (¬ (0 ≤ r_12) → ∀ (y_16 : Int32), (y_16 = (x2_1 ||| 0)) → (I7_4 y_16 0 (x4_3 + 1) ∧ μ7_5 y_16 0 (x4_3 + 1) < μ7_5 x2_1 x3_2 x4_3))) ∧ (¬ (x3_2 = 0) → ((mn 0) ≤ r_12 → (0 ≤ r_12 → ∀ (y_19 : Int32), (y_19 = (x2_1 ||| ((1 : Int32) <<< (r_12 &&& 31)))) → (I7_4 y_19 0 (x4_3 + 1) ∧ μ7_5 y_19 0 (x4_3 + 1) < μ7_5 x2_1 x3_2 x4_3)) ∧ (¬ (0 ≤ r_12) → ∀ (y_20 : Int32), (y_20 = (x2_1 ||| 0)) → (I7_4 y_20 0 (x4_3 + 1) ∧ μ7_5 y_20 0 (x4_3 + 1) < μ7_5 x2_1 x3_2 x4_3))) ∧ (¬ ((mn 0) ≤ r_12) → (r_12 < 0 → (0 ≤ r_12 → ∀ (y_23 : Int32), (y_23 = (x2_1 ||| ((1 : Int32) <<< (r_12 &&& 31)))) → (I7_4 y_23 1 (x4_3 + 1) ∧ μ7_5 y_23 1 (x4_3 + 1) < μ7_5 x2_1 x3_2 x4_3)) ∧ (¬ (0 ≤ r_12) → ∀ (y_24 : Int32), (y_24 = (x2_1 ||| 0)) → (I7_4 y_24 1 (x4_3 + 1) ∧ μ7_5 y_24 1 (x4_3 + 1) < μ7_5 x2_1 x3_2 x4_3))) ∧ (¬ (r_12 < 0) → (¬ ((x2_1 >>> (r_12 &&& 31)) &&& 1) = 0 → (0 ≤ r_12 → ∀ (y_27 : Int32), (y_27 = (x2_1 ||| ((1 : Int32) <<< (r_12 &&& 31)))) → (I7_4 y_27 0 (x4_3 + 1) ∧ μ7_5 y_27 0 (x4_3 + 1) < μ7_5 x2_1 x3_2 x4_3)) ∧ (¬ (0 ≤ r_12) → ∀ (y_28 : Int32), (y_28 = (x2_1 ||| 0)) → (I7_4 y_28 0 (x4_3 + 1) ∧ μ7_5 y_28 0 (x4_3 + 1) < μ7_5 x2_1 x3_2 x4_3))) ∧ (((x2_1 >>> (r_12 &&& 31)) &&& 1) = 0 → (0 ≤ r_12 → ∀ (y_30 : Int32), (y_30 = (x2_1 ||| ((1 : Int32) <<< (r_12 &&& 31)))) → (I7_4 y_30 1 (x4_3 + 1) ∧ μ7_5 y_30 1 (x4_3 + 1) < μ7_5 x2_1 x3_2 x4_3)) ∧ (¬ (0 ≤ r_12) → ∀ (y_31 : Int32), (y_31 = (x2_1 ||| 0)) → (I7_4 y_31 1 (x4_3 + 1) ∧ μ7_5 y_31 1 (x4_3 + 1) < μ7_5 x2_1 x3_2 x4_3)))))))))))) : MetI l yX8_isSeating wsX8_isSeating 1 24 G [.ref m0, .int x] [(m0, .inr (8, [.ref m1, .ref m2, .ref m3, .ref m4, .ref m5, .ref m6, .ref m7, .ref m8, .ref m9, .int fu, .int fd, .int fi, .int nu, .int nw, .int nf, .int bf, .int bn, .ref m10, .int ts, .int ap, .int fs, .int ln, .int fo, .int fa, .ref m11, .ref m12, .ref m13, .ref m14, .int wr])), aJ G m1 560 mw, aZ G m2 2 ik, aI G m3 20 zs, aI G m4 20 cl, aI G m5 20 hs, aI G m6 20 ks, aI G m7 20 wa, aI G m8 20 ne, aI G m9 4 mn, aI G m10 400 tx, aI G m11 6 th, aI G m12 6 od, aI G m13 30 bk, aI G m14 30 bh] sz (fun (r : Int32) (_ : Unit) => r = (if okB Ns (dg Np cq) Np = true then 1 else 0)) (fun (_ : Unit) => [(m0, .inr (8, [.ref m1, .ref m2, .ref m3, .ref m4, .ref m5, .ref m6, .ref m7, .ref m8, .ref m9, .int fu, .int fd, .int fi, .int nu, .int nw, .int nf, .int bf, .int bn, .ref m10, .int ts, .int ap, .int fs, .int ln, .int fo, .int fa, .ref m11, .ref m12, .ref m13, .ref m14, .int wr])), aJ G m1 560 mw, aZ G m2 2 ik, aI G m3 20 zs, aI G m4 20 cl, aI G m5 20 hs, aI G m6 20 ks, aI G m7 20 wa, aI G m8 20 ne, aI G m9 4 mn, aI G m10 400 tx, aI G m11 6 th, aI G m12 6 od, aI G m13 30 bk, aI G m14 30 bh]) := by
  refine x_startI (cc := cX8_isSeating) (maxL := 6) (ret := (some .boolean)) (by decide) rfl (Nat.le_of_ble_eq_true rfl) ?_
  intro p e s m args below meth c A R Q ls hRf hRl hQ C hP hD hS hA hSS hl
  obtain ⟨hx, hb, hr, hml, hown, hts, hlocks, hKK⟩ := C
  have hown : s.vm.findClass RX8 = some m.cls := hown
  have hl : lv_has ls 6 [(0, .ref m0), (1, .int x)] := hl
  have hinX8 : ∀ w ∈ u_ws RX8 TX8 29, w ∈ wsX8_isSeating := by decide +kernel
  have kl36 := hts (.fieldLink RX8 36 "WarmStonesModel" "many" "[I") (by decide +kernel)
  refine lv_iconst (v := 0) hx hb dX8_isSeating_0 (by decide) ?_
  refine lv_istore_n (lv' := [(2, .int 0), (0, .ref m0), (1, .int x)]) hx hb dX8_isSeating_1 rfl hl (by decide) rfl (fun ls hl => ?_)
  refine lv_iconst (v := 1) hx hb dX8_isSeating_2 (by decide) ?_
  refine lv_istore_n (lv' := [(3, .int 1), (2, .int 0), (0, .ref m0), (1, .int x)]) hx hb dX8_isSeating_3 rfl hl (by decide) rfl (fun ls hl => ?_)
  refine lv_iconst (v := 0) hx hb dX8_isSeating_4 (by decide) ?_
  refine lv_istore (lv' := [(4, .int 0), (3, .int 1), (2, .int 0), (0, .ref m0), (1, .int x)]) hx hb dX8_isSeating_5 hl (by decide) rfl (fun ls hl => ?_)
  obtain ⟨I7_4, μ7_5, hi0, hs_32⟩ := hv
  have Lm_34 : ∀ (n_33 : Nat) (x2_1 : Int32) (x3_2 : Int32) (x4_3 : Int32) (H : Heap) (locs : List Loc) (ls : Array Slot), μ7_5 x2_1 x3_2 x4_3 < n_33 → I7_4 x2_1 x3_2 x4_3 → va_P G.1 vwCl [(m0, .inr (8, [.ref m1, .ref m2, .ref m3, .ref m4, .ref m5, .ref m6, .ref m7, .ref m8, .ref m9, .int fu, .int fd, .int fi, .int nu, .int nw, .int nf, .int bf, .int bn, .ref m10, .int ts, .int ap, .int fs, .int ln, .int fo, .int fa, .ref m11, .ref m12, .ref m13, .ref m14, .int wr])), aJ G m1 560 mw, aZ G m2 2 ik, aI G m3 20 zs, aI G m4 20 cl, aI G m5 20 hs, aI G m6 20 ks, aI G m7 20 wa, aI G m8 20 ne, aI G m9 4 mn, aI G m10 400 tx, aI G m11 6 th, aI G m12 6 od, aI G m13 30 bk, aI G m14 30 bh] H → va_D A [(m0, .inr (8, [.ref m1, .ref m2, .ref m3, .ref m4, .ref m5, .ref m6, .ref m7, .ref m8, .ref m9, .int fu, .int fd, .int fi, .int nu, .int nw, .int nf, .int bf, .int bn, .ref m10, .int ts, .int ap, .int fs, .int ln, .int fo, .int fa, .ref m11, .ref m12, .ref m13, .ref m14, .int wr])), aJ G m1 560 mw, aZ G m2 2 ik, aI G m3 20 zs, aI G m4 20 cl, aI G m5 20 hs, aI G m6 20 ks, aI G m7 20 wa, aI G m8 20 ne, aI G m9 4 mn, aI G m10 400 tx, aI G m11 6 th, aI G m12 6 od, aI G m13 30 bk, aI G m14 30 bh] → va_S A s.heap H locs → lv_has ls 6 [(4, .int x4_3), (3, .int x3_2), (2, .int x2_1), (0, .ref m0), (1, .int x)] → W p l e R s m args below meth c H locs 0 0 Q (F0 m 7 ls []) := by
    intro n_33
    induction n_33 with
    | zero => intro x2_1 x3_2 x4_3 H locs ls hm; exact absurd hm (Nat.not_lt_zero _)
    | succ n_33 ih_6 =>
      intro x2_1 x3_2 x4_3 H locs ls hI_7 hi hP hD hS hl
      have hv := hs_32 x2_1 x3_2 x4_3 hi
      refine lv_iload hx hb dX8_isSeating_7 (lv_at hl 0 rfl) ?_
      refine lv_aload_n hx hb dX8_isSeating_9 rfl (lv_at hl 3 rfl) ?_
      refine va_get (D := G.1) (ci := 8) (v := .ref m9) (C := RX8) (T := TX8) (N := 29) hx hb hts hinX8 hown hKK.1 hP 0 rfl rfl 8 (by decide) kl36 (fun _ h9 => h9) rfl dX8_isSeating_10 ?_
      refine lv_iconst (v := 1) hx hb dX8_isSeating_13 (by decide) ?_
      refine va_iald hx hb hKK.1 hP 9 0 rfl rfl (by unfold vp_in; decide) dX8_isSeating_14 ?_
      refine lv_icmp_ge (tgt := 89) hx hb dX8_isSeating_15 (by decide) (fun hc_8 => ?_) (fun hc_8 => ?_)
      · have hv := hv.1 hc_8
        refine lv_iload_n hx hb dX8_isSeating_89 rfl (lv_at hl 1 rfl) ?_
        exact x_zret (v := x3_2) () hQ hx hb hr hlocks hS dX8_isSeating_90 hv.1 hv.2 hP hD
      · have hv := hv.2 hc_8
        refine lv_iload_n hx hb dX8_isSeating_18 rfl (lv_at hl 4 rfl) ?_
        refine lv_iload hx hb dX8_isSeating_19 (lv_at hl 0 rfl) ?_
        refine lv_aload_n hx hb dX8_isSeating_21 rfl (lv_at hl 3 rfl) ?_
        refine va_get (D := G.1) (ci := 8) (v := .ref m9) (C := RX8) (T := TX8) (N := 29) hx hb hts hinX8 hown hKK.1 hP 0 rfl rfl 8 (by decide) kl36 (fun _ h9 => h9) rfl dX8_isSeating_22 ?_
        refine lv_iconst (v := 1) hx hb dX8_isSeating_25 (by decide) ?_
        refine va_iald hx hb hKK.1 hP 9 0 rfl rfl (by unfold vp_in; decide) dX8_isSeating_26 ?_
        obtain ⟨gcq_9, gip_10, gnq_11, hv⟩ := hv
        obtain ⟨hp, hv⟩ := hv
        refine x_calliR (x_runS (As := [.int x, .int x4_3, .int (mn 1)]) (rest := []) (n := 3) ⟨hx, hb, hml, hown, hts⟩ (k_X8_seatIn l G  _ x x4_3 (mn 1) gcq_9 gip_10 gnq_11 hp) gX8_isSeating_X8_seatIn rfl (by decide +kernel) ⟨Nat.le_trans (Nat.le_of_ble_eq_true rfl) hRf, Nat.le_trans (Nat.le_of_ble_eq_true rfl) hRl⟩ hKK hSS hS hA hP hD [] (by decide) rfl rfl hl.1 rfl (Nat.le_of_ble_eq_true rfl) dX8_isSeating_27) hP hD hS hA [] rfl (fun r_12 _ H locs hw hP hS => ?_)
        have hv := hv r_12 hw
        refine lv_istore (lv' := [(5, .int r_12), (4, .int x4_3), (3, .int x3_2), (2, .int x2_1), (0, .ref m0), (1, .int x)]) hx hb dX8_isSeating_30 hl (by decide) rfl (fun ls hl => ?_)
        refine lv_iload_n hx hb dX8_isSeating_32 rfl (lv_at hl 2 rfl) ?_
        refine lv_if_eq (tgt := 65) hx hb dX8_isSeating_33 (by decide) (fun hc_13 => ?_) (fun hc_13 => ?_)
        · have hv := hv.1 hc_13
          refine lv_iconst (v := 0) hx hb dX8_isSeating_65 (by decide) ?_
          refine lv_istore_n (lv' := [(3, .int 0), (5, .int r_12), (4, .int x4_3), (2, .int x2_1), (0, .ref m0), (1, .int x)]) hx hb dX8_isSeating_66 rfl hl (by decide) rfl (fun ls hl => ?_)
          refine lv_iload_n hx hb dX8_isSeating_67 rfl (lv_at hl 3 rfl) ?_
          refine lv_iload hx hb dX8_isSeating_68 (lv_at hl 1 rfl) ?_
          refine lv_if_ge (tgt := 77) hx hb dX8_isSeating_70 (by decide) (fun hc_14 => ?_) (fun hc_14 => ?_)
          · have hv := hv.1 hc_14
            refine lv_iconst (v := 1) hx hb dX8_isSeating_77 (by decide) ?_
            refine lv_iload hx hb dX8_isSeating_78 (lv_at hl 1 rfl) ?_
            refine lv_ishl hx hb dX8_isSeating_80 ?_
            refine lv_ior hx hb dX8_isSeating_81 ?_
            refine lv_topi (fun y_15 ey => ?_)
            have hv := hv y_15 ey
            refine lv_istore_n (lv' := [(2, .int y_15), (3, .int 0), (5, .int r_12), (4, .int x4_3), (0, .ref m0), (1, .int x)]) hx hb dX8_isSeating_82 rfl hl (by decide) rfl (fun ls hl => ?_)
            refine lv_iinc (v := (x4_3 + 1)) (lv' := [(4, .int (x4_3 + 1)), (2, .int y_15), (3, .int 0), (5, .int r_12), (0, .ref m0), (1, .int x)]) hx hb dX8_isSeating_83 hl (k := 3) rfl rfl (by decide) rfl (fun ls hl => ?_)
            refine lv_goto (tgt := 7) hx hb dX8_isSeating_86 (by decide) ?_
            exact ih_6 _ _ _ _ _ _ (Nat.lt_of_lt_of_le hv.2 (Nat.le_of_lt_succ hI_7)) hv.1 hP hD hS (lv_sub hl [0, 2, 1, 4, 5] rfl)
          · have hv := hv.2 hc_14
            refine lv_iconst (v := 0) hx hb dX8_isSeating_73 (by decide) ?_
            refine lv_goto (tgt := 81) hx hb dX8_isSeating_74 (by decide) ?_
            refine lv_ior hx hb dX8_isSeating_81 ?_
            refine lv_topi (fun y_16 ey => ?_)
            have hv := hv y_16 ey
            refine lv_istore_n (lv' := [(2, .int y_16), (3, .int 0), (5, .int r_12), (4, .int x4_3), (0, .ref m0), (1, .int x)]) hx hb dX8_isSeating_82 rfl hl (by decide) rfl (fun ls hl => ?_)
            refine lv_iinc (v := (x4_3 + 1)) (lv' := [(4, .int (x4_3 + 1)), (2, .int y_16), (3, .int 0), (5, .int r_12), (0, .ref m0), (1, .int x)]) hx hb dX8_isSeating_83 hl (k := 3) rfl rfl (by decide) rfl (fun ls hl => ?_)
            refine lv_goto (tgt := 7) hx hb dX8_isSeating_86 (by decide) ?_
            exact ih_6 _ _ _ _ _ _ (Nat.lt_of_lt_of_le hv.2 (Nat.le_of_lt_succ hI_7)) hv.1 hP hD hS (lv_sub hl [0, 2, 1, 4, 5] rfl)
        · have hv := hv.2 hc_13
          refine lv_iload hx hb dX8_isSeating_36 (lv_at hl 0 rfl) ?_
          refine lv_aload_n hx hb dX8_isSeating_38 rfl (lv_at hl 4 rfl) ?_
          refine va_get (D := G.1) (ci := 8) (v := .ref m9) (C := RX8) (T := TX8) (N := 29) hx hb hts hinX8 hown hKK.1 hP 0 rfl rfl 8 (by decide) kl36 (fun _ h9 => h9) rfl dX8_isSeating_39 ?_
          refine lv_iconst (v := 0) hx hb dX8_isSeating_42 (by decide) ?_
          refine va_iald hx hb hKK.1 hP 9 0 rfl rfl (by unfold vp_in; decide) dX8_isSeating_43 ?_
          refine lv_icmp_ge (tgt := 65) hx hb dX8_isSeating_44 (by decide) (fun hc_17 => ?_) (fun hc_17 => ?_)
          · have hv := hv.1 hc_17
            refine lv_iconst (v := 0) hx hb dX8_isSeating_65 (by decide) ?_
            refine lv_istore_n (lv' := [(3, .int 0), (5, .int r_12), (4, .int x4_3), (2, .int x2_1), (0, .ref m0), (1, .int x)]) hx hb dX8_isSeating_66 rfl hl (by decide) rfl (fun ls hl => ?_)
            refine lv_iload_n hx hb dX8_isSeating_67 rfl (lv_at hl 3 rfl) ?_
            refine lv_iload hx hb dX8_isSeating_68 (lv_at hl 1 rfl) ?_
            refine lv_if_ge (tgt := 77) hx hb dX8_isSeating_70 (by decide) (fun hc_18 => ?_) (fun hc_18 => ?_)
            · have hv := hv.1 hc_18
              refine lv_iconst (v := 1) hx hb dX8_isSeating_77 (by decide) ?_
              refine lv_iload hx hb dX8_isSeating_78 (lv_at hl 1 rfl) ?_
              refine lv_ishl hx hb dX8_isSeating_80 ?_
              refine lv_ior hx hb dX8_isSeating_81 ?_
              refine lv_topi (fun y_19 ey => ?_)
              have hv := hv y_19 ey
              refine lv_istore_n (lv' := [(2, .int y_19), (3, .int 0), (5, .int r_12), (4, .int x4_3), (0, .ref m0), (1, .int x)]) hx hb dX8_isSeating_82 rfl hl (by decide) rfl (fun ls hl => ?_)
              refine lv_iinc (v := (x4_3 + 1)) (lv' := [(4, .int (x4_3 + 1)), (2, .int y_19), (3, .int 0), (5, .int r_12), (0, .ref m0), (1, .int x)]) hx hb dX8_isSeating_83 hl (k := 3) rfl rfl (by decide) rfl (fun ls hl => ?_)
              refine lv_goto (tgt := 7) hx hb dX8_isSeating_86 (by decide) ?_
              exact ih_6 _ _ _ _ _ _ (Nat.lt_of_lt_of_le hv.2 (Nat.le_of_lt_succ hI_7)) hv.1 hP hD hS (lv_sub hl [0, 2, 1, 4, 5] rfl)
            · have hv := hv.2 hc_18
              refine lv_iconst (v := 0) hx hb dX8_isSeating_73 (by decide) ?_
              refine lv_goto (tgt := 81) hx hb dX8_isSeating_74 (by decide) ?_
              refine lv_ior hx hb dX8_isSeating_81 ?_
              refine lv_topi (fun y_20 ey => ?_)
              have hv := hv y_20 ey
              refine lv_istore_n (lv' := [(2, .int y_20), (3, .int 0), (5, .int r_12), (4, .int x4_3), (0, .ref m0), (1, .int x)]) hx hb dX8_isSeating_82 rfl hl (by decide) rfl (fun ls hl => ?_)
              refine lv_iinc (v := (x4_3 + 1)) (lv' := [(4, .int (x4_3 + 1)), (2, .int y_20), (3, .int 0), (5, .int r_12), (0, .ref m0), (1, .int x)]) hx hb dX8_isSeating_83 hl (k := 3) rfl rfl (by decide) rfl (fun ls hl => ?_)
              refine lv_goto (tgt := 7) hx hb dX8_isSeating_86 (by decide) ?_
              exact ih_6 _ _ _ _ _ _ (Nat.lt_of_lt_of_le hv.2 (Nat.le_of_lt_succ hI_7)) hv.1 hP hD hS (lv_sub hl [0, 2, 1, 4, 5] rfl)
          · have hv := hv.2 hc_17
            refine lv_iload hx hb dX8_isSeating_47 (lv_at hl 0 rfl) ?_
            refine lv_if_lt (tgt := 61) hx hb dX8_isSeating_49 (by decide) (fun hc_21 => ?_) (fun hc_21 => ?_)
            · have hv := hv.1 hc_21
              refine lv_iconst (v := 1) hx hb dX8_isSeating_61 (by decide) ?_
              refine lv_goto (tgt := 66) hx hb dX8_isSeating_62 (by decide) ?_
              refine lv_istore_n (lv' := [(3, .int 1), (5, .int r_12), (4, .int x4_3), (2, .int x2_1), (0, .ref m0), (1, .int x)]) hx hb dX8_isSeating_66 rfl hl (by decide) rfl (fun ls hl => ?_)
              refine lv_iload_n hx hb dX8_isSeating_67 rfl (lv_at hl 3 rfl) ?_
              refine lv_iload hx hb dX8_isSeating_68 (lv_at hl 1 rfl) ?_
              refine lv_if_ge (tgt := 77) hx hb dX8_isSeating_70 (by decide) (fun hc_22 => ?_) (fun hc_22 => ?_)
              · have hv := hv.1 hc_22
                refine lv_iconst (v := 1) hx hb dX8_isSeating_77 (by decide) ?_
                refine lv_iload hx hb dX8_isSeating_78 (lv_at hl 1 rfl) ?_
                refine lv_ishl hx hb dX8_isSeating_80 ?_
                refine lv_ior hx hb dX8_isSeating_81 ?_
                refine lv_topi (fun y_23 ey => ?_)
                have hv := hv y_23 ey
                refine lv_istore_n (lv' := [(2, .int y_23), (3, .int 1), (5, .int r_12), (4, .int x4_3), (0, .ref m0), (1, .int x)]) hx hb dX8_isSeating_82 rfl hl (by decide) rfl (fun ls hl => ?_)
                refine lv_iinc (v := (x4_3 + 1)) (lv' := [(4, .int (x4_3 + 1)), (2, .int y_23), (3, .int 1), (5, .int r_12), (0, .ref m0), (1, .int x)]) hx hb dX8_isSeating_83 hl (k := 3) rfl rfl (by decide) rfl (fun ls hl => ?_)
                refine lv_goto (tgt := 7) hx hb dX8_isSeating_86 (by decide) ?_
                exact ih_6 _ _ _ _ _ _ (Nat.lt_of_lt_of_le hv.2 (Nat.le_of_lt_succ hI_7)) hv.1 hP hD hS (lv_sub hl [0, 2, 1, 4, 5] rfl)
              · have hv := hv.2 hc_22
                refine lv_iconst (v := 0) hx hb dX8_isSeating_73 (by decide) ?_
                refine lv_goto (tgt := 81) hx hb dX8_isSeating_74 (by decide) ?_
                refine lv_ior hx hb dX8_isSeating_81 ?_
                refine lv_topi (fun y_24 ey => ?_)
                have hv := hv y_24 ey
                refine lv_istore_n (lv' := [(2, .int y_24), (3, .int 1), (5, .int r_12), (4, .int x4_3), (0, .ref m0), (1, .int x)]) hx hb dX8_isSeating_82 rfl hl (by decide) rfl (fun ls hl => ?_)
                refine lv_iinc (v := (x4_3 + 1)) (lv' := [(4, .int (x4_3 + 1)), (2, .int y_24), (3, .int 1), (5, .int r_12), (0, .ref m0), (1, .int x)]) hx hb dX8_isSeating_83 hl (k := 3) rfl rfl (by decide) rfl (fun ls hl => ?_)
                refine lv_goto (tgt := 7) hx hb dX8_isSeating_86 (by decide) ?_
                exact ih_6 _ _ _ _ _ _ (Nat.lt_of_lt_of_le hv.2 (Nat.le_of_lt_succ hI_7)) hv.1 hP hD hS (lv_sub hl [0, 2, 1, 4, 5] rfl)
            · have hv := hv.2 hc_21
              refine lv_iload_n hx hb dX8_isSeating_52 rfl (lv_at hl 3 rfl) ?_
              refine lv_iload hx hb dX8_isSeating_53 (lv_at hl 0 rfl) ?_
              refine lv_ishr hx hb dX8_isSeating_55 ?_
              refine lv_iconst (v := 1) hx hb dX8_isSeating_56 (by decide) ?_
              refine lv_iand hx hb dX8_isSeating_57 ?_
              refine lv_if_ne (tgt := 65) hx hb dX8_isSeating_58 (by decide) (fun hc_25 => ?_) (fun hc_25 => ?_)
              · have hv := hv.1 hc_25
                refine lv_iconst (v := 0) hx hb dX8_isSeating_65 (by decide) ?_
                refine lv_istore_n (lv' := [(3, .int 0), (5, .int r_12), (4, .int x4_3), (2, .int x2_1), (0, .ref m0), (1, .int x)]) hx hb dX8_isSeating_66 rfl hl (by decide) rfl (fun ls hl => ?_)
                refine lv_iload_n hx hb dX8_isSeating_67 rfl (lv_at hl 3 rfl) ?_
                refine lv_iload hx hb dX8_isSeating_68 (lv_at hl 1 rfl) ?_
                refine lv_if_ge (tgt := 77) hx hb dX8_isSeating_70 (by decide) (fun hc_26 => ?_) (fun hc_26 => ?_)
                · have hv := hv.1 hc_26
                  refine lv_iconst (v := 1) hx hb dX8_isSeating_77 (by decide) ?_
                  refine lv_iload hx hb dX8_isSeating_78 (lv_at hl 1 rfl) ?_
                  refine lv_ishl hx hb dX8_isSeating_80 ?_
                  refine lv_ior hx hb dX8_isSeating_81 ?_
                  refine lv_topi (fun y_27 ey => ?_)
                  have hv := hv y_27 ey
                  refine lv_istore_n (lv' := [(2, .int y_27), (3, .int 0), (5, .int r_12), (4, .int x4_3), (0, .ref m0), (1, .int x)]) hx hb dX8_isSeating_82 rfl hl (by decide) rfl (fun ls hl => ?_)
                  refine lv_iinc (v := (x4_3 + 1)) (lv' := [(4, .int (x4_3 + 1)), (2, .int y_27), (3, .int 0), (5, .int r_12), (0, .ref m0), (1, .int x)]) hx hb dX8_isSeating_83 hl (k := 3) rfl rfl (by decide) rfl (fun ls hl => ?_)
                  refine lv_goto (tgt := 7) hx hb dX8_isSeating_86 (by decide) ?_
                  exact ih_6 _ _ _ _ _ _ (Nat.lt_of_lt_of_le hv.2 (Nat.le_of_lt_succ hI_7)) hv.1 hP hD hS (lv_sub hl [0, 2, 1, 4, 5] rfl)
                · have hv := hv.2 hc_26
                  refine lv_iconst (v := 0) hx hb dX8_isSeating_73 (by decide) ?_
                  refine lv_goto (tgt := 81) hx hb dX8_isSeating_74 (by decide) ?_
                  refine lv_ior hx hb dX8_isSeating_81 ?_
                  refine lv_topi (fun y_28 ey => ?_)
                  have hv := hv y_28 ey
                  refine lv_istore_n (lv' := [(2, .int y_28), (3, .int 0), (5, .int r_12), (4, .int x4_3), (0, .ref m0), (1, .int x)]) hx hb dX8_isSeating_82 rfl hl (by decide) rfl (fun ls hl => ?_)
                  refine lv_iinc (v := (x4_3 + 1)) (lv' := [(4, .int (x4_3 + 1)), (2, .int y_28), (3, .int 0), (5, .int r_12), (0, .ref m0), (1, .int x)]) hx hb dX8_isSeating_83 hl (k := 3) rfl rfl (by decide) rfl (fun ls hl => ?_)
                  refine lv_goto (tgt := 7) hx hb dX8_isSeating_86 (by decide) ?_
                  exact ih_6 _ _ _ _ _ _ (Nat.lt_of_lt_of_le hv.2 (Nat.le_of_lt_succ hI_7)) hv.1 hP hD hS (lv_sub hl [0, 2, 1, 4, 5] rfl)
              · have hv := hv.2 hc_25
                refine lv_iconst (v := 1) hx hb dX8_isSeating_61 (by decide) ?_
                refine lv_goto (tgt := 66) hx hb dX8_isSeating_62 (by decide) ?_
                refine lv_istore_n (lv' := [(3, .int 1), (5, .int r_12), (4, .int x4_3), (2, .int x2_1), (0, .ref m0), (1, .int x)]) hx hb dX8_isSeating_66 rfl hl (by decide) rfl (fun ls hl => ?_)
                refine lv_iload_n hx hb dX8_isSeating_67 rfl (lv_at hl 3 rfl) ?_
                refine lv_iload hx hb dX8_isSeating_68 (lv_at hl 1 rfl) ?_
                refine lv_if_ge (tgt := 77) hx hb dX8_isSeating_70 (by decide) (fun hc_29 => ?_) (fun hc_29 => ?_)
                · have hv := hv.1 hc_29
                  refine lv_iconst (v := 1) hx hb dX8_isSeating_77 (by decide) ?_
                  refine lv_iload hx hb dX8_isSeating_78 (lv_at hl 1 rfl) ?_
                  refine lv_ishl hx hb dX8_isSeating_80 ?_
                  refine lv_ior hx hb dX8_isSeating_81 ?_
                  refine lv_topi (fun y_30 ey => ?_)
                  have hv := hv y_30 ey
                  refine lv_istore_n (lv' := [(2, .int y_30), (3, .int 1), (5, .int r_12), (4, .int x4_3), (0, .ref m0), (1, .int x)]) hx hb dX8_isSeating_82 rfl hl (by decide) rfl (fun ls hl => ?_)
                  refine lv_iinc (v := (x4_3 + 1)) (lv' := [(4, .int (x4_3 + 1)), (2, .int y_30), (3, .int 1), (5, .int r_12), (0, .ref m0), (1, .int x)]) hx hb dX8_isSeating_83 hl (k := 3) rfl rfl (by decide) rfl (fun ls hl => ?_)
                  refine lv_goto (tgt := 7) hx hb dX8_isSeating_86 (by decide) ?_
                  exact ih_6 _ _ _ _ _ _ (Nat.lt_of_lt_of_le hv.2 (Nat.le_of_lt_succ hI_7)) hv.1 hP hD hS (lv_sub hl [0, 2, 1, 4, 5] rfl)
                · have hv := hv.2 hc_29
                  refine lv_iconst (v := 0) hx hb dX8_isSeating_73 (by decide) ?_
                  refine lv_goto (tgt := 81) hx hb dX8_isSeating_74 (by decide) ?_
                  refine lv_ior hx hb dX8_isSeating_81 ?_
                  refine lv_topi (fun y_31 ey => ?_)
                  have hv := hv y_31 ey
                  refine lv_istore_n (lv' := [(2, .int y_31), (3, .int 1), (5, .int r_12), (4, .int x4_3), (0, .ref m0), (1, .int x)]) hx hb dX8_isSeating_82 rfl hl (by decide) rfl (fun ls hl => ?_)
                  refine lv_iinc (v := (x4_3 + 1)) (lv' := [(4, .int (x4_3 + 1)), (2, .int y_31), (3, .int 1), (5, .int r_12), (0, .ref m0), (1, .int x)]) hx hb dX8_isSeating_83 hl (k := 3) rfl rfl (by decide) rfl (fun ls hl => ?_)
                  refine lv_goto (tgt := 7) hx hb dX8_isSeating_86 (by decide) ?_
                  exact ih_6 _ _ _ _ _ _ (Nat.lt_of_lt_of_le hv.2 (Nat.le_of_lt_succ hI_7)) hv.1 hP hD hS (lv_sub hl [0, 2, 1, 4, 5] rfl)
  exact Lm_34 _ _ _ _ _ _ _ (Nat.lt_succ_self _) hi0 hP hD hS hl
theorem v_X8_isSeating (l : Launch) (G : Gt) (m0 m1 m2 m3 m4 m5 m6 m7 m8 m9 m10 m11 m12 m13 m14 : Nat) (sz : Nat) (mw : Nat → Int64) (ik : Nat → Int32) (zs : Nat → Int32) (cl : Nat → Int32) (hs : Nat → Int32) (ks : Nat → Int32) (wa : Nat → Int32) (ne : Nat → Int32) (mn : Nat → Int32) (tx : Nat → Int32) (th : Nat → Int32) (od : Nat → Int32) (bk : Nat → Int32) (bh : Nat → Int32) (fu : Int32) (fd : Int32) (fi : Int32) (nu : Int32) (nw : Int32) (nf : Int32) (bf : Int32) (bn : Int32) (ts : Int32) (ap : Int32) (fs : Int32) (ln : Int32) (fo : Int32) (fa : Int32) (wr : Int32) (x : Int32) (cq : Nat) (Ns : Nat) (Np : Nat) (hp : x = nI cq ∧ cq < 10000 ∧ mn 0 = nI Ns ∧ mn 1 = nI Np ∧ Ns ≤ 9 ∧ Np ≤ 4) : ∃ (I7_4 : Int32 → Int32 → Int32 → Prop) (μ7_5 : Int32 → Int32 → Int32 → Nat), I7_4 0 1 0 ∧ (∀ (x2_1 : Int32) (x3_2 : Int32) (x4_3 : Int32), I7_4 x2_1 x3_2 x4_3 → ((mn 1) ≤ x4_3 → (narrow .boolean (.int x3_2) = .int x3_2) ∧ x3_2 = (if okB Ns (dg Np cq) Np = true then 1 else 0)) ∧ (¬ ((mn 1) ≤ x4_3) → ∃ (gcq_9 : Nat) (gip_10 : Nat) (gnq_11 : Nat), ((x = nI gcq_9 ∧ gcq_9 < 10000 ∧ x4_3 = nI gip_10 ∧ gip_10 < gnq_11 ∧ (mn 1) = nI gnq_11 ∧ gnq_11 ≤ 4) ∧ (∀ (r_12 : Int32), (r_12.toInt = (dg gnq_11 gcq_9 gip_10 : Int) - 1) → ((x3_2 = 0 → (0 ≤ r_12 → ∀ (y_15 : Int32), (y_15 = (x2_1 ||| ((1 : Int32) <<< (r_12 &&& 31)))) → (I7_4 y_15 0 (x4_3 + 1) ∧ μ7_5 y_15 0 (x4_3 + 1) < μ7_5 x2_1 x3_2 x4_3)) ∧ (¬ (0 ≤ r_12) → ∀ (y_16 : Int32), (y_16 = (x2_1 ||| 0)) → (I7_4 y_16 0 (x4_3 + 1) ∧ μ7_5 y_16 0 (x4_3 + 1) < μ7_5 x2_1 x3_2 x4_3))) ∧ (¬ (x3_2 = 0) → ((mn 0) ≤ r_12 → (0 ≤ r_12 → ∀ (y_19 : Int32), (y_19 = (x2_1 ||| ((1 : Int32) <<< (r_12 &&& 31)))) → (I7_4 y_19 0 (x4_3 + 1) ∧ μ7_5 y_19 0 (x4_3 + 1) < μ7_5 x2_1 x3_2 x4_3)) ∧ (¬ (0 ≤ r_12) → ∀ (y_20 : Int32), (y_20 = (x2_1 ||| 0)) → (I7_4 y_20 0 (x4_3 + 1) ∧ μ7_5 y_20 0 (x4_3 + 1) < μ7_5 x2_1 x3_2 x4_3))) ∧ (¬ ((mn 0) ≤ r_12) → (r_12 < 0 → (0 ≤ r_12 → ∀ (y_23 : Int32), (y_23 = (x2_1 ||| ((1 : Int32) <<< (r_12 &&& 31)))) → (I7_4 y_23 1 (x4_3 + 1) ∧ μ7_5 y_23 1 (x4_3 + 1) < μ7_5 x2_1 x3_2 x4_3)) ∧ (¬ (0 ≤ r_12) → ∀ (y_24 : Int32), (y_24 = (x2_1 ||| 0)) → (I7_4 y_24 1 (x4_3 + 1) ∧ μ7_5 y_24 1 (x4_3 + 1) < μ7_5 x2_1 x3_2 x4_3))) ∧ (¬ (r_12 < 0) → (¬ ((x2_1 >>> (r_12 &&& 31)) &&& 1) = 0 → (0 ≤ r_12 → ∀ (y_27 : Int32), (y_27 = (x2_1 ||| ((1 : Int32) <<< (r_12 &&& 31)))) → (I7_4 y_27 0 (x4_3 + 1) ∧ μ7_5 y_27 0 (x4_3 + 1) < μ7_5 x2_1 x3_2 x4_3)) ∧ (¬ (0 ≤ r_12) → ∀ (y_28 : Int32), (y_28 = (x2_1 ||| 0)) → (I7_4 y_28 0 (x4_3 + 1) ∧ μ7_5 y_28 0 (x4_3 + 1) < μ7_5 x2_1 x3_2 x4_3))) ∧ (((x2_1 >>> (r_12 &&& 31)) &&& 1) = 0 → (0 ≤ r_12 → ∀ (y_30 : Int32), (y_30 = (x2_1 ||| ((1 : Int32) <<< (r_12 &&& 31)))) → (I7_4 y_30 1 (x4_3 + 1) ∧ μ7_5 y_30 1 (x4_3 + 1) < μ7_5 x2_1 x3_2 x4_3)) ∧ (¬ (0 ≤ r_12) → ∀ (y_31 : Int32), (y_31 = (x2_1 ||| 0)) → (I7_4 y_31 1 (x4_3 + 1) ∧ μ7_5 y_31 1 (x4_3 + 1) < μ7_5 x2_1 x3_2 x4_3))))))))))) := by
  obtain ⟨rfl, hc, hns, hnp, h9, h4⟩ := hp
  refine ⟨fun tk is z => ∃ i, i ≤ Np ∧ z = nI i ∧ is = (if okB Ns (dg Np cq) i = true then 1 else 0) ∧ ∀ b, b < 9 → bt tk b = usd (dg Np cq) (b + 1) i, fun _ _ z => 5 - z.toNatClampNeg, ⟨0, by omega, rfl, rfl, fun b _ => b_0 b⟩, ?_⟩
  rintro tk is z ⟨i, hi, rfl, his, htk⟩
  have ei : (nI i).toNatClampNeg = i := nI_clamp (by omega)
  have ei1 : nI i + 1 = nI (i + 1) := nI_1 i
  have ei2 : (nI (i + 1)).toNatClampNeg = i + 1 := nI_clamp (by omega)
  have hle : nI Np ≤ nI i ↔ Np ≤ i := nI_leI (by omega) (by omega)
  simp only [ei, ei1, ei2, hnp, hns, hle]
  refine ⟨fun q => ?_, fun q => ⟨cq, i, Np, ⟨rfl, hc, rfl, by omega, rfl, h4⟩, fun r hr => ?_⟩⟩
  · have e : i = Np := by omega
    subst e
    refine ⟨?_, his⟩
    rw [his]
    split <;> rfl
  have hd := dg_lt Np cq i
  have hr0 : 0 ≤ r ↔ dg Np cq i ≠ 0 := by rw [i_le i32_0 hr]; omega
  have hrn : r < 0 ↔ dg Np cq i = 0 := by rw [i_lt hr i32_0]; omega
  have hrs : nI Ns ≤ r ↔ ¬ dg Np cq i ≤ Ns := by rw [i_le (nI_toInt (by omega)) hr]; omega
  have er : dg Np cq i ≠ 0 → r = nI (dg Np cq i - 1) := fun h => by
    rw [← Int32.toInt_inj, hr, nI_toInt (by omega)]; omega
  have hT1 : dg Np cq i ≠ 0 → ∀ b, b < 9 → bt (tk ||| ((1 : Int32) <<< (r &&& 31))) b = usd (dg Np cq) (b + 1) (i + 1) := fun h b hb => by
    rw [er h, b_set _ (by omega) (by omega), htk b hb, usd]
    congr 1
    exact decide_eq_decide.mpr (by omega)
  have hT0 : ¬ dg Np cq i ≠ 0 → ∀ b, b < 9 → bt (tk ||| 0) b = usd (dg Np cq) (b + 1) (i + 1) := fun h b hb => by
    rw [b_or, b_0, Bool.or_false, htk b hb, usd, decide_eq_false (by omega), Bool.or_false]
  have fin : ∀ c : Int32, c = (if okB Ns (dg Np cq) (i + 1) = true then 1 else 0) → ((0 ≤ r → ∀ (y : Int32), (y = (tk ||| ((1 : Int32) <<< (r &&& 31)))) → ((∃ j, j ≤ Np ∧ nI (i + 1) = nI j ∧ c = (if okB Ns (dg Np cq) j = true then 1 else 0) ∧ ∀ b, b < 9 → bt y b = usd (dg Np cq) (b + 1) j) ∧ 5 - (i + 1) < 5 - i)) ∧ (¬ (0 ≤ r) → ∀ (y : Int32), (y = (tk ||| 0)) → ((∃ j, j ≤ Np ∧ nI (i + 1) = nI j ∧ c = (if okB Ns (dg Np cq) j = true then 1 else 0) ∧ ∀ b, b < 9 → bt y b = usd (dg Np cq) (b + 1) j) ∧ 5 - (i + 1) < 5 - i))) := fun c hc => ⟨fun h y ey => ⟨⟨i + 1, by omega, rfl, hc, by rw [ey]; exact hT1 (hr0.mp h)⟩, by omega⟩, fun h y ey => ⟨⟨i + 1, by omega, rfl, hc, by rw [ey]; exact hT0 (fun z => h (hr0.mpr z))⟩, by omega⟩⟩
  have no : okB Ns (dg Np cq) (i + 1) = false → (0 : Int32) = (if okB Ns (dg Np cq) (i + 1) = true then 1 else 0) := fun h => by rw [h]; rfl
  have ye : okB Ns (dg Np cq) (i + 1) = true → (1 : Int32) = (if okB Ns (dg Np cq) (i + 1) = true then 1 else 0) := fun h => by rw [h]; rfl
  have hi0 : ¬ is = 0 ↔ okB Ns (dg Np cq) i = true := by rw [his]; exact tv_eqn
  refine ⟨fun g => fin 0 (no ?_), fun g => ⟨fun g1 => fin 0 (no ?_), fun g1 => ⟨fun g2 => fin 1 (ye ?_), fun g2 => ⟨fun g3 => fin 0 (no ?_), fun g3 => fin 1 (ye ?_)⟩⟩⟩⟩
  · cases u : okB Ns (dg Np cq) i with
    | true => exact absurd g (hi0.mpr u)
    | false => rw [okB, u]; rfl
  · rw [okB, decide_eq_false (hrs.mp g1)]; simp
  · rw [okB, hi0.mp g, decide_eq_true (Nat.not_lt.mp (fun z => g1 (hrs.mpr (Nat.not_le.mpr z)))), decide_eq_true (hrn.mp g2)]; rfl
  · have h0 : dg Np cq i ≠ 0 := fun z => g2 (hrn.mpr z)
    rw [er h0, b_test _ (by omega), htk _ (by omega), show dg Np cq i - 1 + 1 = dg Np cq i by omega] at g3
    have u : usd (dg Np cq) (dg Np cq i) i = true := by
      cases u : usd (dg Np cq) (dg Np cq i) i with
      | true => rfl
      | false => exact absurd u g3
    rw [okB, u, decide_eq_false h0]; simp
  · have h0 : dg Np cq i ≠ 0 := fun z => g2 (hrn.mpr z)
    rw [er h0, b_test _ (by omega), htk _ (by omega), show dg Np cq i - 1 + 1 = dg Np cq i by omega] at g3
    rw [okB, hi0.mp g, decide_eq_true (Nat.not_lt.mp (fun z => g1 (hrs.mpr (Nat.not_le.mpr z)))), g3]; simp
theorem k_X8_isSeating (l : Launch) (G : Gt) (m0 m1 m2 m3 m4 m5 m6 m7 m8 m9 m10 m11 m12 m13 m14 : Nat) (sz : Nat) (mw : Nat → Int64) (ik : Nat → Int32) (zs : Nat → Int32) (cl : Nat → Int32) (hs : Nat → Int32) (ks : Nat → Int32) (wa : Nat → Int32) (ne : Nat → Int32) (mn : Nat → Int32) (tx : Nat → Int32) (th : Nat → Int32) (od : Nat → Int32) (bk : Nat → Int32) (bh : Nat → Int32) (fu : Int32) (fd : Int32) (fi : Int32) (nu : Int32) (nw : Int32) (nf : Int32) (bf : Int32) (bn : Int32) (ts : Int32) (ap : Int32) (fs : Int32) (ln : Int32) (fo : Int32) (fa : Int32) (wr : Int32) (x : Int32) (cq : Nat) (Ns : Nat) (Np : Nat) (hp : x = nI cq ∧ cq < 10000 ∧ mn 0 = nI Ns ∧ mn 1 = nI Np ∧ Ns ≤ 9 ∧ Np ≤ 4) : MetI l yX8_isSeating wsX8_isSeating 1 24 G [.ref m0, .int x] [(m0, .inr (8, [.ref m1, .ref m2, .ref m3, .ref m4, .ref m5, .ref m6, .ref m7, .ref m8, .ref m9, .int fu, .int fd, .int fi, .int nu, .int nw, .int nf, .int bf, .int bn, .ref m10, .int ts, .int ap, .int fs, .int ln, .int fo, .int fa, .ref m11, .ref m12, .ref m13, .ref m14, .int wr])), aJ G m1 560 mw, aZ G m2 2 ik, aI G m3 20 zs, aI G m4 20 cl, aI G m5 20 hs, aI G m6 20 ks, aI G m7 20 wa, aI G m8 20 ne, aI G m9 4 mn, aI G m10 400 tx, aI G m11 6 th, aI G m12 6 od, aI G m13 30 bk, aI G m14 30 bh] sz (fun (r : Int32) (_ : Unit) => r = (if okB Ns (dg Np cq) Np = true then 1 else 0)) (fun (_ : Unit) => [(m0, .inr (8, [.ref m1, .ref m2, .ref m3, .ref m4, .ref m5, .ref m6, .ref m7, .ref m8, .ref m9, .int fu, .int fd, .int fi, .int nu, .int nw, .int nf, .int bf, .int bn, .ref m10, .int ts, .int ap, .int fs, .int ln, .int fo, .int fa, .ref m11, .ref m12, .ref m13, .ref m14, .int wr])), aJ G m1 560 mw, aZ G m2 2 ik, aI G m3 20 zs, aI G m4 20 cl, aI G m5 20 hs, aI G m6 20 ks, aI G m7 20 wa, aI G m8 20 ne, aI G m9 4 mn, aI G m10 400 tx, aI G m11 6 th, aI G m12 6 od, aI G m13 30 bk, aI G m14 30 bh]) :=
  c_X8_isSeating l G m0 m1 m2 m3 m4 m5 m6 m7 m8 m9 m10 m11 m12 m13 m14 sz mw ik zs cl hs ks wa ne mn tx th od bk bh fu fd fi nu nw nf bf bn ts ap fs ln fo fa wr x cq Ns Np (v_X8_isSeating l G m0 m1 m2 m3 m4 m5 m6 m7 m8 m9 m10 m11 m12 m13 m14 sz mw ik zs cl hs ks wa ne mn tx th od bk bh fu fd fi nu nw nf bf bn ts ap fs ln fo fa wr x cq Ns Np hp)

set_option maxHeartbeats 4000000 in
set_option maxRecDepth 100000 in
theorem c_X8_leastWarmth (l : Launch) (G : Gt) (m0 m1 m2 m3 m4 m5 m6 m7 m8 m9 m10 m11 m12 m13 m14 : Nat) (sz : Nat) (mw : Nat → Int64) (ik : Nat → Int32) (zs : Nat → Int32) (cl : Nat → Int32) (hs : Nat → Int32) (ks : Nat → Int32) (wa : Nat → Int32) (ne : Nat → Int32) (mn : Nat → Int32) (tx : Nat → Int32) (th : Nat → Int32) (od : Nat → Int32) (bk : Nat → Int32) (bh : Nat → Int32) (fu : Int32) (fd : Int32) (fi : Int32) (nu : Int32) (nw : Int32) (nf : Int32) (bf : Int32) (bn : Int32) (ts : Int32) (ap : Int32) (fs : Int32) (ln : Int32) (fo : Int32) (fa : Int32) (wr : Int32) (Np : Nat) (v : Nat → Int) (hv : ∀ (y_1 : Int64), (y_1 = (mw 150)) → (∃ (I11_4 : Int64 → Int32 → Prop) (μ11_5 : Int64 → Int32 → Nat), I11_4 y_1 1 ∧ (∀ (x1_2 : Int64) (x3_3 : Int32), I11_4 x1_2 x3_3 → ((mn 1) ≤ x3_3 → x1_2.toInt = zLw v Np) ∧ (¬ ((mn 1) ≤ x3_3) → (vp_in (150 + x3_3) 560) ∧ (∀ (y_10 : Int64), (y_10 = (if x1_2 < (mw (150 + x3_3).toNatClampNeg) then x1_2 else (mw (150 + x3_3).toNatClampNeg))) → (I11_4 y_10 (x3_3 + 1) ∧ μ11_5 y_10 (x3_3 + 1) < μ11_5 x1_2 x3_3)))))) : MetL l yX8_leastWarmth wsX8_leastWarmth 1 23 G [.ref m0] [(m0, .inr (8, [.ref m1, .ref m2, .ref m3, .ref m4, .ref m5, .ref m6, .ref m7, .ref m8, .ref m9, .int fu, .int fd, .int fi, .int nu, .int nw, .int nf, .int bf, .int bn, .ref m10, .int ts, .int ap, .int fs, .int ln, .int fo, .int fa, .ref m11, .ref m12, .ref m13, .ref m14, .int wr])), aJ G m1 560 mw, aZ G m2 2 ik, aI G m3 20 zs, aI G m4 20 cl, aI G m5 20 hs, aI G m6 20 ks, aI G m7 20 wa, aI G m8 20 ne, aI G m9 4 mn, aI G m10 400 tx, aI G m11 6 th, aI G m12 6 od, aI G m13 30 bk, aI G m14 30 bh] sz (fun (r : Int64) (_ : Unit) => r.toInt = zLw v Np) (fun (_ : Unit) => [(m0, .inr (8, [.ref m1, .ref m2, .ref m3, .ref m4, .ref m5, .ref m6, .ref m7, .ref m8, .ref m9, .int fu, .int fd, .int fi, .int nu, .int nw, .int nf, .int bf, .int bn, .ref m10, .int ts, .int ap, .int fs, .int ln, .int fo, .int fa, .ref m11, .ref m12, .ref m13, .ref m14, .int wr])), aJ G m1 560 mw, aZ G m2 2 ik, aI G m3 20 zs, aI G m4 20 cl, aI G m5 20 hs, aI G m6 20 ks, aI G m7 20 wa, aI G m8 20 ne, aI G m9 4 mn, aI G m10 400 tx, aI G m11 6 th, aI G m12 6 od, aI G m13 30 bk, aI G m14 30 bh]) := by
  refine x_startL (cc := cX8_leastWarmth) (maxL := 4) (ret := (some .long)) (by decide) rfl (Nat.le_of_ble_eq_true rfl) ?_
  intro p e s m args below meth c A R Q ls hRf hRl hQ C hP hD hS hA hSS hl
  obtain ⟨hx, hb, hr, hml, hown, hts, hlocks, hKK⟩ := C
  have hown : s.vm.findClass RX8 = some m.cls := hown
  have hl : lv_has ls 4 [(0, .ref m0)] := hl
  have hinX8 : ∀ w ∈ u_ws RX8 TX8 29, w ∈ wsX8_leastWarmth := by decide +kernel
  have kl36 := hts (.fieldLink RX8 36 "WarmStonesModel" "many" "[I") (by decide +kernel)
  have kl7 := hts (.fieldLink RX8 7 "WarmStonesModel" "w" "[J") (by decide +kernel)
  refine lv_aload_n hx hb dX8_leastWarmth_0 rfl (lv_at hl 0 rfl) ?_
  refine va_get (D := G.1) (ci := 8) (v := .ref m1) (C := RX8) (T := TX8) (N := 29) hx hb hts hinX8 hown hKK.1 hP 0 rfl rfl 0 (by decide) kl7 (fun _ h9 => h9) rfl dX8_leastWarmth_1 ?_
  refine lv_sipush (v := 150) hx hb dX8_leastWarmth_4 (by decide) ?_
  refine va_lald hx hb hKK.1 hP 1 2 rfl rfl (by unfold vp_in; decide) dX8_leastWarmth_7 ?_
  refine lv_topl (fun y_1 ey => ?_)
  have hv := hv y_1 ey
  refine lv_lstore_n (lv' := [(1, .long y_1), (0, .ref m0)]) hx hb dX8_leastWarmth_8 rfl hl (by decide) rfl (fun ls hl => ?_)
  refine lv_iconst (v := 1) hx hb dX8_leastWarmth_9 (by decide) ?_
  refine lv_istore_n (lv' := [(3, .int 1), (1, .long y_1), (0, .ref m0)]) hx hb dX8_leastWarmth_10 rfl hl (by decide) rfl (fun ls hl => ?_)
  obtain ⟨I11_4, μ11_5, hi0, hs_11⟩ := hv
  have Lm_13 : ∀ (n_12 : Nat) (x1_2 : Int64) (x3_3 : Int32) (H : Heap) (locs : List Loc) (ls : Array Slot), μ11_5 x1_2 x3_3 < n_12 → I11_4 x1_2 x3_3 → va_P G.1 vwCl [(m0, .inr (8, [.ref m1, .ref m2, .ref m3, .ref m4, .ref m5, .ref m6, .ref m7, .ref m8, .ref m9, .int fu, .int fd, .int fi, .int nu, .int nw, .int nf, .int bf, .int bn, .ref m10, .int ts, .int ap, .int fs, .int ln, .int fo, .int fa, .ref m11, .ref m12, .ref m13, .ref m14, .int wr])), aJ G m1 560 mw, aZ G m2 2 ik, aI G m3 20 zs, aI G m4 20 cl, aI G m5 20 hs, aI G m6 20 ks, aI G m7 20 wa, aI G m8 20 ne, aI G m9 4 mn, aI G m10 400 tx, aI G m11 6 th, aI G m12 6 od, aI G m13 30 bk, aI G m14 30 bh] H → va_D A [(m0, .inr (8, [.ref m1, .ref m2, .ref m3, .ref m4, .ref m5, .ref m6, .ref m7, .ref m8, .ref m9, .int fu, .int fd, .int fi, .int nu, .int nw, .int nf, .int bf, .int bn, .ref m10, .int ts, .int ap, .int fs, .int ln, .int fo, .int fa, .ref m11, .ref m12, .ref m13, .ref m14, .int wr])), aJ G m1 560 mw, aZ G m2 2 ik, aI G m3 20 zs, aI G m4 20 cl, aI G m5 20 hs, aI G m6 20 ks, aI G m7 20 wa, aI G m8 20 ne, aI G m9 4 mn, aI G m10 400 tx, aI G m11 6 th, aI G m12 6 od, aI G m13 30 bk, aI G m14 30 bh] → va_S A s.heap H locs → lv_has ls 4 [(3, .int x3_3), (1, .long x1_2), (0, .ref m0)] → W p l e R s m args below meth c H locs 0 0 Q (F0 m 11 ls []) := by
    intro n_12
    induction n_12 with
    | zero => intro x1_2 x3_3 H locs ls hm; exact absurd hm (Nat.not_lt_zero _)
    | succ n_12 ih_6 =>
      intro x1_2 x3_3 H locs ls hI_7 hi hP hD hS hl
      have hv := hs_11 x1_2 x3_3 hi
      refine lv_iload_n hx hb dX8_leastWarmth_11 rfl (lv_at hl 0 rfl) ?_
      refine lv_aload_n hx hb dX8_leastWarmth_12 rfl (lv_at hl 2 rfl) ?_
      refine va_get (D := G.1) (ci := 8) (v := .ref m9) (C := RX8) (T := TX8) (N := 29) hx hb hts hinX8 hown hKK.1 hP 0 rfl rfl 8 (by decide) kl36 (fun _ h9 => h9) rfl dX8_leastWarmth_13 ?_
      refine lv_iconst (v := 1) hx hb dX8_leastWarmth_16 (by decide) ?_
      refine va_iald hx hb hKK.1 hP 9 0 rfl rfl (by unfold vp_in; decide) dX8_leastWarmth_17 ?_
      refine lv_icmp_ge (tgt := 42) hx hb dX8_leastWarmth_18 (by decide) (fun hc_8 => ?_) (fun hc_8 => ?_)
      · have hv := hv.1 hc_8
        refine lv_lload_n hx hb dX8_leastWarmth_42 rfl (lv_at hl 1 rfl) ?_
        exact x_lret (v := x1_2) () hQ hx hb hr hlocks hS dX8_leastWarmth_43 hv hP hD
      · have hv := hv.2 hc_8
        refine lv_lload_n hx hb dX8_leastWarmth_21 rfl (lv_at hl 1 rfl) ?_
        refine lv_aload_n hx hb dX8_leastWarmth_22 rfl (lv_at hl 2 rfl) ?_
        refine va_get (D := G.1) (ci := 8) (v := .ref m1) (C := RX8) (T := TX8) (N := 29) hx hb hts hinX8 hown hKK.1 hP 0 rfl rfl 0 (by decide) kl7 (fun _ h9 => h9) rfl dX8_leastWarmth_23 ?_
        refine lv_sipush (v := 150) hx hb dX8_leastWarmth_26 (by decide) ?_
        refine lv_iload_n hx hb dX8_leastWarmth_29 rfl (lv_at hl 0 rfl) ?_
        refine lv_iadd hx hb dX8_leastWarmth_30 ?_
        obtain ⟨hin, hv⟩ := hv
        refine va_lald hx hb hKK.1 hP 1 2 rfl rfl hin dX8_leastWarmth_31 ?_
        refine x_calllR (x_runS (As := [.long x1_2, .long (mw (150 + x3_3).toNatClampNeg)]) (rest := []) (n := 2) ⟨hx, hb, hml, hown, hts⟩ (k_X8_less l G  _ x1_2 (mw (150 + x3_3).toNatClampNeg)) gX8_leastWarmth_X8_less rfl (by decide +kernel) ⟨Nat.le_trans (Nat.le_of_ble_eq_true rfl) hRf, Nat.le_trans (Nat.le_of_ble_eq_true rfl) hRl⟩ hKK hSS hS hA hP hD [] (by decide) rfl rfl hl.1 rfl (Nat.le_of_ble_eq_true rfl) dX8_leastWarmth_32) hP hD hS hA [] rfl (fun r_9 _ H locs hw hP hS => ?_)
        replace hw := hw.symm; subst hw
        refine lv_topl (fun y_10 ey => ?_)
        have hv := hv y_10 ey
        refine lv_lstore_n (lv' := [(1, .long y_10), (3, .int x3_3), (0, .ref m0)]) hx hb dX8_leastWarmth_35 rfl hl (by decide) rfl (fun ls hl => ?_)
        refine lv_iinc (v := (x3_3 + 1)) (lv' := [(3, .int (x3_3 + 1)), (1, .long y_10), (0, .ref m0)]) hx hb dX8_leastWarmth_36 hl (k := 1) rfl rfl (by decide) rfl (fun ls hl => ?_)
        refine lv_goto (tgt := 11) hx hb dX8_leastWarmth_39 (by decide) ?_
        exact ih_6 _ _ _ _ _ (Nat.lt_of_lt_of_le hv.2 (Nat.le_of_lt_succ hI_7)) hv.1 hP hD hS hl
  exact Lm_13 _ _ _ _ _ _ (Nat.lt_succ_self _) hi0 hP hD hS hl
theorem v_X8_leastWarmth (l : Launch) (G : Gt) (m0 m1 m2 m3 m4 m5 m6 m7 m8 m9 m10 m11 m12 m13 m14 : Nat) (sz : Nat) (mw : Nat → Int64) (ik : Nat → Int32) (zs : Nat → Int32) (cl : Nat → Int32) (hs : Nat → Int32) (ks : Nat → Int32) (wa : Nat → Int32) (ne : Nat → Int32) (mn : Nat → Int32) (tx : Nat → Int32) (th : Nat → Int32) (od : Nat → Int32) (bk : Nat → Int32) (bh : Nat → Int32) (fu : Int32) (fd : Int32) (fi : Int32) (nu : Int32) (nw : Int32) (nf : Int32) (bf : Int32) (bn : Int32) (ts : Int32) (ap : Int32) (fs : Int32) (ln : Int32) (fo : Int32) (fa : Int32) (wr : Int32) (Np : Nat) (v : Nat → Int) (hp : mn 1 = nI Np ∧ 1 ≤ Np ∧ Np ≤ 4 ∧ MR 140 mw v ∧ (∀ i, i < Np → v (10 + i) ≤ 9999)) : ∀ (y_1 : Int64), (y_1 = (mw 150)) → (∃ (I11_4 : Int64 → Int32 → Prop) (μ11_5 : Int64 → Int32 → Nat), I11_4 y_1 1 ∧ (∀ (x1_2 : Int64) (x3_3 : Int32), I11_4 x1_2 x3_3 → ((mn 1) ≤ x3_3 → x1_2.toInt = zLw v Np) ∧ (¬ ((mn 1) ≤ x3_3) → (vp_in (150 + x3_3) 560) ∧ (∀ (y_10 : Int64), (y_10 = (if x1_2 < (mw (150 + x3_3).toNatClampNeg) then x1_2 else (mw (150 + x3_3).toNatClampNeg))) → (I11_4 y_10 (x3_3 + 1) ∧ μ11_5 y_10 (x3_3 + 1) < μ11_5 x1_2 x3_3))))) := by
  obtain ⟨hnp, h1, h4, hR, hb⟩ := hp
  intro y0 ey0
  have e0 : y0.toInt = zLw v 1 := by
    rw [ey0]
    have h2 : (mw 150).toInt = v 10 := hR 10 (by omega)
    have h3 := hb 0 (by omega)
    rw [h2, zLw, zLw]
    unfold minZ
    rw [Nat.add_zero] at h3 ⊢
    split <;> omega
  refine ⟨fun a z => ∃ p, 1 ≤ p ∧ p ≤ Np ∧ z = nI p ∧ a.toInt = zLw v p, fun _ z => 5 - z.toNatClampNeg, ⟨1, by omega, h1, rfl, e0⟩, ?_⟩
  rintro a z ⟨p, hp1, hp2, rfl, ha⟩
  have ep : (nI p).toNatClampNeg = p := nI_clamp (by omega)
  have ep1 : nI p + 1 = nI (p + 1) := nI_1 p
  have ep2 : (nI (p + 1)).toNatClampNeg = p + 1 := nI_clamp (by omega)
  have e150 : 150 + nI p = nI (150 + p) := ix1 150 p
  have c150 : (nI (150 + p)).toNatClampNeg = 140 + (10 + p) := by rw [nI_clamp (by omega)]; omega
  have v150 : vp_in (nI (150 + p)) 560 := vp_in_nI (by omega) (by omega)
  have hle : nI Np ≤ nI p ↔ Np ≤ p := nI_leI (by omega) (by omega)
  simp only [ep, ep1, ep2, e150, c150, hnp, hle]
  refine ⟨fun q => ?_, fun q => ⟨v150, fun y ey => ⟨⟨p + 1, by omega, by omega, rfl, ?_⟩, by omega⟩⟩⟩
  · have e : p = Np := by omega
    subst e; exact ha
  · rw [ey, zLw]
    exact l_min ha (hR (10 + p) (by omega))
theorem k_X8_leastWarmth (l : Launch) (G : Gt) (m0 m1 m2 m3 m4 m5 m6 m7 m8 m9 m10 m11 m12 m13 m14 : Nat) (sz : Nat) (mw : Nat → Int64) (ik : Nat → Int32) (zs : Nat → Int32) (cl : Nat → Int32) (hs : Nat → Int32) (ks : Nat → Int32) (wa : Nat → Int32) (ne : Nat → Int32) (mn : Nat → Int32) (tx : Nat → Int32) (th : Nat → Int32) (od : Nat → Int32) (bk : Nat → Int32) (bh : Nat → Int32) (fu : Int32) (fd : Int32) (fi : Int32) (nu : Int32) (nw : Int32) (nf : Int32) (bf : Int32) (bn : Int32) (ts : Int32) (ap : Int32) (fs : Int32) (ln : Int32) (fo : Int32) (fa : Int32) (wr : Int32) (Np : Nat) (v : Nat → Int) (hp : mn 1 = nI Np ∧ 1 ≤ Np ∧ Np ≤ 4 ∧ MR 140 mw v ∧ (∀ i, i < Np → v (10 + i) ≤ 9999)) : MetL l yX8_leastWarmth wsX8_leastWarmth 1 23 G [.ref m0] [(m0, .inr (8, [.ref m1, .ref m2, .ref m3, .ref m4, .ref m5, .ref m6, .ref m7, .ref m8, .ref m9, .int fu, .int fd, .int fi, .int nu, .int nw, .int nf, .int bf, .int bn, .ref m10, .int ts, .int ap, .int fs, .int ln, .int fo, .int fa, .ref m11, .ref m12, .ref m13, .ref m14, .int wr])), aJ G m1 560 mw, aZ G m2 2 ik, aI G m3 20 zs, aI G m4 20 cl, aI G m5 20 hs, aI G m6 20 ks, aI G m7 20 wa, aI G m8 20 ne, aI G m9 4 mn, aI G m10 400 tx, aI G m11 6 th, aI G m12 6 od, aI G m13 30 bk, aI G m14 30 bh] sz (fun (r : Int64) (_ : Unit) => r.toInt = zLw v Np) (fun (_ : Unit) => [(m0, .inr (8, [.ref m1, .ref m2, .ref m3, .ref m4, .ref m5, .ref m6, .ref m7, .ref m8, .ref m9, .int fu, .int fd, .int fi, .int nu, .int nw, .int nf, .int bf, .int bn, .ref m10, .int ts, .int ap, .int fs, .int ln, .int fo, .int fa, .ref m11, .ref m12, .ref m13, .ref m14, .int wr])), aJ G m1 560 mw, aZ G m2 2 ik, aI G m3 20 zs, aI G m4 20 cl, aI G m5 20 hs, aI G m6 20 ks, aI G m7 20 wa, aI G m8 20 ne, aI G m9 4 mn, aI G m10 400 tx, aI G m11 6 th, aI G m12 6 od, aI G m13 30 bk, aI G m14 30 bh]) :=
  c_X8_leastWarmth l G m0 m1 m2 m3 m4 m5 m6 m7 m8 m9 m10 m11 m12 m13 m14 sz mw ik zs cl hs ks wa ne mn tx th od bk bh fu fd fi nu nw nf bf bn ts ap fs ln fo fa wr Np v (v_X8_leastWarmth l G m0 m1 m2 m3 m4 m5 m6 m7 m8 m9 m10 m11 m12 m13 m14 sz mw ik zs cl hs ks wa ne mn tx th od bk bh fu fd fi nu nw nf bf bn ts ap fs ln fo fa wr Np v hp)

set_option maxHeartbeats 4000000 in
set_option maxRecDepth 100000 in
theorem c_X8_seating (l : Launch) (G : Gt) (m0 m1 m2 m3 m4 m5 m6 m7 m8 m9 m10 m11 m12 m13 m14 : Nat) (sz : Nat) (mw : Nat → Int64) (ik : Nat → Int32) (zs : Nat → Int32) (cl : Nat → Int32) (hs : Nat → Int32) (ks : Nat → Int32) (wa : Nat → Int32) (ne : Nat → Int32) (mn : Nat → Int32) (tx : Nat → Int32) (th : Nat → Int32) (od : Nat → Int32) (bk : Nat → Int32) (bh : Nat → Int32) (fu : Int32) (fd : Int32) (fi : Int32) (nu : Int32) (nw : Int32) (nf : Int32) (bf : Int32) (bn : Int32) (ts : Int32) (ap : Int32) (fs : Int32) (ln : Int32) (fo : Int32) (fa : Int32) (wr : Int32) (x : Int32) (y : Int32) (T : Nat → Nat → Int) (Ns : Nat) (Np : Nat) (v : Nat → Int) (M : Int) (hv : (¬ (¬ x.toInt64 < 1 ∧ ¬ 60 < x.toInt64) → ((-1000000002) : Int32).toInt = aSeating T Ns Np v x.toInt y.toInt ∧ MF 140 mw mw) ∧ (¬ x.toInt64 < 1 ∧ ¬ 60 < x.toInt64 → (¬ y.toInt64 < 0 ∧ ¬ ((1 + (mn 1)).toInt64) < y.toInt64 → (¬ ((mn 1).toInt64) < 1 ∧ ¬ 4 < ((mn 1).toInt64) → ∃ (I58_9 : Int32 → Int32 → Prop) (μ58_10 : Int32 → Int32 → Nat), I58_9 1 0 ∧ (∀ (x3_7 : Int32) (x4_8 : Int32), I58_9 x3_7 x4_8 → ((mn 1) ≤ x4_8 → ∃ (I92_19 : (Nat → Int64) → Int32 → Int64 → Int64 → Int32 → Prop) (μ92_20 : (Nat → Int64) → Int32 → Int64 → Int64 → Int32 → Nat), I92_19 mw (-1) 0 0 0 ∧ (∀ (fm1_14 : (Nat → Int64)) (x4_15 : Int32) (x5_16 : Int64) (x7_17 : Int64) (x9_18 : Int32), I92_19 fm1_14 x4_15 x5_16 x7_17 x9_18 → (x3_7 ≤ x9_18 → (¬ y = 0 → (¬ y = 1 → ∃ (gcq_26 : Nat) (gip_27 : Nat) (gnq_28 : Nat), ((x4_15 = nI gcq_26 ∧ gcq_26 < 10000 ∧ (y - 2) = nI gip_27 ∧ gip_27 < gnq_28 ∧ (mn 1) = nI gnq_28 ∧ gnq_28 ≤ 4) ∧ (∀ (r_29 : Int32), (r_29.toInt = (dg gnq_28 gcq_26 gip_27 : Int) - 1) → (r_29.toInt = aSeating T Ns Np v x.toInt y.toInt ∧ MF 140 mw fm1_14)))) ∧ (y = 1 → x7_17.toInt32.toInt = aSeating T Ns Np v x.toInt y.toInt ∧ MF 140 mw fm1_14)) ∧ (y = 0 → x5_16.toInt32.toInt = aSeating T Ns Np v x.toInt y.toInt ∧ MF 140 mw fm1_14)) ∧ (¬ (x3_7 ≤ x9_18) → ∃ (gcq_30 : Nat) (gNs_31 : Nat) (gNp_32 : Nat), ((x9_18 = nI gcq_30 ∧ gcq_30 < 10000 ∧ mn 0 = nI gNs_31 ∧ mn 1 = nI gNp_32 ∧ gNs_31 ≤ 9 ∧ gNp_32 ≤ 4) ∧ (∀ (r_33 : Int32), (r_33 = (if okB gNs_31 (dg gNp_32 gcq_30) gNp_32 = true then 1 else 0)) → ((r_33 = 0 → I92_19 fm1_14 x4_15 x5_16 x7_17 (x9_18 + 1) ∧ μ92_20 fm1_14 x4_15 x5_16 x7_17 (x9_18 + 1) < μ92_20 fm1_14 x4_15 x5_16 x7_17 x9_18) ∧ (¬ (r_33 = 0) → ∃ (gv_35 : Nat → Int), ((MR 0 fm1_14 gv_35) ∧ (∀ (mw2_37 : Nat → Int64), (MR 140 mw2_37 (zUp gv_35) ∧ MF 140 fm1_14 mw2_37) → (∃ (I114_40 : (Nat → Int64) → Int32 → Prop) (μ114_41 : (Nat → Int64) → Int32 → Nat), I114_40 mw2_37 0 ∧ (∀ (fm1_38 : (Nat → Int64)) (x10_39 : Int32), I114_40 fm1_38 x10_39 → ((mn 1) ≤ x10_39 → ∃ (I159_47 : (Nat → Int64) → Int32 → Prop) (μ159_48 : (Nat → Int64) → Int32 → Nat), I159_47 fm1_38 0 ∧ (∀ (fm1_45 : (Nat → Int64)) (x10_46 : Int32), I159_47 fm1_45 x10_46 → (x ≤ x10_46 → ∃ (gT_52 : Nat → Nat → Int) (gNs_53 : Nat) (gNp_54 : Nat) (gX_55 : Nat) (gv_56 : Nat → Int) (gM_57 : Int), ((TOK gT_52 gNs_53 gNp_54 ∧ MT gT_52 gNs_53 gNp_54 fu fd fi zs cl ks ne mn ∧ (140 : Int32) = nI gX_55 ∧ gX_55 + 140 ≤ 560 ∧ MR gX_55 fm1_45 gv_56 ∧ NOK gT_52 gNs_53 gNp_54 (fun _ => 2 * gM_57) gM_57 gv_56 ∧ gM_57 ≤ 1000000) ∧ (∀ (r_58 : Int64), (r_58.toInt = zSum gv_56 30 gNp_54) → (∃ (gNp_59 : Nat) (gv_60 : Nat → Int), ((mn 1 = nI gNp_59 ∧ 1 ≤ gNp_59 ∧ gNp_59 ≤ 4 ∧ MR 140 fm1_45 gv_60 ∧ (∀ i, i < gNp_59 → gv_60 (10 + i) ≤ 9999)) ∧ (∀ (r_61 : Int64), (r_61.toInt = zLw gv_60 gNp_59) → ((x4_15 < 0 → I92_19 fm1_45 x9_18 r_58 r_61 (x9_18 + 1) ∧ μ92_20 fm1_45 x9_18 r_58 r_61 (x9_18 + 1) < μ92_20 fm1_14 x4_15 x5_16 x7_17 x9_18) ∧ (¬ (x4_15 < 0) → (r_58 < x5_16 → I92_19 fm1_45 x9_18 r_58 r_61 (x9_18 + 1) ∧ μ92_20 fm1_45 x9_18 r_58 r_61 (x9_18 + 1) < μ92_20 fm1_14 x4_15 x5_16 x7_17 x9_18) ∧ (¬ (r_58 < x5_16) → (¬ r_58 = x5_16 → I92_19 fm1_45 x4_15 x5_16 x7_17 (x9_18 + 1) ∧ μ92_20 fm1_45 x4_15 x5_16 x7_17 (x9_18 + 1) < μ92_20 fm1_14 x4_15 x5_16 x7_17 x9_18) ∧ (r_58 = x5_16 → (r_61 ≤ x7_17 → I92_19 fm1_45 x4_15 x5_16 x7_17 (x9_18 + 1) ∧ μ92_20 fm1_45 x4_15 x5_16 x7_17 (x9_18 + 1) < μ92_20 fm1_14 x4_15 x5_16 x7_17 x9_18) ∧ (¬ (r_61 ≤ x7_17) → I92_19 fm1_45 x9_18 r_58 r_61 (x9_18 + 1) ∧ μ92_20 fm1_45 x9_18 r_58 r_61 (x9_18 + 1) < μ92_20 fm1_14 x4_15 x5_16 x7_17 x9_18))))))))))) ∧ (¬ (x ≤ x10_46) → ∃ (gT_66 : Nat → Nat → Int) (gNs_67 : Nat) (gNp_68 : Nat) (gX_69 : Nat) (gv_70 : Nat → Int) (gM_71 : Int), ((TOK gT_66 gNs_67 gNp_68 ∧ MT gT_66 gNs_67 gNp_68 fu fd fi zs cl ks ne mn ∧ (140 : Int32) = nI gX_69 ∧ gX_69 + 140 ≤ 560 ∧ MR gX_69 fm1_45 gv_70 ∧ NOK gT_66 gNs_67 gNp_68 (fun _ => 2 * gM_71) gM_71 gv_70 ∧ gM_71 ≤ 1000000) ∧ (∀ (r_72 : Int32) (mw2_73 : Nat → Int64), (r_72 = nI (zCs gT_66 (zPass gT_66 gNs_67 gNp_68 gv_70) gNp_68) ∧ MR gX_69 mw2_73 (zPass gT_66 gNs_67 gNp_68 gv_70) ∧ MF gX_69 fm1_45 mw2_73) → (I159_47 mw2_73 (x10_46 + 1) ∧ μ159_48 mw2_73 (x10_46 + 1) < μ159_48 fm1_45 x10_46)))))) ∧ (¬ ((mn 1) ≤ x10_39) → ∃ (gcq_77 : Nat) (gip_78 : Nat) (gnq_79 : Nat), ((x9_18 = nI gcq_77 ∧ gcq_77 < 10000 ∧ x10_39 = nI gip_78 ∧ gip_78 < gnq_79 ∧ (mn 1) = nI gnq_79 ∧ gnq_79 ≤ 4) ∧ (∀ (r_80 : Int32), (r_80.toInt = (dg gnq_79 gcq_77 gip_78 : Int) - 1) → ((vp_in (160 + x10_39) 560) ∧ (∀ (fm1_81 : (Nat → Int64)), (fm1_81 = (vp_updL fm1_38 ((160 + x10_39).toNatClampNeg) r_80.toInt64)) → (I114_40 fm1_81 (x10_39 + 1) ∧ μ114_41 fm1_81 (x10_39 + 1) < μ114_41 fm1_38 x10_39))))))))))))))))) ∧ (¬ ((mn 1) ≤ x4_8) → ∀ (y_88 : Int32), (y_88 = (x3_7 * 10)) → (I58_9 y_88 (x4_8 + 1) ∧ μ58_10 y_88 (x4_8 + 1) < μ58_10 x3_7 x4_8)))) ∧ (¬ (¬ ((mn 1).toInt64) < 1 ∧ ¬ 4 < ((mn 1).toInt64)) → ((-1000000003) : Int32).toInt = aSeating T Ns Np v x.toInt y.toInt ∧ MF 140 mw mw)) ∧ (¬ (¬ y.toInt64 < 0 ∧ ¬ ((1 + (mn 1)).toInt64) < y.toInt64) → ((-1000000002) : Int32).toInt = aSeating T Ns Np v x.toInt y.toInt ∧ MF 140 mw mw))) : MetI l yX8_seating wsX8_seating 4 101 G [.ref m0, .int x, .int y] [(m0, .inr (8, [.ref m1, .ref m2, .ref m3, .ref m4, .ref m5, .ref m6, .ref m7, .ref m8, .ref m9, .int fu, .int fd, .int fi, .int nu, .int nw, .int nf, .int bf, .int bn, .ref m10, .int ts, .int ap, .int fs, .int ln, .int fo, .int fa, .ref m11, .ref m12, .ref m13, .ref m14, .int wr])), aJ G m1 560 mw, aZ G m2 2 ik, aI G m3 20 zs, aI G m4 20 cl, aI G m5 20 hs, aI G m6 20 ks, aI G m7 20 wa, aI G m8 20 ne, aI G m9 4 mn, aI G m10 400 tx, aI G m11 6 th, aI G m12 6 od, aI G m13 30 bk, aI G m14 30 bh] sz (fun (r : Int32) (u : (Nat → Int64)) => r.toInt = aSeating T Ns Np v x.toInt y.toInt ∧ MF 140 mw u) (fun (u : (Nat → Int64)) => [(m0, .inr (8, [.ref m1, .ref m2, .ref m3, .ref m4, .ref m5, .ref m6, .ref m7, .ref m8, .ref m9, .int fu, .int fd, .int fi, .int nu, .int nw, .int nf, .int bf, .int bn, .ref m10, .int ts, .int ap, .int fs, .int ln, .int fo, .int fa, .ref m11, .ref m12, .ref m13, .ref m14, .int wr])), aJ G m1 560 u, aZ G m2 2 ik, aI G m3 20 zs, aI G m4 20 cl, aI G m5 20 hs, aI G m6 20 ks, aI G m7 20 wa, aI G m8 20 ne, aI G m9 4 mn, aI G m10 400 tx, aI G m11 6 th, aI G m12 6 od, aI G m13 30 bk, aI G m14 30 bh]) := by
  refine x_startI (cc := cX8_seating) (maxL := 14) (ret := (some .int)) (by decide) rfl (Nat.le_of_ble_eq_true rfl) ?_
  intro p e s m args below meth c A R Q ls hRf hRl hQ C hP hD hS hA hSS hl
  obtain ⟨hx, hb, hr, hml, hown, hts, hlocks, hKK⟩ := C
  have hown : s.vm.findClass RX8 = some m.cls := hown
  have hl : lv_has ls 14 [(0, .ref m0), (1, .int x), (2, .int y)] := hl
  have hinX8 : ∀ w ∈ u_ws RX8 TX8 29, w ∈ wsX8_seating := by decide +kernel
  have kl171 := hts (.constantLong RX8 171 (4)) (by decide +kernel)
  have kl198 := hts (.constant RX8 198 (-1000000003)) (by decide +kernel)
  have kl234 := hts (.constantLong RX8 234 (60)) (by decide +kernel)
  have kl36 := hts (.fieldLink RX8 36 "WarmStonesModel" "many" "[I") (by decide +kernel)
  have kl7 := hts (.fieldLink RX8 7 "WarmStonesModel" "w" "[J") (by decide +kernel)
  have kl73 := hts (.constant RX8 73 (-1000000002)) (by decide +kernel)
  refine lv_iload_n hx hb dX8_seating_0 rfl (lv_at hl 1 rfl) ?_
  refine lv_i2l hx hb dX8_seating_1 rfl ?_
  refine lv_lconst (v := 1) hx hb dX8_seating_2 (by decide) ?_
  refine lv_ldc2 (v := 60) hx hb hown kl234 dX8_seating_3 ?_
  refine x_calliR (x_runS (As := [.long x.toInt64, .long 1, .long 60]) (rest := []) (n := 3) ⟨hx, hb, hml, hown, hts⟩ (k_X8_in l G  _ x.toInt64 1 60) gX8_seating_X8_in rfl (by decide +kernel) ⟨Nat.le_trans (Nat.le_of_ble_eq_true rfl) hRf, Nat.le_trans (Nat.le_of_ble_eq_true rfl) hRl⟩ hKK hSS hS hA hP hD [] (by decide) rfl rfl hl.1 rfl (Nat.le_of_ble_eq_true rfl) dX8_seating_6) hP hD hS hA [] rfl (fun r_1 _ H locs hw hP hS => ?_)
  replace hw := hw.symm; subst hw
  refine lv_if_eq (tgt := 30) hx hb dX8_seating_9 (by decide) (fun hc_2 => ?_) (fun hc_2 => ?_)
  · have hv := hv.1 (tv_eq.mp hc_2)
    refine lv_ldc (v := (-1000000002)) hx hb hown kl73 dX8_seating_30 ?_
    exact x_iret (v := (-1000000002)) mw hQ hx hb hr hlocks hS dX8_seating_32 hv hP hD
  · have hv := hv.2 (tv_eqn.mp hc_2)
    refine lv_iload_n hx hb dX8_seating_12 rfl (lv_at hl 2 rfl) ?_
    refine lv_i2l hx hb dX8_seating_13 rfl ?_
    refine lv_lconst (v := 0) hx hb dX8_seating_14 (by decide) ?_
    refine lv_iconst (v := 1) hx hb dX8_seating_15 (by decide) ?_
    refine lv_aload_n hx hb dX8_seating_16 rfl (lv_at hl 0 rfl) ?_
    refine va_get (D := G.1) (ci := 8) (v := .ref m9) (C := RX8) (T := TX8) (N := 29) hx hb hts hinX8 hown hKK.1 hP 0 rfl rfl 8 (by decide) kl36 (fun _ h9 => h9) rfl dX8_seating_17 ?_
    refine lv_iconst (v := 1) hx hb dX8_seating_20 (by decide) ?_
    refine va_iald hx hb hKK.1 hP 9 0 rfl rfl (by unfold vp_in; decide) dX8_seating_21 ?_
    refine lv_iadd hx hb dX8_seating_22 ?_
    refine lv_i2l hx hb dX8_seating_23 rfl ?_
    refine x_calliR (x_runS (As := [.long y.toInt64, .long 0, .long ((1 + (mn 1)).toInt64)]) (rest := []) (n := 3) ⟨hx, hb, hml, hown, hts⟩ (k_X8_in l G  _ y.toInt64 0 ((1 + (mn 1)).toInt64)) gX8_seating_X8_in rfl (by decide +kernel) ⟨Nat.le_trans (Nat.le_of_ble_eq_true rfl) hRf, Nat.le_trans (Nat.le_of_ble_eq_true rfl) hRl⟩ hKK hSS hS hA hP hD [] (by decide) rfl rfl hl.1 rfl (Nat.le_of_ble_eq_true rfl) dX8_seating_24) hP hD hS hA [] rfl (fun r_3 _ H locs hw hP hS => ?_)
    replace hw := hw.symm; subst hw
    refine lv_if_ne (tgt := 33) hx hb dX8_seating_27 (by decide) (fun hc_4 => ?_) (fun hc_4 => ?_)
    · have hv := hv.1 (tv_eqn.mp hc_4)
      refine lv_aload_n hx hb dX8_seating_33 rfl (lv_at hl 0 rfl) ?_
      refine va_get (D := G.1) (ci := 8) (v := .ref m9) (C := RX8) (T := TX8) (N := 29) hx hb hts hinX8 hown hKK.1 hP 0 rfl rfl 8 (by decide) kl36 (fun _ h9 => h9) rfl dX8_seating_34 ?_
      refine lv_iconst (v := 1) hx hb dX8_seating_37 (by decide) ?_
      refine va_iald hx hb hKK.1 hP 9 0 rfl rfl (by unfold vp_in; decide) dX8_seating_38 ?_
      refine lv_i2l hx hb dX8_seating_39 rfl ?_
      refine lv_lconst (v := 1) hx hb dX8_seating_40 (by decide) ?_
      refine lv_ldc2 (v := 4) hx hb hown kl171 dX8_seating_41 ?_
      refine x_calliR (x_runS (As := [.long ((mn 1).toInt64), .long 1, .long 4]) (rest := []) (n := 3) ⟨hx, hb, hml, hown, hts⟩ (k_X8_in l G  _ ((mn 1).toInt64) 1 4) gX8_seating_X8_in rfl (by decide +kernel) ⟨Nat.le_trans (Nat.le_of_ble_eq_true rfl) hRf, Nat.le_trans (Nat.le_of_ble_eq_true rfl) hRl⟩ hKK hSS hS hA hP hD [] (by decide) rfl rfl hl.1 rfl (Nat.le_of_ble_eq_true rfl) dX8_seating_44) hP hD hS hA [] rfl (fun r_5 _ H locs hw hP hS => ?_)
      replace hw := hw.symm; subst hw
      refine lv_if_ne (tgt := 53) hx hb dX8_seating_47 (by decide) (fun hc_6 => ?_) (fun hc_6 => ?_)
      · have hv := hv.1 (tv_eqn.mp hc_6)
        refine lv_iconst (v := 1) hx hb dX8_seating_53 (by decide) ?_
        refine lv_istore_n (lv' := [(3, .int 1), (0, .ref m0), (1, .int x), (2, .int y)]) hx hb dX8_seating_54 rfl hl (by decide) rfl (fun ls hl => ?_)
        refine lv_iconst (v := 0) hx hb dX8_seating_55 (by decide) ?_
        refine lv_istore (lv' := [(4, .int 0), (3, .int 1), (0, .ref m0), (1, .int x), (2, .int y)]) hx hb dX8_seating_56 hl (by decide) rfl (fun ls hl => ?_)
        obtain ⟨I58_9, μ58_10, hi0, hs_89⟩ := hv
        have Lm_91 : ∀ (n_90 : Nat) (x3_7 : Int32) (x4_8 : Int32) (H : Heap) (locs : List Loc) (ls : Array Slot), μ58_10 x3_7 x4_8 < n_90 → I58_9 x3_7 x4_8 → va_P G.1 vwCl [(m0, .inr (8, [.ref m1, .ref m2, .ref m3, .ref m4, .ref m5, .ref m6, .ref m7, .ref m8, .ref m9, .int fu, .int fd, .int fi, .int nu, .int nw, .int nf, .int bf, .int bn, .ref m10, .int ts, .int ap, .int fs, .int ln, .int fo, .int fa, .ref m11, .ref m12, .ref m13, .ref m14, .int wr])), aJ G m1 560 mw, aZ G m2 2 ik, aI G m3 20 zs, aI G m4 20 cl, aI G m5 20 hs, aI G m6 20 ks, aI G m7 20 wa, aI G m8 20 ne, aI G m9 4 mn, aI G m10 400 tx, aI G m11 6 th, aI G m12 6 od, aI G m13 30 bk, aI G m14 30 bh] H → va_D A [(m0, .inr (8, [.ref m1, .ref m2, .ref m3, .ref m4, .ref m5, .ref m6, .ref m7, .ref m8, .ref m9, .int fu, .int fd, .int fi, .int nu, .int nw, .int nf, .int bf, .int bn, .ref m10, .int ts, .int ap, .int fs, .int ln, .int fo, .int fa, .ref m11, .ref m12, .ref m13, .ref m14, .int wr])), aJ G m1 560 mw, aZ G m2 2 ik, aI G m3 20 zs, aI G m4 20 cl, aI G m5 20 hs, aI G m6 20 ks, aI G m7 20 wa, aI G m8 20 ne, aI G m9 4 mn, aI G m10 400 tx, aI G m11 6 th, aI G m12 6 od, aI G m13 30 bk, aI G m14 30 bh] → va_S A s.heap H locs → lv_has ls 14 [(4, .int x4_8), (3, .int x3_7), (0, .ref m0), (1, .int x), (2, .int y)] → W p l e R s m args below meth c H locs 0 0 Q (F0 m 58 ls []) := by
          intro n_90
          induction n_90 with
          | zero => intro x3_7 x4_8 H locs ls hm; exact absurd hm (Nat.not_lt_zero _)
          | succ n_90 ih_11 =>
            intro x3_7 x4_8 H locs ls hI_12 hi hP hD hS hl
            have hv := hs_89 x3_7 x4_8 hi
            refine lv_iload hx hb dX8_seating_58 (lv_at hl 0 rfl) ?_
            refine lv_aload_n hx hb dX8_seating_60 rfl (lv_at hl 2 rfl) ?_
            refine va_get (D := G.1) (ci := 8) (v := .ref m9) (C := RX8) (T := TX8) (N := 29) hx hb hts hinX8 hown hKK.1 hP 0 rfl rfl 8 (by decide) kl36 (fun _ h9 => h9) rfl dX8_seating_61 ?_
            refine lv_iconst (v := 1) hx hb dX8_seating_64 (by decide) ?_
            refine va_iald hx hb hKK.1 hP 9 0 rfl rfl (by unfold vp_in; decide) dX8_seating_65 ?_
            refine lv_icmp_ge (tgt := 80) hx hb dX8_seating_66 (by decide) (fun hc_13 => ?_) (fun hc_13 => ?_)
            · have hv := hv.1 hc_13
              refine lv_iconst (v := (-1)) hx hb dX8_seating_80 (by decide) ?_
              refine lv_istore (lv' := [(4, .int (-1)), (3, .int x3_7), (0, .ref m0), (1, .int x), (2, .int y)]) hx hb dX8_seating_81 hl (by decide) rfl (fun ls hl => ?_)
              refine lv_lconst (v := 0) hx hb dX8_seating_83 (by decide) ?_
              refine lv_lstore (lv' := [(5, .long 0), (4, .int (-1)), (3, .int x3_7), (0, .ref m0), (1, .int x), (2, .int y)]) hx hb dX8_seating_84 hl (by decide) rfl (fun ls hl => ?_)
              refine lv_lconst (v := 0) hx hb dX8_seating_86 (by decide) ?_
              refine lv_lstore (lv' := [(7, .long 0), (5, .long 0), (4, .int (-1)), (3, .int x3_7), (0, .ref m0), (1, .int x), (2, .int y)]) hx hb dX8_seating_87 hl (by decide) rfl (fun ls hl => ?_)
              refine lv_iconst (v := 0) hx hb dX8_seating_89 (by decide) ?_
              refine lv_istore (lv' := [(9, .int 0), (7, .long 0), (5, .long 0), (4, .int (-1)), (3, .int x3_7), (0, .ref m0), (1, .int x), (2, .int y)]) hx hb dX8_seating_90 hl (by decide) rfl (fun ls hl => ?_)
              obtain ⟨I92_19, μ92_20, hi0, hs_85⟩ := hv
              have Lm_87 : ∀ (n_86 : Nat) (fm1_14 : (Nat → Int64)) (x4_15 : Int32) (x5_16 : Int64) (x7_17 : Int64) (x9_18 : Int32) (H : Heap) (locs : List Loc) (ls : Array Slot), μ92_20 fm1_14 x4_15 x5_16 x7_17 x9_18 < n_86 → I92_19 fm1_14 x4_15 x5_16 x7_17 x9_18 → va_P G.1 vwCl [(m0, .inr (8, [.ref m1, .ref m2, .ref m3, .ref m4, .ref m5, .ref m6, .ref m7, .ref m8, .ref m9, .int fu, .int fd, .int fi, .int nu, .int nw, .int nf, .int bf, .int bn, .ref m10, .int ts, .int ap, .int fs, .int ln, .int fo, .int fa, .ref m11, .ref m12, .ref m13, .ref m14, .int wr])), aJ G m1 560 fm1_14, aZ G m2 2 ik, aI G m3 20 zs, aI G m4 20 cl, aI G m5 20 hs, aI G m6 20 ks, aI G m7 20 wa, aI G m8 20 ne, aI G m9 4 mn, aI G m10 400 tx, aI G m11 6 th, aI G m12 6 od, aI G m13 30 bk, aI G m14 30 bh] H → va_D A [(m0, .inr (8, [.ref m1, .ref m2, .ref m3, .ref m4, .ref m5, .ref m6, .ref m7, .ref m8, .ref m9, .int fu, .int fd, .int fi, .int nu, .int nw, .int nf, .int bf, .int bn, .ref m10, .int ts, .int ap, .int fs, .int ln, .int fo, .int fa, .ref m11, .ref m12, .ref m13, .ref m14, .int wr])), aJ G m1 560 fm1_14, aZ G m2 2 ik, aI G m3 20 zs, aI G m4 20 cl, aI G m5 20 hs, aI G m6 20 ks, aI G m7 20 wa, aI G m8 20 ne, aI G m9 4 mn, aI G m10 400 tx, aI G m11 6 th, aI G m12 6 od, aI G m13 30 bk, aI G m14 30 bh] → va_S A s.heap H locs → lv_has ls 14 [(9, .int x9_18), (7, .long x7_17), (5, .long x5_16), (4, .int x4_15), (3, .int x3_7), (0, .ref m0), (1, .int x), (2, .int y)] → W p l e R s m args below meth c H locs 0 0 Q (F0 m 92 ls []) := by
                intro n_86
                induction n_86 with
                | zero => intro fm1_14 x4_15 x5_16 x7_17 x9_18 H locs ls hm; exact absurd hm (Nat.not_lt_zero _)
                | succ n_86 ih_21 =>
                  intro fm1_14 x4_15 x5_16 x7_17 x9_18 H locs ls hI_22 hi hP hD hS hl
                  have hv := hs_85 fm1_14 x4_15 x5_16 x7_17 x9_18 hi
                  refine lv_iload hx hb dX8_seating_92 (lv_at hl 0 rfl) ?_
                  refine lv_iload_n hx hb dX8_seating_94 rfl (lv_at hl 4 rfl) ?_
                  refine lv_icmp_ge (tgt := 242) hx hb dX8_seating_95 (by decide) (fun hc_23 => ?_) (fun hc_23 => ?_)
                  · have hv := hv.1 hc_23
                    refine lv_iload_n hx hb dX8_seating_242 rfl (lv_at hl 7 rfl) ?_
                    refine lv_if_ne (tgt := 252) hx hb dX8_seating_243 (by decide) (fun hc_24 => ?_) (fun hc_24 => ?_)
                    · have hv := hv.1 hc_24
                      refine lv_iload_n hx hb dX8_seating_252 rfl (lv_at hl 7 rfl) ?_
                      refine lv_iconst (v := 1) hx hb dX8_seating_253 (by decide) ?_
                      refine lv_icmp_ne (tgt := 263) hx hb dX8_seating_254 (by decide) (fun hc_25 => ?_) (fun hc_25 => ?_)
                      · have hv := hv.1 hc_25
                        refine lv_iload hx hb dX8_seating_263 (lv_at hl 3 rfl) ?_
                        refine lv_iload_n hx hb dX8_seating_265 rfl (lv_at hl 7 rfl) ?_
                        refine lv_iconst (v := 2) hx hb dX8_seating_266 (by decide) ?_
                        refine lv_isub hx hb dX8_seating_267 ?_
                        refine lv_aload_n hx hb dX8_seating_268 rfl (lv_at hl 5 rfl) ?_
                        refine va_get (D := G.1) (ci := 8) (v := .ref m9) (C := RX8) (T := TX8) (N := 29) hx hb hts hinX8 hown hKK.1 hP 0 rfl rfl 8 (by decide) kl36 (fun _ h9 => h9) rfl dX8_seating_269 ?_
                        refine lv_iconst (v := 1) hx hb dX8_seating_272 (by decide) ?_
                        refine va_iald hx hb hKK.1 hP 9 0 rfl rfl (by unfold vp_in; decide) dX8_seating_273 ?_
                        obtain ⟨gcq_26, gip_27, gnq_28, hv⟩ := hv
                        obtain ⟨hp, hv⟩ := hv
                        refine x_calliR (x_runS (As := [.int x4_15, .int (y - 2), .int (mn 1)]) (rest := []) (n := 3) ⟨hx, hb, hml, hown, hts⟩ (k_X8_seatIn l G  _ x4_15 (y - 2) (mn 1) gcq_26 gip_27 gnq_28 hp) gX8_seating_X8_seatIn rfl (by decide +kernel) ⟨Nat.le_trans (Nat.le_of_ble_eq_true rfl) hRf, Nat.le_trans (Nat.le_of_ble_eq_true rfl) hRl⟩ hKK hSS hS hA hP hD [] (by decide) rfl rfl hl.1 rfl (Nat.le_of_ble_eq_true rfl) dX8_seating_274) hP hD hS hA [] rfl (fun r_29 _ H locs hw hP hS => ?_)
                        have hv := hv r_29 hw
                        exact x_iret (v := r_29) fm1_14 hQ hx hb hr hlocks hS dX8_seating_277 hv hP hD
                      · have hv := hv.2 hc_25
                        refine lv_lload hx hb dX8_seating_257 (lv_at hl 1 rfl) ?_
                        refine lv_l2i hx hb dX8_seating_259 rfl ?_
                        refine lv_goto (tgt := 277) hx hb dX8_seating_260 (by decide) ?_
                        exact x_iret (v := x7_17.toInt32) fm1_14 hQ hx hb hr hlocks hS dX8_seating_277 hv hP hD
                    · have hv := hv.2 hc_24
                      refine lv_lload hx hb dX8_seating_246 (lv_at hl 2 rfl) ?_
                      refine lv_l2i hx hb dX8_seating_248 rfl ?_
                      refine lv_goto (tgt := 277) hx hb dX8_seating_249 (by decide) ?_
                      exact x_iret (v := x5_16.toInt32) fm1_14 hQ hx hb hr hlocks hS dX8_seating_277 hv hP hD
                  · have hv := hv.2 hc_23
                    refine lv_aload_n hx hb dX8_seating_98 rfl (lv_at hl 5 rfl) ?_
                    refine lv_iload hx hb dX8_seating_99 (lv_at hl 0 rfl) ?_
                    obtain ⟨gcq_30, gNs_31, gNp_32, hv⟩ := hv
                    obtain ⟨hp, hv⟩ := hv
                    refine x_calliR (x_runV (As := [.int x9_18]) (rest := []) (n := 1) (C := RX8) (ci := 8) ⟨hx, hb, hml, hown, hts⟩ (k_X8_isSeating l G m0 m1 m2 m3 m4 m5 m6 m7 m8 m9 m10 m11 m12 m13 m14 _ fm1_14 ik zs cl hs ks wa ne mn tx th od bk bh fu fd fi nu nw nf bf bn ts ap fs ln fo fa wr x9_18 gcq_30 gNs_31 gNp_32 hp) gX8_seating_X8_isSeating rfl (by decide +kernel) ⟨Nat.le_trans (Nat.le_of_ble_eq_true rfl) hRf, Nat.le_trans (Nat.le_of_ble_eq_true rfl) hRl⟩ hKK hSS hS hA hP hD [0, 1, 2, 3, 4, 5, 6, 7, 8, 9, 10, 11, 12, 13, 14] (by decide) rfl rfl rfl 0 rfl rfl hl.1 rfl (Nat.le_of_ble_eq_true rfl) dX8_seating_101) hP hD hS hA [0, 1, 2, 3, 4, 5, 6, 7, 8, 9, 10, 11, 12, 13, 14] rfl (fun r_33 _ H locs hw hP hS => ?_)
                    have hv := hv r_33 hw
                    refine lv_if_eq (tgt := 236) hx hb dX8_seating_104 (by decide) (fun hc_34 => ?_) (fun hc_34 => ?_)
                    · have hv := hv.1 hc_34
                      refine lv_iinc (v := (x9_18 + 1)) (lv' := [(9, .int (x9_18 + 1)), (7, .long x7_17), (5, .long x5_16), (4, .int x4_15), (3, .int x3_7), (0, .ref m0), (1, .int x), (2, .int y)]) hx hb dX8_seating_236 hl (k := 0) rfl rfl (by decide) rfl (fun ls hl => ?_)
                      refine lv_goto (tgt := 92) hx hb dX8_seating_239 (by decide) ?_
                      exact ih_21 _ _ _ _ _ _ _ _ (Nat.lt_of_lt_of_le hv.2 (Nat.le_of_lt_succ hI_22)) hv.1 hP hD hS hl
                    · have hv := hv.2 hc_34
                      refine lv_aload_n hx hb dX8_seating_107 rfl (lv_at hl 5 rfl) ?_
                      obtain ⟨gv_35, hv⟩ := hv
                      obtain ⟨hp, hv⟩ := hv
                      refine x_callv (wr := []) (w' := fun (u : (Nat → Int64)) => [(m0, .inr (8, [.ref m1, .ref m2, .ref m3, .ref m4, .ref m5, .ref m6, .ref m7, .ref m8, .ref m9, .int fu, .int fd, .int fi, .int nu, .int nw, .int nf, .int bf, .int bn, .ref m10, .int ts, .int ap, .int fs, .int ln, .int fo, .int fa, .ref m11, .ref m12, .ref m13, .ref m14, .int wr])), aJ G m1 560 u, aZ G m2 2 ik, aI G m3 20 zs, aI G m4 20 cl, aI G m5 20 hs, aI G m6 20 ks, aI G m7 20 wa, aI G m8 20 ne, aI G m9 4 mn, aI G m10 400 tx, aI G m11 6 th, aI G m12 6 od, aI G m13 30 bk, aI G m14 30 bh]) (x_runV (As := []) (rest := []) (n := 0) (C := RX8) (ci := 8) ⟨hx, hb, hml, hown, hts⟩ (k_X8_tryAllUp l G m0 m1 m2 m3 m4 m5 m6 m7 m8 m9 m10 m11 m12 m13 m14 _ fm1_14 ik zs cl hs ks wa ne mn tx th od bk bh fu fd fi nu nw nf bf bn ts ap fs ln fo fa wr gv_35 hp) gX8_seating_X8_tryAllUp rfl (by decide +kernel) ⟨Nat.le_trans (Nat.le_of_ble_eq_true rfl) hRf, Nat.le_trans (Nat.le_of_ble_eq_true rfl) hRl⟩ hKK hSS hS hA hP hD [0, 1, 2, 3, 4, 5, 6, 7, 8, 9, 10, 11, 12, 13, 14] (by decide) rfl rfl rfl 0 rfl rfl hl.1 rfl (Nat.le_of_ble_eq_true rfl) dX8_seating_108) hP hD hS hA [0, 1, 2, 3, 4, 5, 6, 7, 8, 9, 10, 11, 12, 13, 14] [] [0, 1, 2, 3, 4, 5, 6, 7, 8, 9, 10, 11, 12, 13, 14] rfl rfl (by decide) (by decide) (by decide) (fun _ => rfl) (fun  u H locs hw hP hD hS => ?_)
                      obtain ⟨mw2_37, rfl⟩ : ∃ z9_, z9_ = u := ⟨_, rfl⟩
                      have hP : va_P G.1 vwCl [(m0, .inr (8, [.ref m1, .ref m2, .ref m3, .ref m4, .ref m5, .ref m6, .ref m7, .ref m8, .ref m9, .int fu, .int fd, .int fi, .int nu, .int nw, .int nf, .int bf, .int bn, .ref m10, .int ts, .int ap, .int fs, .int ln, .int fo, .int fa, .ref m11, .ref m12, .ref m13, .ref m14, .int wr])), aJ G m1 560 mw2_37, aZ G m2 2 ik, aI G m3 20 zs, aI G m4 20 cl, aI G m5 20 hs, aI G m6 20 ks, aI G m7 20 wa, aI G m8 20 ne, aI G m9 4 mn, aI G m10 400 tx, aI G m11 6 th, aI G m12 6 od, aI G m13 30 bk, aI G m14 30 bh] H := hP
                      have hD : va_D A [(m0, .inr (8, [.ref m1, .ref m2, .ref m3, .ref m4, .ref m5, .ref m6, .ref m7, .ref m8, .ref m9, .int fu, .int fd, .int fi, .int nu, .int nw, .int nf, .int bf, .int bn, .ref m10, .int ts, .int ap, .int fs, .int ln, .int fo, .int fa, .ref m11, .ref m12, .ref m13, .ref m14, .int wr])), aJ G m1 560 mw2_37, aZ G m2 2 ik, aI G m3 20 zs, aI G m4 20 cl, aI G m5 20 hs, aI G m6 20 ks, aI G m7 20 wa, aI G m8 20 ne, aI G m9 4 mn, aI G m10 400 tx, aI G m11 6 th, aI G m12 6 od, aI G m13 30 bk, aI G m14 30 bh] := hD
                      have hv := hv mw2_37 hw
                      refine lv_iconst (v := 0) hx hb dX8_seating_111 (by decide) ?_
                      refine lv_istore (lv' := [(10, .int 0), (9, .int x9_18), (7, .long x7_17), (5, .long x5_16), (4, .int x4_15), (3, .int x3_7), (0, .ref m0), (1, .int x), (2, .int y)]) hx hb dX8_seating_112 hl (by decide) rfl (fun ls hl => ?_)
                      obtain ⟨I114_40, μ114_41, hi0, hs_82⟩ := hv
                      have Lm_84 : ∀ (n_83 : Nat) (fm1_38 : (Nat → Int64)) (x10_39 : Int32) (H : Heap) (locs : List Loc) (ls : Array Slot), μ114_41 fm1_38 x10_39 < n_83 → I114_40 fm1_38 x10_39 → va_P G.1 vwCl [(m0, .inr (8, [.ref m1, .ref m2, .ref m3, .ref m4, .ref m5, .ref m6, .ref m7, .ref m8, .ref m9, .int fu, .int fd, .int fi, .int nu, .int nw, .int nf, .int bf, .int bn, .ref m10, .int ts, .int ap, .int fs, .int ln, .int fo, .int fa, .ref m11, .ref m12, .ref m13, .ref m14, .int wr])), aJ G m1 560 fm1_38, aZ G m2 2 ik, aI G m3 20 zs, aI G m4 20 cl, aI G m5 20 hs, aI G m6 20 ks, aI G m7 20 wa, aI G m8 20 ne, aI G m9 4 mn, aI G m10 400 tx, aI G m11 6 th, aI G m12 6 od, aI G m13 30 bk, aI G m14 30 bh] H → va_D A [(m0, .inr (8, [.ref m1, .ref m2, .ref m3, .ref m4, .ref m5, .ref m6, .ref m7, .ref m8, .ref m9, .int fu, .int fd, .int fi, .int nu, .int nw, .int nf, .int bf, .int bn, .ref m10, .int ts, .int ap, .int fs, .int ln, .int fo, .int fa, .ref m11, .ref m12, .ref m13, .ref m14, .int wr])), aJ G m1 560 fm1_38, aZ G m2 2 ik, aI G m3 20 zs, aI G m4 20 cl, aI G m5 20 hs, aI G m6 20 ks, aI G m7 20 wa, aI G m8 20 ne, aI G m9 4 mn, aI G m10 400 tx, aI G m11 6 th, aI G m12 6 od, aI G m13 30 bk, aI G m14 30 bh] → va_S A s.heap H locs → lv_has ls 14 [(10, .int x10_39), (9, .int x9_18), (7, .long x7_17), (5, .long x5_16), (4, .int x4_15), (3, .int x3_7), (0, .ref m0), (1, .int x), (2, .int y)] → W p l e R s m args below meth c H locs 0 0 Q (F0 m 114 ls []) := by
                        intro n_83
                        induction n_83 with
                        | zero => intro fm1_38 x10_39 H locs ls hm; exact absurd hm (Nat.not_lt_zero _)
                        | succ n_83 ih_42 =>
                          intro fm1_38 x10_39 H locs ls hI_43 hi hP hD hS hl
                          have hv := hs_82 fm1_38 x10_39 hi
                          refine lv_iload hx hb dX8_seating_114 (lv_at hl 0 rfl) ?_
                          refine lv_aload_n hx hb dX8_seating_116 rfl (lv_at hl 6 rfl) ?_
                          refine va_get (D := G.1) (ci := 8) (v := .ref m9) (C := RX8) (T := TX8) (N := 29) hx hb hts hinX8 hown hKK.1 hP 0 rfl rfl 8 (by decide) kl36 (fun _ h9 => h9) rfl dX8_seating_117 ?_
                          refine lv_iconst (v := 1) hx hb dX8_seating_120 (by decide) ?_
                          refine va_iald hx hb hKK.1 hP 9 0 rfl rfl (by unfold vp_in; decide) dX8_seating_121 ?_
                          refine lv_icmp_ge (tgt := 156) hx hb dX8_seating_122 (by decide) (fun hc_44 => ?_) (fun hc_44 => ?_)
                          · have hv := hv.1 hc_44
                            refine lv_iconst (v := 0) hx hb dX8_seating_156 (by decide) ?_
                            refine lv_istore (lv' := [(10, .int 0), (9, .int x9_18), (7, .long x7_17), (5, .long x5_16), (4, .int x4_15), (3, .int x3_7), (0, .ref m0), (1, .int x), (2, .int y)]) hx hb dX8_seating_157 hl (by decide) rfl (fun ls hl => ?_)
                            obtain ⟨I159_47, μ159_48, hi0, hs_74⟩ := hv
                            have Lm_76 : ∀ (n_75 : Nat) (fm1_45 : (Nat → Int64)) (x10_46 : Int32) (H : Heap) (locs : List Loc) (ls : Array Slot), μ159_48 fm1_45 x10_46 < n_75 → I159_47 fm1_45 x10_46 → va_P G.1 vwCl [(m0, .inr (8, [.ref m1, .ref m2, .ref m3, .ref m4, .ref m5, .ref m6, .ref m7, .ref m8, .ref m9, .int fu, .int fd, .int fi, .int nu, .int nw, .int nf, .int bf, .int bn, .ref m10, .int ts, .int ap, .int fs, .int ln, .int fo, .int fa, .ref m11, .ref m12, .ref m13, .ref m14, .int wr])), aJ G m1 560 fm1_45, aZ G m2 2 ik, aI G m3 20 zs, aI G m4 20 cl, aI G m5 20 hs, aI G m6 20 ks, aI G m7 20 wa, aI G m8 20 ne, aI G m9 4 mn, aI G m10 400 tx, aI G m11 6 th, aI G m12 6 od, aI G m13 30 bk, aI G m14 30 bh] H → va_D A [(m0, .inr (8, [.ref m1, .ref m2, .ref m3, .ref m4, .ref m5, .ref m6, .ref m7, .ref m8, .ref m9, .int fu, .int fd, .int fi, .int nu, .int nw, .int nf, .int bf, .int bn, .ref m10, .int ts, .int ap, .int fs, .int ln, .int fo, .int fa, .ref m11, .ref m12, .ref m13, .ref m14, .int wr])), aJ G m1 560 fm1_45, aZ G m2 2 ik, aI G m3 20 zs, aI G m4 20 cl, aI G m5 20 hs, aI G m6 20 ks, aI G m7 20 wa, aI G m8 20 ne, aI G m9 4 mn, aI G m10 400 tx, aI G m11 6 th, aI G m12 6 od, aI G m13 30 bk, aI G m14 30 bh] → va_S A s.heap H locs → lv_has ls 14 [(10, .int x10_46), (9, .int x9_18), (7, .long x7_17), (5, .long x5_16), (4, .int x4_15), (3, .int x3_7), (0, .ref m0), (1, .int x), (2, .int y)] → W p l e R s m args below meth c H locs 0 0 Q (F0 m 159 ls []) := by
                              intro n_75
                              induction n_75 with
                              | zero => intro fm1_45 x10_46 H locs ls hm; exact absurd hm (Nat.not_lt_zero _)
                              | succ n_75 ih_49 =>
                                intro fm1_45 x10_46 H locs ls hI_50 hi hP hD hS hl
                                have hv := hs_74 fm1_45 x10_46 hi
                                refine lv_iload hx hb dX8_seating_159 (lv_at hl 0 rfl) ?_
                                refine lv_iload_n hx hb dX8_seating_161 rfl (lv_at hl 7 rfl) ?_
                                refine lv_icmp_ge (tgt := 180) hx hb dX8_seating_162 (by decide) (fun hc_51 => ?_) (fun hc_51 => ?_)
                                · have hv := hv.1 hc_51
                                  refine lv_aload_n hx hb dX8_seating_180 rfl (lv_at hl 6 rfl) ?_
                                  refine lv_sipush (v := 140) hx hb dX8_seating_181 (by decide) ?_
                                  obtain ⟨gT_52, gNs_53, gNp_54, gX_55, gv_56, gM_57, hv⟩ := hv
                                  obtain ⟨hp, hv⟩ := hv
                                  refine x_calllR (x_runV (As := [.int 140]) (rest := []) (n := 1) (C := RX8) (ci := 8) ⟨hx, hb, hml, hown, hts⟩ (k_X8_coldMinutes l G m0 m1 m2 m3 m4 m5 m6 m7 m8 m9 m10 m11 m12 m13 m14 _ fm1_45 ik zs cl hs ks wa ne mn tx th od bk bh fu fd fi nu nw nf bf bn ts ap fs ln fo fa wr 140 gT_52 gNs_53 gNp_54 gX_55 gv_56 gM_57 hp) gX8_seating_X8_coldMinutes rfl (by decide +kernel) ⟨Nat.le_trans (Nat.le_of_ble_eq_true rfl) hRf, Nat.le_trans (Nat.le_of_ble_eq_true rfl) hRl⟩ hKK hSS hS hA hP hD [0, 1, 2, 3, 4, 5, 6, 7, 8, 9, 10, 11, 12, 13, 14] (by decide) rfl rfl rfl 0 rfl rfl hl.1 rfl (Nat.le_of_ble_eq_true rfl) dX8_seating_184) hP hD hS hA [0, 1, 2, 3, 4, 5, 6, 7, 8, 9, 10, 11, 12, 13, 14] rfl (fun r_58 _ H locs hw hP hS => ?_)
                                  have hv := hv r_58 hw
                                  refine lv_lstore (lv' := [(10, .long r_58), (9, .int x9_18), (7, .long x7_17), (5, .long x5_16), (4, .int x4_15), (3, .int x3_7), (0, .ref m0), (1, .int x), (2, .int y)]) hx hb dX8_seating_187 hl (by decide) rfl (fun ls hl => ?_)
                                  refine lv_aload_n hx hb dX8_seating_189 rfl (lv_at hl 6 rfl) ?_
                                  obtain ⟨gNp_59, gv_60, hv⟩ := hv
                                  obtain ⟨hp, hv⟩ := hv
                                  refine x_calllR (x_runV (As := []) (rest := []) (n := 0) (C := RX8) (ci := 8) ⟨hx, hb, hml, hown, hts⟩ (k_X8_leastWarmth l G m0 m1 m2 m3 m4 m5 m6 m7 m8 m9 m10 m11 m12 m13 m14 _ fm1_45 ik zs cl hs ks wa ne mn tx th od bk bh fu fd fi nu nw nf bf bn ts ap fs ln fo fa wr gNp_59 gv_60 hp) gX8_seating_X8_leastWarmth rfl (by decide +kernel) ⟨Nat.le_trans (Nat.le_of_ble_eq_true rfl) hRf, Nat.le_trans (Nat.le_of_ble_eq_true rfl) hRl⟩ hKK hSS hS hA hP hD [0, 1, 2, 3, 4, 5, 6, 7, 8, 9, 10, 11, 12, 13, 14] (by decide) rfl rfl rfl 0 rfl rfl hl.1 rfl (Nat.le_of_ble_eq_true rfl) dX8_seating_190) hP hD hS hA [0, 1, 2, 3, 4, 5, 6, 7, 8, 9, 10, 11, 12, 13, 14] rfl (fun r_61 _ H locs hw hP hS => ?_)
                                  have hv := hv r_61 hw
                                  refine lv_lstore (lv' := [(12, .long r_61), (10, .long r_58), (9, .int x9_18), (7, .long x7_17), (5, .long x5_16), (4, .int x4_15), (3, .int x3_7), (0, .ref m0), (1, .int x), (2, .int y)]) hx hb dX8_seating_193 hl (by decide) rfl (fun ls hl => ?_)
                                  refine lv_iload hx hb dX8_seating_195 (lv_at hl 5 rfl) ?_
                                  refine lv_if_lt (tgt := 224) hx hb dX8_seating_197 (by decide) (fun hc_62 => ?_) (fun hc_62 => ?_)
                                  · have hv := hv.1 hc_62
                                    refine lv_iload hx hb dX8_seating_224 (lv_at hl 2 rfl) ?_
                                    refine lv_istore (lv' := [(4, .int x9_18), (12, .long r_61), (10, .long r_58), (9, .int x9_18), (7, .long x7_17), (5, .long x5_16), (3, .int x3_7), (0, .ref m0), (1, .int x), (2, .int y)]) hx hb dX8_seating_226 hl (by decide) rfl (fun ls hl => ?_)
                                    refine lv_lload hx hb dX8_seating_228 (lv_at hl 2 rfl) ?_
                                    refine lv_lstore (lv' := [(5, .long r_58), (4, .int x9_18), (12, .long r_61), (10, .long r_58), (9, .int x9_18), (7, .long x7_17), (3, .int x3_7), (0, .ref m0), (1, .int x), (2, .int y)]) hx hb dX8_seating_230 hl (by decide) rfl (fun ls hl => ?_)
                                    refine lv_lload hx hb dX8_seating_232 (lv_at hl 2 rfl) ?_
                                    refine lv_lstore (lv' := [(7, .long r_61), (5, .long r_58), (4, .int x9_18), (12, .long r_61), (10, .long r_58), (9, .int x9_18), (3, .int x3_7), (0, .ref m0), (1, .int x), (2, .int y)]) hx hb dX8_seating_234 hl (by decide) rfl (fun ls hl => ?_)
                                    refine lv_iinc (v := (x9_18 + 1)) (lv' := [(9, .int (x9_18 + 1)), (7, .long r_61), (5, .long r_58), (4, .int x9_18), (12, .long r_61), (10, .long r_58), (3, .int x3_7), (0, .ref m0), (1, .int x), (2, .int y)]) hx hb dX8_seating_236 hl (k := 5) rfl rfl (by decide) rfl (fun ls hl => ?_)
                                    refine lv_goto (tgt := 92) hx hb dX8_seating_239 (by decide) ?_
                                    exact ih_21 _ _ _ _ _ _ _ _ (Nat.lt_of_lt_of_le hv.2 (Nat.le_of_lt_succ hI_22)) hv.1 hP hD hS (lv_sub hl [0, 1, 2, 3, 6, 7, 8, 9] rfl)
                                  · have hv := hv.2 hc_62
                                    refine lv_lload hx hb dX8_seating_200 (lv_at hl 1 rfl) ?_
                                    refine lv_lload hx hb dX8_seating_202 (lv_at hl 4 rfl) ?_
                                    refine W.lcmp hx hb dX8_seating_204 ?_
                                    refine lv_if_lt (tgt := 224) hx hb dX8_seating_205 (by decide) (fun hc_63 => ?_) (fun hc_63 => ?_)
                                    · have hv := hv.1 ((lg_cmp_lt _ _).mp hc_63)
                                      refine lv_iload hx hb dX8_seating_224 (lv_at hl 2 rfl) ?_
                                      refine lv_istore (lv' := [(4, .int x9_18), (12, .long r_61), (10, .long r_58), (9, .int x9_18), (7, .long x7_17), (5, .long x5_16), (3, .int x3_7), (0, .ref m0), (1, .int x), (2, .int y)]) hx hb dX8_seating_226 hl (by decide) rfl (fun ls hl => ?_)
                                      refine lv_lload hx hb dX8_seating_228 (lv_at hl 2 rfl) ?_
                                      refine lv_lstore (lv' := [(5, .long r_58), (4, .int x9_18), (12, .long r_61), (10, .long r_58), (9, .int x9_18), (7, .long x7_17), (3, .int x3_7), (0, .ref m0), (1, .int x), (2, .int y)]) hx hb dX8_seating_230 hl (by decide) rfl (fun ls hl => ?_)
                                      refine lv_lload hx hb dX8_seating_232 (lv_at hl 2 rfl) ?_
                                      refine lv_lstore (lv' := [(7, .long r_61), (5, .long r_58), (4, .int x9_18), (12, .long r_61), (10, .long r_58), (9, .int x9_18), (3, .int x3_7), (0, .ref m0), (1, .int x), (2, .int y)]) hx hb dX8_seating_234 hl (by decide) rfl (fun ls hl => ?_)
                                      refine lv_iinc (v := (x9_18 + 1)) (lv' := [(9, .int (x9_18 + 1)), (7, .long r_61), (5, .long r_58), (4, .int x9_18), (12, .long r_61), (10, .long r_58), (3, .int x3_7), (0, .ref m0), (1, .int x), (2, .int y)]) hx hb dX8_seating_236 hl (k := 5) rfl rfl (by decide) rfl (fun ls hl => ?_)
                                      refine lv_goto (tgt := 92) hx hb dX8_seating_239 (by decide) ?_
                                      exact ih_21 _ _ _ _ _ _ _ _ (Nat.lt_of_lt_of_le hv.2 (Nat.le_of_lt_succ hI_22)) hv.1 hP hD hS (lv_sub hl [0, 1, 2, 3, 6, 7, 8, 9] rfl)
                                    · have hv := hv.2 (fun h => hc_63 ((lg_cmp_lt _ _).mpr h))
                                      refine lv_lload hx hb dX8_seating_208 (lv_at hl 1 rfl) ?_
                                      refine lv_lload hx hb dX8_seating_210 (lv_at hl 4 rfl) ?_
                                      refine W.lcmp hx hb dX8_seating_212 ?_
                                      refine lv_if_ne (tgt := 236) hx hb dX8_seating_213 (by decide) (fun hc_64 => ?_) (fun hc_64 => ?_)
                                      · have hv := hv.1 (fun h => hc_64 ((lg_cmp_eq _ _).mpr h))
                                        refine lv_iinc (v := (x9_18 + 1)) (lv' := [(9, .int (x9_18 + 1)), (12, .long r_61), (10, .long r_58), (7, .long x7_17), (5, .long x5_16), (4, .int x4_15), (3, .int x3_7), (0, .ref m0), (1, .int x), (2, .int y)]) hx hb dX8_seating_236 hl (k := 2) rfl rfl (by decide) rfl (fun ls hl => ?_)
                                        refine lv_goto (tgt := 92) hx hb dX8_seating_239 (by decide) ?_
                                        exact ih_21 _ _ _ _ _ _ _ _ (Nat.lt_of_lt_of_le hv.2 (Nat.le_of_lt_succ hI_22)) hv.1 hP hD hS (lv_sub hl [0, 3, 4, 5, 6, 7, 8, 9] rfl)
                                      · have hv := hv.2 ((lg_cmp_eq _ _).mp hc_64)
                                        refine lv_lload hx hb dX8_seating_216 (lv_at hl 0 rfl) ?_
                                        refine lv_lload hx hb dX8_seating_218 (lv_at hl 3 rfl) ?_
                                        refine W.lcmp hx hb dX8_seating_220 ?_
                                        refine lv_if_le (tgt := 236) hx hb dX8_seating_221 (by decide) (fun hc_65 => ?_) (fun hc_65 => ?_)
                                        · have hv := hv.1 ((lg_cmp_le _ _).mp hc_65)
                                          refine lv_iinc (v := (x9_18 + 1)) (lv' := [(9, .int (x9_18 + 1)), (12, .long r_61), (10, .long r_58), (7, .long x7_17), (5, .long x5_16), (4, .int x4_15), (3, .int x3_7), (0, .ref m0), (1, .int x), (2, .int y)]) hx hb dX8_seating_236 hl (k := 2) rfl rfl (by decide) rfl (fun ls hl => ?_)
                                          refine lv_goto (tgt := 92) hx hb dX8_seating_239 (by decide) ?_
                                          exact ih_21 _ _ _ _ _ _ _ _ (Nat.lt_of_lt_of_le hv.2 (Nat.le_of_lt_succ hI_22)) hv.1 hP hD hS (lv_sub hl [0, 3, 4, 5, 6, 7, 8, 9] rfl)
                                        · have hv := hv.2 (fun h => hc_65 ((lg_cmp_le _ _).mpr h))
                                          refine lv_iload hx hb dX8_seating_224 (lv_at hl 2 rfl) ?_
                                          refine lv_istore (lv' := [(4, .int x9_18), (12, .long r_61), (10, .long r_58), (9, .int x9_18), (7, .long x7_17), (5, .long x5_16), (3, .int x3_7), (0, .ref m0), (1, .int x), (2, .int y)]) hx hb dX8_seating_226 hl (by decide) rfl (fun ls hl => ?_)
                                          refine lv_lload hx hb dX8_seating_228 (lv_at hl 2 rfl) ?_
                                          refine lv_lstore (lv' := [(5, .long r_58), (4, .int x9_18), (12, .long r_61), (10, .long r_58), (9, .int x9_18), (7, .long x7_17), (3, .int x3_7), (0, .ref m0), (1, .int x), (2, .int y)]) hx hb dX8_seating_230 hl (by decide) rfl (fun ls hl => ?_)
                                          refine lv_lload hx hb dX8_seating_232 (lv_at hl 2 rfl) ?_
                                          refine lv_lstore (lv' := [(7, .long r_61), (5, .long r_58), (4, .int x9_18), (12, .long r_61), (10, .long r_58), (9, .int x9_18), (3, .int x3_7), (0, .ref m0), (1, .int x), (2, .int y)]) hx hb dX8_seating_234 hl (by decide) rfl (fun ls hl => ?_)
                                          refine lv_iinc (v := (x9_18 + 1)) (lv' := [(9, .int (x9_18 + 1)), (7, .long r_61), (5, .long r_58), (4, .int x9_18), (12, .long r_61), (10, .long r_58), (3, .int x3_7), (0, .ref m0), (1, .int x), (2, .int y)]) hx hb dX8_seating_236 hl (k := 5) rfl rfl (by decide) rfl (fun ls hl => ?_)
                                          refine lv_goto (tgt := 92) hx hb dX8_seating_239 (by decide) ?_
                                          exact ih_21 _ _ _ _ _ _ _ _ (Nat.lt_of_lt_of_le hv.2 (Nat.le_of_lt_succ hI_22)) hv.1 hP hD hS (lv_sub hl [0, 1, 2, 3, 6, 7, 8, 9] rfl)
                                · have hv := hv.2 hc_51
                                  refine lv_aload_n hx hb dX8_seating_165 rfl (lv_at hl 6 rfl) ?_
                                  refine lv_sipush (v := 140) hx hb dX8_seating_166 (by decide) ?_
                                  obtain ⟨gT_66, gNs_67, gNp_68, gX_69, gv_70, gM_71, hv⟩ := hv
                                  obtain ⟨hp, hv⟩ := hv
                                  refine x_calli (wr := []) (w' := fun (u : (Nat → Int64)) => [(m0, .inr (8, [.ref m1, .ref m2, .ref m3, .ref m4, .ref m5, .ref m6, .ref m7, .ref m8, .ref m9, .int fu, .int fd, .int fi, .int nu, .int nw, .int nf, .int bf, .int bn, .ref m10, .int ts, .int ap, .int fs, .int ln, .int fo, .int fa, .ref m11, .ref m12, .ref m13, .ref m14, .int wr])), aJ G m1 560 u, aZ G m2 2 ik, aI G m3 20 zs, aI G m4 20 cl, aI G m5 20 hs, aI G m6 20 ks, aI G m7 20 wa, aI G m8 20 ne, aI G m9 4 mn, aI G m10 400 tx, aI G m11 6 th, aI G m12 6 od, aI G m13 30 bk, aI G m14 30 bh]) (x_runV (As := [.int 140]) (rest := []) (n := 1) (C := RX8) (ci := 8) ⟨hx, hb, hml, hown, hts⟩ (k_X8_pass l G m0 m1 m2 m3 m4 m5 m6 m7 m8 m9 m10 m11 m12 m13 m14 _ fm1_45 ik zs cl hs ks wa ne mn tx th od bk bh fu fd fi nu nw nf bf bn ts ap fs ln fo fa wr 140 gT_66 gNs_67 gNp_68 gX_69 gv_70 gM_71 hp) gX8_seating_X8_pass rfl (by decide +kernel) ⟨Nat.le_trans (Nat.le_of_ble_eq_true rfl) hRf, Nat.le_trans (Nat.le_of_ble_eq_true rfl) hRl⟩ hKK hSS hS hA hP hD [0, 1, 2, 3, 4, 5, 6, 7, 8, 9, 10, 11, 12, 13, 14] (by decide) rfl rfl rfl 0 rfl rfl hl.1 rfl (Nat.le_of_ble_eq_true rfl) dX8_seating_169) hP hD hS hA [0, 1, 2, 3, 4, 5, 6, 7, 8, 9, 10, 11, 12, 13, 14] [] [0, 1, 2, 3, 4, 5, 6, 7, 8, 9, 10, 11, 12, 13, 14] rfl rfl (by decide) (by decide) (by decide) (fun _ => rfl) (fun r_72 u H locs hw hP hD hS => ?_)
                                  obtain ⟨mw2_73, rfl⟩ : ∃ z9_, z9_ = u := ⟨_, rfl⟩
                                  have hP : va_P G.1 vwCl [(m0, .inr (8, [.ref m1, .ref m2, .ref m3, .ref m4, .ref m5, .ref m6, .ref m7, .ref m8, .ref m9, .int fu, .int fd, .int fi, .int nu, .int nw, .int nf, .int bf, .int bn, .ref m10, .int ts, .int ap, .int fs, .int ln, .int fo, .int fa, .ref m11, .ref m12, .ref m13, .ref m14, .int wr])), aJ G m1 560 mw2_73, aZ G m2 2 ik, aI G m3 20 zs, aI G m4 20 cl, aI G m5 20 hs, aI G m6 20 ks, aI G m7 20 wa, aI G m8 20 ne, aI G m9 4 mn, aI G m10 400 tx, aI G m11 6 th, aI G m12 6 od, aI G m13 30 bk, aI G m14 30 bh] H := hP
                                  have hD : va_D A [(m0, .inr (8, [.ref m1, .ref m2, .ref m3, .ref m4, .ref m5, .ref m6, .ref m7, .ref m8, .ref m9, .int fu, .int fd, .int fi, .int nu, .int nw, .int nf, .int bf, .int bn, .ref m10, .int ts, .int ap, .int fs, .int ln, .int fo, .int fa, .ref m11, .ref m12, .ref m13, .ref m14, .int wr])), aJ G m1 560 mw2_73, aZ G m2 2 ik, aI G m3 20 zs, aI G m4 20 cl, aI G m5 20 hs, aI G m6 20 ks, aI G m7 20 wa, aI G m8 20 ne, aI G m9 4 mn, aI G m10 400 tx, aI G m11 6 th, aI G m12 6 od, aI G m13 30 bk, aI G m14 30 bh] := hD
                                  have hv := hv r_72 mw2_73 hw
                                  refine lv_istore (lv' := [(11, .int r_72), (10, .int x10_46), (9, .int x9_18), (7, .long x7_17), (5, .long x5_16), (4, .int x4_15), (3, .int x3_7), (0, .ref m0), (1, .int x), (2, .int y)]) hx hb dX8_seating_172 hl (by decide) rfl (fun ls hl => ?_)
                                  refine lv_iinc (v := (x10_46 + 1)) (lv' := [(10, .int (x10_46 + 1)), (11, .int r_72), (9, .int x9_18), (7, .long x7_17), (5, .long x5_16), (4, .int x4_15), (3, .int x3_7), (0, .ref m0), (1, .int x), (2, .int y)]) hx hb dX8_seating_174 hl (k := 1) rfl rfl (by decide) rfl (fun ls hl => ?_)
                                  refine lv_goto (tgt := 159) hx hb dX8_seating_177 (by decide) ?_
                                  exact ih_49 _ _ _ _ _ (Nat.lt_of_lt_of_le hv.2 (Nat.le_of_lt_succ hI_50)) hv.1 hP hD hS (lv_sub hl [0, 2, 3, 4, 5, 6, 7, 8, 9] rfl)
                            exact Lm_76 _ _ _ _ _ _ (Nat.lt_succ_self _) hi0 hP hD hS hl
                          · have hv := hv.2 hc_44
                            refine lv_aload_n hx hb dX8_seating_125 rfl (lv_at hl 6 rfl) ?_
                            refine va_get (D := G.1) (ci := 8) (v := .ref m1) (C := RX8) (T := TX8) (N := 29) hx hb hts hinX8 hown hKK.1 hP 0 rfl rfl 0 (by decide) kl7 (fun _ h9 => h9) rfl dX8_seating_126 ?_
                            refine lv_sipush (v := 160) hx hb dX8_seating_129 (by decide) ?_
                            refine lv_iload hx hb dX8_seating_132 (lv_at hl 0 rfl) ?_
                            refine lv_iadd hx hb dX8_seating_134 ?_
                            refine lv_iload hx hb dX8_seating_135 (lv_at hl 1 rfl) ?_
                            refine lv_iload hx hb dX8_seating_137 (lv_at hl 0 rfl) ?_
                            refine lv_aload_n hx hb dX8_seating_139 rfl (lv_at hl 6 rfl) ?_
                            refine va_get (D := G.1) (ci := 8) (v := .ref m9) (C := RX8) (T := TX8) (N := 29) hx hb hts hinX8 hown hKK.1 hP 0 rfl rfl 8 (by decide) kl36 (fun _ h9 => h9) rfl dX8_seating_140 ?_
                            refine lv_iconst (v := 1) hx hb dX8_seating_143 (by decide) ?_
                            refine va_iald hx hb hKK.1 hP 9 0 rfl rfl (by unfold vp_in; decide) dX8_seating_144 ?_
                            obtain ⟨gcq_77, gip_78, gnq_79, hv⟩ := hv
                            obtain ⟨hp, hv⟩ := hv
                            refine x_calliR (x_runS (As := [.int x9_18, .int x10_39, .int (mn 1)]) (rest := [.int (160 + x10_39), .ref m1]) (n := 3) ⟨hx, hb, hml, hown, hts⟩ (k_X8_seatIn l G  _ x9_18 x10_39 (mn 1) gcq_77 gip_78 gnq_79 hp) gX8_seating_X8_seatIn rfl (by decide +kernel) ⟨Nat.le_trans (Nat.le_of_ble_eq_true rfl) hRf, Nat.le_trans (Nat.le_of_ble_eq_true rfl) hRl⟩ hKK hSS hS hA hP hD [] (by decide) rfl rfl hl.1 rfl (Nat.le_of_ble_eq_true rfl) dX8_seating_145) hP hD hS hA [] rfl (fun r_80 _ H locs hw hP hS => ?_)
                            have hv := hv r_80 hw
                            refine lv_i2l hx hb dX8_seating_148 rfl ?_
                            obtain ⟨hin, hv⟩ := hv
                            refine va_last hx hb hKK.1 hP hD hS 1 2 rfl rfl hin dX8_seating_149 (fun H locs hP hD hS => ?_)
                            obtain ⟨fm1_81, ef⟩ : ∃ z9_, z9_ = (vp_updL fm1_38 ((160 + x10_39).toNatClampNeg) r_80.toInt64) := ⟨_, rfl⟩
                            have hP : va_P G.1 vwCl [(m0, .inr (8, [.ref m1, .ref m2, .ref m3, .ref m4, .ref m5, .ref m6, .ref m7, .ref m8, .ref m9, .int fu, .int fd, .int fi, .int nu, .int nw, .int nf, .int bf, .int bn, .ref m10, .int ts, .int ap, .int fs, .int ln, .int fo, .int fa, .ref m11, .ref m12, .ref m13, .ref m14, .int wr])), aJ G m1 560 fm1_81, aZ G m2 2 ik, aI G m3 20 zs, aI G m4 20 cl, aI G m5 20 hs, aI G m6 20 ks, aI G m7 20 wa, aI G m8 20 ne, aI G m9 4 mn, aI G m10 400 tx, aI G m11 6 th, aI G m12 6 od, aI G m13 30 bk, aI G m14 30 bh] H := by rw [ef]; exact hP
                            have hD : va_D A [(m0, .inr (8, [.ref m1, .ref m2, .ref m3, .ref m4, .ref m5, .ref m6, .ref m7, .ref m8, .ref m9, .int fu, .int fd, .int fi, .int nu, .int nw, .int nf, .int bf, .int bn, .ref m10, .int ts, .int ap, .int fs, .int ln, .int fo, .int fa, .ref m11, .ref m12, .ref m13, .ref m14, .int wr])), aJ G m1 560 fm1_81, aZ G m2 2 ik, aI G m3 20 zs, aI G m4 20 cl, aI G m5 20 hs, aI G m6 20 ks, aI G m7 20 wa, aI G m8 20 ne, aI G m9 4 mn, aI G m10 400 tx, aI G m11 6 th, aI G m12 6 od, aI G m13 30 bk, aI G m14 30 bh] := by rw [ef]; exact hD
                            have hv := hv fm1_81 ef
                            refine lv_iinc (v := (x10_39 + 1)) (lv' := [(10, .int (x10_39 + 1)), (9, .int x9_18), (7, .long x7_17), (5, .long x5_16), (4, .int x4_15), (3, .int x3_7), (0, .ref m0), (1, .int x), (2, .int y)]) hx hb dX8_seating_150 hl (k := 0) rfl rfl (by decide) rfl (fun ls hl => ?_)
                            refine lv_goto (tgt := 114) hx hb dX8_seating_153 (by decide) ?_
                            exact ih_42 _ _ _ _ _ (Nat.lt_of_lt_of_le hv.2 (Nat.le_of_lt_succ hI_43)) hv.1 hP hD hS hl
                      exact Lm_84 _ _ _ _ _ _ (Nat.lt_succ_self _) hi0 hP hD hS hl
              exact Lm_87 _ _ _ _ _ _ _ _ _ (Nat.lt_succ_self _) hi0 hP hD hS hl
            · have hv := hv.2 hc_13
              refine lv_iload_n hx hb dX8_seating_69 rfl (lv_at hl 1 rfl) ?_
              refine lv_bipush (v := 10) hx hb dX8_seating_70 (by decide) ?_
              refine lv_imul hx hb dX8_seating_72 ?_
              refine lv_topi (fun y_88 ey => ?_)
              have hv := hv y_88 ey
              refine lv_istore_n (lv' := [(3, .int y_88), (4, .int x4_8), (0, .ref m0), (1, .int x), (2, .int y)]) hx hb dX8_seating_73 rfl hl (by decide) rfl (fun ls hl => ?_)
              refine lv_iinc (v := (x4_8 + 1)) (lv' := [(4, .int (x4_8 + 1)), (3, .int y_88), (0, .ref m0), (1, .int x), (2, .int y)]) hx hb dX8_seating_74 hl (k := 1) rfl rfl (by decide) rfl (fun ls hl => ?_)
              refine lv_goto (tgt := 58) hx hb dX8_seating_77 (by decide) ?_
              exact ih_11 _ _ _ _ _ (Nat.lt_of_lt_of_le hv.2 (Nat.le_of_lt_succ hI_12)) hv.1 hP hD hS hl
        exact Lm_91 _ _ _ _ _ _ (Nat.lt_succ_self _) hi0 hP hD hS hl
      · have hv := hv.2 (tv_eq.mp hc_6)
        refine lv_ldc (v := (-1000000003)) hx hb hown kl198 dX8_seating_50 ?_
        exact x_iret (v := (-1000000003)) mw hQ hx hb hr hlocks hS dX8_seating_52 hv hP hD
    · have hv := hv.2 (tv_eq.mp hc_4)
      refine lv_ldc (v := (-1000000002)) hx hb hown kl73 dX8_seating_30 ?_
      exact x_iret (v := (-1000000002)) mw hQ hx hb hr hlocks hS dX8_seating_32 hv hP hD
theorem v_X8_seating (l : Launch) (G : Gt) (m0 m1 m2 m3 m4 m5 m6 m7 m8 m9 m10 m11 m12 m13 m14 : Nat) (sz : Nat) (mw : Nat → Int64) (ik : Nat → Int32) (zs : Nat → Int32) (cl : Nat → Int32) (hs : Nat → Int32) (ks : Nat → Int32) (wa : Nat → Int32) (ne : Nat → Int32) (mn : Nat → Int32) (tx : Nat → Int32) (th : Nat → Int32) (od : Nat → Int32) (bk : Nat → Int32) (bh : Nat → Int32) (fu : Int32) (fd : Int32) (fi : Int32) (nu : Int32) (nw : Int32) (nf : Int32) (bf : Int32) (bn : Int32) (ts : Int32) (ap : Int32) (fs : Int32) (ln : Int32) (fo : Int32) (fa : Int32) (wr : Int32) (x : Int32) (y : Int32) (T : Nat → Nat → Int) (Ns : Nat) (Np : Nat) (v : Nat → Int) (M : Int) (hp : TOK T Ns Np ∧ MT T Ns Np fu fd fi zs cl ks ne mn ∧ MR 0 mw v ∧ NOK T Ns Np (fun _ => 2 * M) M v ∧ M ≤ 900000) : (¬ (¬ x.toInt64 < 1 ∧ ¬ 60 < x.toInt64) → ((-1000000002) : Int32).toInt = aSeating T Ns Np v x.toInt y.toInt ∧ MF 140 mw mw) ∧ (¬ x.toInt64 < 1 ∧ ¬ 60 < x.toInt64 → (¬ y.toInt64 < 0 ∧ ¬ ((1 + (mn 1)).toInt64) < y.toInt64 → (¬ ((mn 1).toInt64) < 1 ∧ ¬ 4 < ((mn 1).toInt64) → ∃ (I58_9 : Int32 → Int32 → Prop) (μ58_10 : Int32 → Int32 → Nat), I58_9 1 0 ∧ (∀ (x3_7 : Int32) (x4_8 : Int32), I58_9 x3_7 x4_8 → ((mn 1) ≤ x4_8 → ∃ (I92_19 : (Nat → Int64) → Int32 → Int64 → Int64 → Int32 → Prop) (μ92_20 : (Nat → Int64) → Int32 → Int64 → Int64 → Int32 → Nat), I92_19 mw (-1) 0 0 0 ∧ (∀ (fm1_14 : (Nat → Int64)) (x4_15 : Int32) (x5_16 : Int64) (x7_17 : Int64) (x9_18 : Int32), I92_19 fm1_14 x4_15 x5_16 x7_17 x9_18 → (x3_7 ≤ x9_18 → (¬ y = 0 → (¬ y = 1 → ∃ (gcq_26 : Nat) (gip_27 : Nat) (gnq_28 : Nat), ((x4_15 = nI gcq_26 ∧ gcq_26 < 10000 ∧ (y - 2) = nI gip_27 ∧ gip_27 < gnq_28 ∧ (mn 1) = nI gnq_28 ∧ gnq_28 ≤ 4) ∧ (∀ (r_29 : Int32), (r_29.toInt = (dg gnq_28 gcq_26 gip_27 : Int) - 1) → (r_29.toInt = aSeating T Ns Np v x.toInt y.toInt ∧ MF 140 mw fm1_14)))) ∧ (y = 1 → x7_17.toInt32.toInt = aSeating T Ns Np v x.toInt y.toInt ∧ MF 140 mw fm1_14)) ∧ (y = 0 → x5_16.toInt32.toInt = aSeating T Ns Np v x.toInt y.toInt ∧ MF 140 mw fm1_14)) ∧ (¬ (x3_7 ≤ x9_18) → ∃ (gcq_30 : Nat) (gNs_31 : Nat) (gNp_32 : Nat), ((x9_18 = nI gcq_30 ∧ gcq_30 < 10000 ∧ mn 0 = nI gNs_31 ∧ mn 1 = nI gNp_32 ∧ gNs_31 ≤ 9 ∧ gNp_32 ≤ 4) ∧ (∀ (r_33 : Int32), (r_33 = (if okB gNs_31 (dg gNp_32 gcq_30) gNp_32 = true then 1 else 0)) → ((r_33 = 0 → I92_19 fm1_14 x4_15 x5_16 x7_17 (x9_18 + 1) ∧ μ92_20 fm1_14 x4_15 x5_16 x7_17 (x9_18 + 1) < μ92_20 fm1_14 x4_15 x5_16 x7_17 x9_18) ∧ (¬ (r_33 = 0) → ∃ (gv_35 : Nat → Int), ((MR 0 fm1_14 gv_35) ∧ (∀ (mw2_37 : Nat → Int64), (MR 140 mw2_37 (zUp gv_35) ∧ MF 140 fm1_14 mw2_37) → (∃ (I114_40 : (Nat → Int64) → Int32 → Prop) (μ114_41 : (Nat → Int64) → Int32 → Nat), I114_40 mw2_37 0 ∧ (∀ (fm1_38 : (Nat → Int64)) (x10_39 : Int32), I114_40 fm1_38 x10_39 → ((mn 1) ≤ x10_39 → ∃ (I159_47 : (Nat → Int64) → Int32 → Prop) (μ159_48 : (Nat → Int64) → Int32 → Nat), I159_47 fm1_38 0 ∧ (∀ (fm1_45 : (Nat → Int64)) (x10_46 : Int32), I159_47 fm1_45 x10_46 → (x ≤ x10_46 → ∃ (gT_52 : Nat → Nat → Int) (gNs_53 : Nat) (gNp_54 : Nat) (gX_55 : Nat) (gv_56 : Nat → Int) (gM_57 : Int), ((TOK gT_52 gNs_53 gNp_54 ∧ MT gT_52 gNs_53 gNp_54 fu fd fi zs cl ks ne mn ∧ (140 : Int32) = nI gX_55 ∧ gX_55 + 140 ≤ 560 ∧ MR gX_55 fm1_45 gv_56 ∧ NOK gT_52 gNs_53 gNp_54 (fun _ => 2 * gM_57) gM_57 gv_56 ∧ gM_57 ≤ 1000000) ∧ (∀ (r_58 : Int64), (r_58.toInt = zSum gv_56 30 gNp_54) → (∃ (gNp_59 : Nat) (gv_60 : Nat → Int), ((mn 1 = nI gNp_59 ∧ 1 ≤ gNp_59 ∧ gNp_59 ≤ 4 ∧ MR 140 fm1_45 gv_60 ∧ (∀ i, i < gNp_59 → gv_60 (10 + i) ≤ 9999)) ∧ (∀ (r_61 : Int64), (r_61.toInt = zLw gv_60 gNp_59) → ((x4_15 < 0 → I92_19 fm1_45 x9_18 r_58 r_61 (x9_18 + 1) ∧ μ92_20 fm1_45 x9_18 r_58 r_61 (x9_18 + 1) < μ92_20 fm1_14 x4_15 x5_16 x7_17 x9_18) ∧ (¬ (x4_15 < 0) → (r_58 < x5_16 → I92_19 fm1_45 x9_18 r_58 r_61 (x9_18 + 1) ∧ μ92_20 fm1_45 x9_18 r_58 r_61 (x9_18 + 1) < μ92_20 fm1_14 x4_15 x5_16 x7_17 x9_18) ∧ (¬ (r_58 < x5_16) → (¬ r_58 = x5_16 → I92_19 fm1_45 x4_15 x5_16 x7_17 (x9_18 + 1) ∧ μ92_20 fm1_45 x4_15 x5_16 x7_17 (x9_18 + 1) < μ92_20 fm1_14 x4_15 x5_16 x7_17 x9_18) ∧ (r_58 = x5_16 → (r_61 ≤ x7_17 → I92_19 fm1_45 x4_15 x5_16 x7_17 (x9_18 + 1) ∧ μ92_20 fm1_45 x4_15 x5_16 x7_17 (x9_18 + 1) < μ92_20 fm1_14 x4_15 x5_16 x7_17 x9_18) ∧ (¬ (r_61 ≤ x7_17) → I92_19 fm1_45 x9_18 r_58 r_61 (x9_18 + 1) ∧ μ92_20 fm1_45 x9_18 r_58 r_61 (x9_18 + 1) < μ92_20 fm1_14 x4_15 x5_16 x7_17 x9_18))))))))))) ∧ (¬ (x ≤ x10_46) → ∃ (gT_66 : Nat → Nat → Int) (gNs_67 : Nat) (gNp_68 : Nat) (gX_69 : Nat) (gv_70 : Nat → Int) (gM_71 : Int), ((TOK gT_66 gNs_67 gNp_68 ∧ MT gT_66 gNs_67 gNp_68 fu fd fi zs cl ks ne mn ∧ (140 : Int32) = nI gX_69 ∧ gX_69 + 140 ≤ 560 ∧ MR gX_69 fm1_45 gv_70 ∧ NOK gT_66 gNs_67 gNp_68 (fun _ => 2 * gM_71) gM_71 gv_70 ∧ gM_71 ≤ 1000000) ∧ (∀ (r_72 : Int32) (mw2_73 : Nat → Int64), (r_72 = nI (zCs gT_66 (zPass gT_66 gNs_67 gNp_68 gv_70) gNp_68) ∧ MR gX_69 mw2_73 (zPass gT_66 gNs_67 gNp_68 gv_70) ∧ MF gX_69 fm1_45 mw2_73) → (I159_47 mw2_73 (x10_46 + 1) ∧ μ159_48 mw2_73 (x10_46 + 1) < μ159_48 fm1_45 x10_46)))))) ∧ (¬ ((mn 1) ≤ x10_39) → ∃ (gcq_77 : Nat) (gip_78 : Nat) (gnq_79 : Nat), ((x9_18 = nI gcq_77 ∧ gcq_77 < 10000 ∧ x10_39 = nI gip_78 ∧ gip_78 < gnq_79 ∧ (mn 1) = nI gnq_79 ∧ gnq_79 ≤ 4) ∧ (∀ (r_80 : Int32), (r_80.toInt = (dg gnq_79 gcq_77 gip_78 : Int) - 1) → ((vp_in (160 + x10_39) 560) ∧ (∀ (fm1_81 : (Nat → Int64)), (fm1_81 = (vp_updL fm1_38 ((160 + x10_39).toNatClampNeg) r_80.toInt64)) → (I114_40 fm1_81 (x10_39 + 1) ∧ μ114_41 fm1_81 (x10_39 + 1) < μ114_41 fm1_38 x10_39))))))))))))))))) ∧ (¬ ((mn 1) ≤ x4_8) → ∀ (y_88 : Int32), (y_88 = (x3_7 * 10)) → (I58_9 y_88 (x4_8 + 1) ∧ μ58_10 y_88 (x4_8 + 1) < μ58_10 x3_7 x4_8)))) ∧ (¬ (¬ ((mn 1).toInt64) < 1 ∧ ¬ 4 < ((mn 1).toInt64)) → ((-1000000003) : Int32).toInt = aSeating T Ns Np v x.toInt y.toInt ∧ MF 140 mw mw)) ∧ (¬ (¬ y.toInt64 < 0 ∧ ¬ ((1 + (mn 1)).toInt64) < y.toInt64) → ((-1000000002) : Int32).toInt = aSeating T Ns Np v x.toInt y.toInt ∧ MF 140 mw mw)) := by
  obtain ⟨hT, hC, hR, hO, hM⟩ := hp
  have t1 := hT.1
  have t2 := hT.2.1
  have hns := hC.1
  have hnp := hC.2.1
  have hnpi : (mn 1).toInt = (Np : Int) := by rw [hnp]; exact nI_toInt (by omega)
  have ex : x.toInt64.toInt = x.toInt := i_l rfl
  have hx_ : (¬ x.toInt64 < 1 ∧ ¬ 60 < x.toInt64) ↔ (1 ≤ x.toInt ∧ x.toInt ≤ 60) := by
    rw [l_lt ex (show (1 : Int64).toInt = 1 from rfl), l_lt (show (60 : Int64).toInt = 60 from rfl) ex]
    omega
  have hy_ : (¬ y.toInt64 < 0 ∧ ¬ ((1 + (mn 1)).toInt64) < y.toInt64) ↔ (0 ≤ y.toInt ∧ y.toInt ≤ Np + 1) := by
    rw [l_lt (i_l rfl) (show (0 : Int64).toInt = 0 from rfl), l_lt (i_l (i_add i32_1 hnpi (by omega) (by omega))) (i_l rfl)]
    omega
  have hn_ : (¬ ((mn 1).toInt64) < 1 ∧ ¬ 4 < ((mn 1).toInt64)) ↔ (1 ≤ Np ∧ Np ≤ 4) := by
    rw [l_lt (i_l hnpi) (show (1 : Int64).toInt = 1 from rfl), l_lt (show (4 : Int64).toInt = 4 from rfl) (i_l hnpi)]
    omega
  simp only [hx_, hy_, hn_]
  refine ⟨fun h => ⟨by rw [aSeating, if_pos (Or.inl h)]; rfl, MF.rf 140 mw⟩, fun hx => ⟨fun hy => ⟨fun hn => ?_, fun h => ⟨by rw [aSeating, if_neg (fun z => z.elim (fun q => q hx) (fun q => q hy)), if_pos h]; rfl, MF.rf 140 mw⟩⟩, fun h => ⟨by rw [aSeating, if_pos (Or.inr h)]; rfl, MF.rf 140 mw⟩⟩⟩
  rw [aSeating, if_neg (fun z => z.elim (fun q => q hx) (fun q => q hy)), if_neg (fun z => z hn)]
  obtain ⟨m, hm, rfl, hxi, hxt⟩ := in_nat (x := x) (n := 61) (by omega) (by omega)
  rw [hxt]
  have p10 : ∀ i, i ≤ 4 → 10 ^ i ≤ 10000 := fun i hi => by
    have := Nat.pow_le_pow_right (show 0 < 10 by omega) hi
    omega
  refine ⟨fun a z => ∃ i, i ≤ Np ∧ z = nI i ∧ a = nI (10 ^ i), fun _ z => 5 - z.toNatClampNeg, ⟨0, by omega, rfl, rfl⟩, ?_⟩
  rintro a z ⟨i, hi, rfl, rfl⟩
  have ei : (nI i).toNatClampNeg = i := nI_clamp (by omega)
  have ei1 : nI i + 1 = nI (i + 1) := nI_1 i
  have ei2 : (nI (i + 1)).toNatClampNeg = i + 1 := nI_clamp (by omega)
  have hle : nI Np ≤ nI i ↔ Np ≤ i := nI_leI (by omega) (by omega)
  simp only [ei, ei1, ei2, hnp, hle]
  refine ⟨fun q => ?_, fun q y0 ey0 => ⟨⟨i + 1, by omega, rfl, by rw [ey0, show (10 : Int32) = nI 10 from rfl, pk_mul, Nat.pow_succ]⟩, by omega⟩⟩
  have e : i = Np := by omega
  subst e
  have hP := p10 i (by omega)
  have hP0 : 0 < 10 ^ i := Nat.pow_pos (by omega)
  generalize hE : 10 ^ i = E at hP hP0 ⊢
  refine ⟨fun w b f g z => ∃ c, c ≤ E ∧ z = nI c ∧ MF 140 mw w ∧ MSel (sF T v m Ns i none 0 c) b f g, fun _ _ _ _ z => 10001 - z.toNatClampNeg, ⟨0, by omega, rfl, MF.rf 140 mw, rfl⟩, ?_⟩
  rintro w b f g z ⟨c, hc, rfl, hF, hS⟩
  have ec : (nI c).toNatClampNeg = c := nI_clamp (by omega)
  have ec1 : nI c + 1 = nI (c + 1) := nI_1 c
  have ec2 : (nI (c + 1)).toNatClampNeg = c + 1 := nI_clamp (by omega)
  have hlc : nI E ≤ nI c ↔ E ≤ c := nI_leI (by omega) (by omega)
  simp only [ec, ec1, ec2, hlc]
  refine ⟨fun q => ?_, fun q => ⟨c, Ns, i, ⟨rfl, by omega, hns, rfl, t1, by omega⟩, fun r hr => ⟨fun hr0 => ⟨⟨c + 1, by omega, rfl, hF, ?_⟩, by omega⟩, fun hr0 => ?_⟩⟩⟩
  · have e : c = E := by omega
    subst e
    have hsome := sF_all (T := T) (v := v) (m := m) (ns := Ns) (np := i) (n := c) hP0
    cases hsf : sF T v m Ns i none 0 c with
    | none => exact absurd hsf hsome
    | some t =>
      obtain ⟨a1, a2, a3⟩ := t
      rw [hsf] at hS
      obtain ⟨s1, s2, s3, s4, s5, s6, s7, s8⟩ := hS
      have y0_ : y = 0 ↔ y.toInt = 0 := i_eq rfl rfl
      have y1_ : y = 1 ↔ y.toInt = 1 := i_eq rfl rfl
      dsimp only
      refine ⟨fun q0 => ⟨fun q1 => ?_, fun q1 => ⟨?_, hF⟩⟩, fun q0 => ⟨?_, hF⟩⟩
      · have n0 : ¬ y.toInt = 0 := fun z => q0 (y0_.mpr z)
        have n1 : ¬ y.toInt = 1 := fun z => q1 (y1_.mpr z)
        refine ⟨a3, (y.toInt - 2).toNat, i, ⟨s1, s2, ?_, by omega, rfl, by omega⟩, fun r hr => ⟨?_, hF⟩⟩
        · rw [← Int32.toInt_inj, i_sub rfl (show (2 : Int32).toInt = 2 from rfl) (by omega) (by omega), nI_toInt (by omega)]; omega
        · rw [if_neg n0, if_neg n1]; exact hr
      · rw [if_neg (fun z => q0 (y0_.mpr z)), if_pos (y1_.mp q1), ← s4]
        exact l_iZ rfl (by omega) (by omega)
      · rw [if_pos (y0_.mp q0), ← s3]
        exact l_iZ rfl (by omega) (by omega)
  · have hok : okB Ns (dg i c) i = false := by
      cases u : okB Ns (dg i c) i with
      | false => rfl
      | true => rw [hr, u] at hr0; exact absurd hr0 (by decide)
    rw [sF, Nat.zero_add]
    unfold sStep
    rw [if_neg (by rw [hok]; decide)]
    exact hS
  have hok : okB Ns (dg i c) i = true := by rw [hr] at hr0; exact tv_eqn.mp hr0
  have hR0 : MR 0 w v := fun j hj => by rw [hF _ (by omega)]; exact hR j hj
  refine ⟨v, hR0, fun w1 hw1 => ?_⟩
  refine ⟨fun w z => ∃ p, p ≤ i ∧ z = nI p ∧ MR 140 w (sSt v (dg i c) p) ∧ MF 140 mw w, fun _ z => 5 - z.toNatClampNeg, ⟨0, by omega, rfl, hw1.1, hF.tr hw1.2⟩, ?_⟩
  rintro w2 z ⟨p, hp, rfl, hR2, hF2⟩
  have ep : (nI p).toNatClampNeg = p := nI_clamp (by omega)
  have ep1 : nI p + 1 = nI (p + 1) := nI_1 p
  have ep2 : (nI (p + 1)).toNatClampNeg = p + 1 := nI_clamp (by omega)
  have hlp : nI i ≤ nI p ↔ i ≤ p := nI_leI (by omega) (by omega)
  have e160 : 160 + nI p = nI (160 + p) := ix1 160 p
  have c160 : (nI (160 + p)).toNatClampNeg = 140 + (20 + p) := by rw [nI_clamp (by omega)]; omega
  have v160 : vp_in (nI (160 + p)) 560 := vp_in_nI (by omega) (by omega)
  simp only [ep, ep1, ep2, hlp, e160, c160]
  refine ⟨fun q2 => ?_, fun q2 => ⟨c, p, i, ⟨rfl, by omega, rfl, by omega, rfl, by omega⟩, fun r2 hr2 => ⟨v160, fun w3 ew3 => ⟨⟨p + 1, by omega, rfl, ?_, ?_⟩, by omega⟩⟩⟩⟩
  · have e : p = i := by omega
    subst e
    have hOk := sSt_ok (D := dg p c) hT hO p (Nat.le_refl _) hok
    refine ⟨fun w z => ∃ t, t ≤ m ∧ z = nI t ∧ MR 140 w (zGo T Ns p (sSt v (dg p c) p) t) ∧ MF 140 mw w, fun _ z => 61 - z.toNatClampNeg, ⟨0, by omega, rfl, hR2, hF2⟩, ?_⟩
    rintro w4 z ⟨t, ht, rfl, hR4, hF4⟩
    have et : (nI t).toNatClampNeg = t := nI_clamp (by omega)
    have et1 : nI t + 1 = nI (t + 1) := nI_1 t
    have et2 : (nI (t + 1)).toNatClampNeg = t + 1 := nI_clamp (by omega)
    have hlt : nI m ≤ nI t ↔ m ≤ t := nI_leI (by omega) (by omega)
    simp only [et, et1, et2, hlt]
    have hOt := zGo_ok hT hOk t
    refine ⟨fun q3 => ?_, fun q3 => ⟨T, Ns, p, 140, _, M + t, ⟨hT, hC, rfl, by omega, hR4, hOt, by omega⟩, fun r4 w5 hw5 => ⟨⟨t + 1, by omega, rfl, hw5.2.1, hF4.tr hw5.2.2⟩, by omega⟩⟩⟩
    have e : t = m := by omega
    subst e
    obtain ⟨fc, fw⟩ := sSt_fin (m := t) (D := dg p c) hT hO hok
    have hco := sCo_bd (T := T) (v := v) (m := t) (D := dg p c) p
    have hpm : (p : Int) * t ≤ 240 := by
      have : p * t ≤ 4 * 60 := Nat.mul_le_mul (by omega) (by omega)
      have e : ((p * t : Nat) : Int) = (p : Int) * t := Int.natCast_mul p t
      omega
    have hle2 := sLe_bd (m := t) hT hO (D := dg p c) p (Nat.le_refl _) (fun q hq => okB_le hok hq)
    refine ⟨T, Ns, p, 140, _, M + t, ⟨hT, hC, rfl, by omega, hR4, hOt, by omega⟩, fun r5 hr5 => ⟨p, _, ⟨rfl, by omega, by omega, hR4, fun q hq => (hOt.2.1 q hq).1.2⟩, fun r6 hr6 => ?_⟩⟩
    rw [zSum_sCo fc] at hr5
    rw [zLw_sLe fw] at hr6
    obtain ⟨sy, sn⟩ := mSel_step (c := c) hS (by omega) hok hr5 (by omega) (by omega) hr6 (by omega) (by omega)
    have eF : sF T v t Ns p none 0 (c + 1) = sStep T v t Ns p c (sF T v t Ns p none 0 c) := by rw [sF, Nat.zero_add]
    refine ⟨fun u => ⟨⟨c + 1, by omega, rfl, hF4, by rw [eF]; exact sy (Or.inl u)⟩, by omega⟩, fun u => ⟨fun u1 => ⟨⟨c + 1, by omega, rfl, hF4, by rw [eF]; exact sy (Or.inr (Or.inl u1))⟩, by omega⟩, fun u1 => ⟨fun u2 => ⟨⟨c + 1, by omega, rfl, hF4, by rw [eF]; exact sn (fun z => z.elim u (fun z => z.elim u1 (fun z => u2 z.1)))⟩, by omega⟩, fun u2 => ⟨fun u3 => ⟨⟨c + 1, by omega, rfl, hF4, by rw [eF]; exact sn (fun z => z.elim u (fun z => z.elim u1 (fun z => Int64.not_lt.mpr u3 z.2)))⟩, by omega⟩, fun u3 => ⟨⟨c + 1, by omega, rfl, hF4, by rw [eF]; exact sy (Or.inr (Or.inr ⟨u2, Int64.not_le.mp u3⟩))⟩, by omega⟩⟩⟩⟩⟩
  · rw [ew3, sSt]
    exact hR2.up (i_l hr2)
  · rw [ew3]
    exact hF2.up (by omega)
theorem k_X8_seating (l : Launch) (G : Gt) (m0 m1 m2 m3 m4 m5 m6 m7 m8 m9 m10 m11 m12 m13 m14 : Nat) (sz : Nat) (mw : Nat → Int64) (ik : Nat → Int32) (zs : Nat → Int32) (cl : Nat → Int32) (hs : Nat → Int32) (ks : Nat → Int32) (wa : Nat → Int32) (ne : Nat → Int32) (mn : Nat → Int32) (tx : Nat → Int32) (th : Nat → Int32) (od : Nat → Int32) (bk : Nat → Int32) (bh : Nat → Int32) (fu : Int32) (fd : Int32) (fi : Int32) (nu : Int32) (nw : Int32) (nf : Int32) (bf : Int32) (bn : Int32) (ts : Int32) (ap : Int32) (fs : Int32) (ln : Int32) (fo : Int32) (fa : Int32) (wr : Int32) (x : Int32) (y : Int32) (T : Nat → Nat → Int) (Ns : Nat) (Np : Nat) (v : Nat → Int) (M : Int) (hp : TOK T Ns Np ∧ MT T Ns Np fu fd fi zs cl ks ne mn ∧ MR 0 mw v ∧ NOK T Ns Np (fun _ => 2 * M) M v ∧ M ≤ 900000) : MetI l yX8_seating wsX8_seating 4 101 G [.ref m0, .int x, .int y] [(m0, .inr (8, [.ref m1, .ref m2, .ref m3, .ref m4, .ref m5, .ref m6, .ref m7, .ref m8, .ref m9, .int fu, .int fd, .int fi, .int nu, .int nw, .int nf, .int bf, .int bn, .ref m10, .int ts, .int ap, .int fs, .int ln, .int fo, .int fa, .ref m11, .ref m12, .ref m13, .ref m14, .int wr])), aJ G m1 560 mw, aZ G m2 2 ik, aI G m3 20 zs, aI G m4 20 cl, aI G m5 20 hs, aI G m6 20 ks, aI G m7 20 wa, aI G m8 20 ne, aI G m9 4 mn, aI G m10 400 tx, aI G m11 6 th, aI G m12 6 od, aI G m13 30 bk, aI G m14 30 bh] sz (fun (r : Int32) (u : (Nat → Int64)) => r.toInt = aSeating T Ns Np v x.toInt y.toInt ∧ MF 140 mw u) (fun (u : (Nat → Int64)) => [(m0, .inr (8, [.ref m1, .ref m2, .ref m3, .ref m4, .ref m5, .ref m6, .ref m7, .ref m8, .ref m9, .int fu, .int fd, .int fi, .int nu, .int nw, .int nf, .int bf, .int bn, .ref m10, .int ts, .int ap, .int fs, .int ln, .int fo, .int fa, .ref m11, .ref m12, .ref m13, .ref m14, .int wr])), aJ G m1 560 u, aZ G m2 2 ik, aI G m3 20 zs, aI G m4 20 cl, aI G m5 20 hs, aI G m6 20 ks, aI G m7 20 wa, aI G m8 20 ne, aI G m9 4 mn, aI G m10 400 tx, aI G m11 6 th, aI G m12 6 od, aI G m13 30 bk, aI G m14 30 bh]) :=
  c_X8_seating l G m0 m1 m2 m3 m4 m5 m6 m7 m8 m9 m10 m11 m12 m13 m14 sz mw ik zs cl hs ks wa ne mn tx th od bk bh fu fd fi nu nw nf bf bn ts ap fs ln fo fa wr x y T Ns Np v M (v_X8_seating l G m0 m1 m2 m3 m4 m5 m6 m7 m8 m9 m10 m11 m12 m13 m14 sz mw ik zs cl hs ks wa ne mn tx th od bk bh fu fd fi nu nw nf bf bn ts ap fs ln fo fa wr x y T Ns Np v M hp)

set_option maxHeartbeats 4000000 in
set_option maxRecDepth 100000 in
theorem c_X8_layOrder (l : Launch) (G : Gt) (m0 m1 m2 m3 m4 m5 m6 m7 m8 m9 m10 m11 m12 m13 m14 : Nat) (sz : Nat) (mw : Nat → Int64) (ik : Nat → Int32) (zs : Nat → Int32) (cl : Nat → Int32) (hs : Nat → Int32) (ks : Nat → Int32) (wa : Nat → Int32) (ne : Nat → Int32) (mn : Nat → Int32) (tx : Nat → Int32) (th : Nat → Int32) (od : Nat → Int32) (bk : Nat → Int32) (bh : Nat → Int32) (fu : Int32) (fd : Int32) (fi : Int32) (nu : Int32) (nw : Int32) (nf : Int32) (bf : Int32) (bn : Int32) (ts : Int32) (ap : Int32) (fs : Int32) (ln : Int32) (fo : Int32) (fa : Int32) (wr : Int32) (x : Int32) (y : Int32) (cq : Nat) (nq : Nat) (Av : Nat → Bool) (hv : ∃ (I11_3 : Int32 → Int32 → Prop) (μ11_4 : Int32 → Int32 → Nat), I11_3 1 2 ∧ (∀ (x5_1 : Int32) (x6_2 : Int32), I11_3 x5_1 x6_2 → (y ≤ x6_2 → ∃ (I33_13 : (Nat → Int32) → Int32 → Int32 → Int32 → Int32 → Prop) (μ33_14 : (Nat → Int32) → Int32 → Int32 → Int32 → Int32 → Nat), I33_13 od 0 x x5_1 0 ∧ (∀ (fm12_8 : (Nat → Int32)) (x3_9 : Int32) (x4_10 : Int32) (x5_11 : Int32) (x6_12 : Int32), I33_13 fm12_8 x3_9 x4_10 x5_11 x6_12 → (y ≤ x6_12 → (∀ k, k < nq → fm12_8 k = nI ((ordL nq Av cq).getD k 0))) ∧ (¬ (y ≤ x6_12) → (¬ x5_11 = 0) ∧ (∀ (y_18 : Int32), (y_18 = (x4_10 / x5_11)) → ((¬ x5_11 = 0) ∧ (∀ (y_19 : Int32), (y_19 = (x4_10 - x4_10 / x5_11 * x5_11)) → (∃ (J75_21 : Int32 → Prop), ((((y - 1) - x6_12) ≤ 0 → J75_21 1) ∧ (¬ (((y - 1) - x6_12) ≤ 0) → (¬ ((y - 1) - x6_12) = 0) ∧ (J75_21 (x5_11 / ((y - 1) - x6_12))))) ∧ (∀ (t0_20 : Int32), J75_21 t0_20 → ∃ (I80_26 : Int32 → Int32 → Prop) (μ80_27 : Int32 → Int32 → Nat), I80_26 y_18 0 ∧ (∀ (x7_24 : Int32) (x8_25 : Int32), I80_26 x7_24 x8_25 → (((x3_9 >>> (x8_25 &&& 31)) &&& 1) = 1 → ∃ (J111_32 : Int32 → Prop), ((¬ ((x3_9 >>> (x8_25 &&& 31)) &&& 1) = 0 → J111_32 0) ∧ (((x3_9 >>> (x8_25 &&& 31)) &&& 1) = 0 → J111_32 1)) ∧ (∀ (t0_31 : Int32), J111_32 t0_31 → ∀ (y_36 : Int32), (y_36 = (x7_24 - (if t0_31 = 0 then 0 else 1))) → (I80_26 y_36 (x8_25 + 1) ∧ μ80_27 y_36 (x8_25 + 1) < μ80_27 x7_24 x8_25))) ∧ (¬ (((x3_9 >>> (x8_25 &&& 31)) &&& 1) = 1) → (x7_24 ≤ 0 → ∀ (y_39 : Int32), (y_39 = (x3_9 ||| ((1 : Int32) <<< (x8_25 &&& 31)))) → ((vp_in x8_25 6) ∧ ((vp_in x6_12 6) ∧ (∀ (fm12_40 : (Nat → Int32)), (fm12_40 = (upd fm12_8 x6_12.toNatClampNeg (th x8_25.toNatClampNeg))) → (I33_13 fm12_40 y_39 y_19 t0_20 (x6_12 + 1) ∧ μ33_14 fm12_40 y_39 y_19 t0_20 (x6_12 + 1) < μ33_14 fm12_8 x3_9 x4_10 x5_11 x6_12))))) ∧ (¬ (x7_24 ≤ 0) → ∃ (J111_42 : Int32 → Prop), ((¬ ((x3_9 >>> (x8_25 &&& 31)) &&& 1) = 0 → J111_42 0) ∧ (((x3_9 >>> (x8_25 &&& 31)) &&& 1) = 0 → J111_42 1)) ∧ (∀ (t0_41 : Int32), J111_42 t0_41 → ∀ (y_46 : Int32), (y_46 = (x7_24 - (if t0_41 = 0 then 0 else 1))) → (I80_26 y_46 (x8_25 + 1) ∧ μ80_27 y_46 (x8_25 + 1) < μ80_27 x7_24 x8_25))))))))))))) ∧ (¬ (y ≤ x6_2) → ∀ (y_55 : Int32), (y_55 = (x5_1 * x6_2)) → (I11_3 y_55 (x6_2 + 1) ∧ μ11_4 y_55 (x6_2 + 1) < μ11_4 x5_1 x6_2)))) : MetV l yX8_layOrder wsX8_layOrder 1 20 G [.ref m0, .int x, .int y] [(m0, .inr (8, [.ref m1, .ref m2, .ref m3, .ref m4, .ref m5, .ref m6, .ref m7, .ref m8, .ref m9, .int fu, .int fd, .int fi, .int nu, .int nw, .int nf, .int bf, .int bn, .ref m10, .int ts, .int ap, .int fs, .int ln, .int fo, .int fa, .ref m11, .ref m12, .ref m13, .ref m14, .int wr])), aJ G m1 560 mw, aZ G m2 2 ik, aI G m3 20 zs, aI G m4 20 cl, aI G m5 20 hs, aI G m6 20 ks, aI G m7 20 wa, aI G m8 20 ne, aI G m9 4 mn, aI G m10 400 tx, aI G m11 6 th, aI G m12 6 od, aI G m13 30 bk, aI G m14 30 bh] sz (fun (u : (Nat → Int32)) => (∀ k, k < nq → u k = nI ((ordL nq Av cq).getD k 0))) (fun (u : (Nat → Int32)) => [(m0, .inr (8, [.ref m1, .ref m2, .ref m3, .ref m4, .ref m5, .ref m6, .ref m7, .ref m8, .ref m9, .int fu, .int fd, .int fi, .int nu, .int nw, .int nf, .int bf, .int bn, .ref m10, .int ts, .int ap, .int fs, .int ln, .int fo, .int fa, .ref m11, .ref m12, .ref m13, .ref m14, .int wr])), aJ G m1 560 mw, aZ G m2 2 ik, aI G m3 20 zs, aI G m4 20 cl, aI G m5 20 hs, aI G m6 20 ks, aI G m7 20 wa, aI G m8 20 ne, aI G m9 4 mn, aI G m10 400 tx, aI G m11 6 th, aI G m12 6 u, aI G m13 30 bk, aI G m14 30 bh]) := by
  refine x_startV (cc := cX8_layOrder) (maxL := 9) (ret := none) (by decide) rfl (Nat.le_of_ble_eq_true rfl) ?_
  intro p e s m args below meth c A R Q ls hRf hRl hQ C hP hD hS hA hSS hl
  obtain ⟨hx, hb, hr, hml, hown, hts, hlocks, hKK⟩ := C
  have hown : s.vm.findClass RX8 = some m.cls := hown
  have hl : lv_has ls 9 [(0, .ref m0), (1, .int x), (2, .int y)] := hl
  have hinX8 : ∀ w ∈ u_ws RX8 TX8 29, w ∈ wsX8_layOrder := by decide +kernel
  have kl52 := hts (.fieldLink RX8 52 "WarmStonesModel" "those" "[I") (by decide +kernel)
  have kl55 := hts (.fieldLink RX8 55 "WarmStonesModel" "order" "[I") (by decide +kernel)
  refine lv_iconst (v := 0) hx hb dX8_layOrder_0 (by decide) ?_
  refine lv_istore_n (lv' := [(3, .int 0), (0, .ref m0), (1, .int x), (2, .int y)]) hx hb dX8_layOrder_1 rfl hl (by decide) rfl (fun ls hl => ?_)
  refine lv_iload_n hx hb dX8_layOrder_2 rfl (lv_at hl 2 rfl) ?_
  refine lv_istore (lv' := [(4, .int x), (3, .int 0), (0, .ref m0), (1, .int x), (2, .int y)]) hx hb dX8_layOrder_3 hl (by decide) rfl (fun ls hl => ?_)
  refine lv_iconst (v := 1) hx hb dX8_layOrder_5 (by decide) ?_
  refine lv_istore (lv' := [(5, .int 1), (4, .int x), (3, .int 0), (0, .ref m0), (1, .int x), (2, .int y)]) hx hb dX8_layOrder_6 hl (by decide) rfl (fun ls hl => ?_)
  refine lv_iconst (v := 2) hx hb dX8_layOrder_8 (by decide) ?_
  refine lv_istore (lv' := [(6, .int 2), (5, .int 1), (4, .int x), (3, .int 0), (0, .ref m0), (1, .int x), (2, .int y)]) hx hb dX8_layOrder_9 hl (by decide) rfl (fun ls hl => ?_)
  obtain ⟨I11_3, μ11_4, hi0, hs_56⟩ := hv
  have Lm_58 : ∀ (n_57 : Nat) (x5_1 : Int32) (x6_2 : Int32) (H : Heap) (locs : List Loc) (ls : Array Slot), μ11_4 x5_1 x6_2 < n_57 → I11_3 x5_1 x6_2 → va_P G.1 vwCl [(m0, .inr (8, [.ref m1, .ref m2, .ref m3, .ref m4, .ref m5, .ref m6, .ref m7, .ref m8, .ref m9, .int fu, .int fd, .int fi, .int nu, .int nw, .int nf, .int bf, .int bn, .ref m10, .int ts, .int ap, .int fs, .int ln, .int fo, .int fa, .ref m11, .ref m12, .ref m13, .ref m14, .int wr])), aJ G m1 560 mw, aZ G m2 2 ik, aI G m3 20 zs, aI G m4 20 cl, aI G m5 20 hs, aI G m6 20 ks, aI G m7 20 wa, aI G m8 20 ne, aI G m9 4 mn, aI G m10 400 tx, aI G m11 6 th, aI G m12 6 od, aI G m13 30 bk, aI G m14 30 bh] H → va_D A [(m0, .inr (8, [.ref m1, .ref m2, .ref m3, .ref m4, .ref m5, .ref m6, .ref m7, .ref m8, .ref m9, .int fu, .int fd, .int fi, .int nu, .int nw, .int nf, .int bf, .int bn, .ref m10, .int ts, .int ap, .int fs, .int ln, .int fo, .int fa, .ref m11, .ref m12, .ref m13, .ref m14, .int wr])), aJ G m1 560 mw, aZ G m2 2 ik, aI G m3 20 zs, aI G m4 20 cl, aI G m5 20 hs, aI G m6 20 ks, aI G m7 20 wa, aI G m8 20 ne, aI G m9 4 mn, aI G m10 400 tx, aI G m11 6 th, aI G m12 6 od, aI G m13 30 bk, aI G m14 30 bh] → va_S A s.heap H locs → lv_has ls 9 [(6, .int x6_2), (5, .int x5_1), (4, .int x), (3, .int 0), (0, .ref m0), (1, .int x), (2, .int y)] → W p l e R s m args below meth c H locs 0 0 Q (F0 m 11 ls []) := by
    intro n_57
    induction n_57 with
    | zero => intro x5_1 x6_2 H locs ls hm; exact absurd hm (Nat.not_lt_zero _)
    | succ n_57 ih_5 =>
      intro x5_1 x6_2 H locs ls hI_6 hi hP hD hS hl
      have hv := hs_56 x5_1 x6_2 hi
      refine lv_iload hx hb dX8_layOrder_11 (lv_at hl 0 rfl) ?_
      refine lv_iload_n hx hb dX8_layOrder_13 rfl (lv_at hl 6 rfl) ?_
      refine lv_icmp_ge (tgt := 30) hx hb dX8_layOrder_14 (by decide) (fun hc_7 => ?_) (fun hc_7 => ?_)
      · have hv := hv.1 hc_7
        refine lv_iconst (v := 0) hx hb dX8_layOrder_30 (by decide) ?_
        refine lv_istore (lv' := [(6, .int 0), (5, .int x5_1), (4, .int x), (3, .int 0), (0, .ref m0), (1, .int x), (2, .int y)]) hx hb dX8_layOrder_31 hl (by decide) rfl (fun ls hl => ?_)
        obtain ⟨I33_13, μ33_14, hi0, hs_52⟩ := hv
        have Lm_54 : ∀ (n_53 : Nat) (fm12_8 : (Nat → Int32)) (x3_9 : Int32) (x4_10 : Int32) (x5_11 : Int32) (x6_12 : Int32) (H : Heap) (locs : List Loc) (ls : Array Slot), μ33_14 fm12_8 x3_9 x4_10 x5_11 x6_12 < n_53 → I33_13 fm12_8 x3_9 x4_10 x5_11 x6_12 → va_P G.1 vwCl [(m0, .inr (8, [.ref m1, .ref m2, .ref m3, .ref m4, .ref m5, .ref m6, .ref m7, .ref m8, .ref m9, .int fu, .int fd, .int fi, .int nu, .int nw, .int nf, .int bf, .int bn, .ref m10, .int ts, .int ap, .int fs, .int ln, .int fo, .int fa, .ref m11, .ref m12, .ref m13, .ref m14, .int wr])), aJ G m1 560 mw, aZ G m2 2 ik, aI G m3 20 zs, aI G m4 20 cl, aI G m5 20 hs, aI G m6 20 ks, aI G m7 20 wa, aI G m8 20 ne, aI G m9 4 mn, aI G m10 400 tx, aI G m11 6 th, aI G m12 6 fm12_8, aI G m13 30 bk, aI G m14 30 bh] H → va_D A [(m0, .inr (8, [.ref m1, .ref m2, .ref m3, .ref m4, .ref m5, .ref m6, .ref m7, .ref m8, .ref m9, .int fu, .int fd, .int fi, .int nu, .int nw, .int nf, .int bf, .int bn, .ref m10, .int ts, .int ap, .int fs, .int ln, .int fo, .int fa, .ref m11, .ref m12, .ref m13, .ref m14, .int wr])), aJ G m1 560 mw, aZ G m2 2 ik, aI G m3 20 zs, aI G m4 20 cl, aI G m5 20 hs, aI G m6 20 ks, aI G m7 20 wa, aI G m8 20 ne, aI G m9 4 mn, aI G m10 400 tx, aI G m11 6 th, aI G m12 6 fm12_8, aI G m13 30 bk, aI G m14 30 bh] → va_S A s.heap H locs → lv_has ls 9 [(6, .int x6_12), (5, .int x5_11), (4, .int x4_10), (3, .int x3_9), (0, .ref m0), (1, .int x), (2, .int y)] → W p l e R s m args below meth c H locs 0 0 Q (F0 m 33 ls []) := by
          intro n_53
          induction n_53 with
          | zero => intro fm12_8 x3_9 x4_10 x5_11 x6_12 H locs ls hm; exact absurd hm (Nat.not_lt_zero _)
          | succ n_53 ih_15 =>
            intro fm12_8 x3_9 x4_10 x5_11 x6_12 H locs ls hI_16 hi hP hD hS hl
            have hv := hs_52 fm12_8 x3_9 x4_10 x5_11 x6_12 hi
            refine lv_iload hx hb dX8_layOrder_33 (lv_at hl 0 rfl) ?_
            refine lv_iload_n hx hb dX8_layOrder_35 rfl (lv_at hl 6 rfl) ?_
            refine lv_icmp_ge (tgt := 150) hx hb dX8_layOrder_36 (by decide) (fun hc_17 => ?_) (fun hc_17 => ?_)
            · have hv := hv.1 hc_17
              exact x_vret fm12_8 hQ hx hb hr hlocks hS dX8_layOrder_150 hv hP hD
            · have hv := hv.2 hc_17
              refine lv_iload hx hb dX8_layOrder_39 (lv_at hl 2 rfl) ?_
              refine lv_iload hx hb dX8_layOrder_41 (lv_at hl 1 rfl) ?_
              obtain ⟨hne, hv⟩ := hv
              refine lv_idiv hx hb dX8_layOrder_43 hne ?_
              refine lv_topi (fun y_18 ey => ?_)
              have hv := hv y_18 ey
              refine lv_istore (lv' := [(7, .int y_18), (6, .int x6_12), (5, .int x5_11), (4, .int x4_10), (3, .int x3_9), (0, .ref m0), (1, .int x), (2, .int y)]) hx hb dX8_layOrder_44 hl (by decide) rfl (fun ls hl => ?_)
              refine lv_iload hx hb dX8_layOrder_46 (lv_at hl 3 rfl) ?_
              refine lv_iload hx hb dX8_layOrder_48 (lv_at hl 2 rfl) ?_
              obtain ⟨hne, hv⟩ := hv
              refine lv_irem hx hb dX8_layOrder_50 hne ?_
              refine lv_topi (fun y_19 ey => ?_)
              have hv := hv y_19 ey
              refine lv_istore (lv' := [(4, .int y_19), (7, .int y_18), (6, .int x6_12), (5, .int x5_11), (3, .int x3_9), (0, .ref m0), (1, .int x), (2, .int y)]) hx hb dX8_layOrder_51 hl (by decide) rfl (fun ls hl => ?_)
              refine lv_iload_n hx hb dX8_layOrder_53 rfl (lv_at hl 7 rfl) ?_
              refine lv_iconst (v := 1) hx hb dX8_layOrder_54 (by decide) ?_
              refine lv_isub hx hb dX8_layOrder_55 ?_
              refine lv_iload hx hb dX8_layOrder_56 (lv_at hl 2 rfl) ?_
              refine lv_isub hx hb dX8_layOrder_58 ?_
              obtain ⟨J75_21, hv, hj_51⟩ := hv
              have K_22 : ∀ (t0_20 : Int32) (H : Heap) (locs : List Loc) (ls : Array Slot), J75_21 t0_20 → va_P G.1 vwCl [(m0, .inr (8, [.ref m1, .ref m2, .ref m3, .ref m4, .ref m5, .ref m6, .ref m7, .ref m8, .ref m9, .int fu, .int fd, .int fi, .int nu, .int nw, .int nf, .int bf, .int bn, .ref m10, .int ts, .int ap, .int fs, .int ln, .int fo, .int fa, .ref m11, .ref m12, .ref m13, .ref m14, .int wr])), aJ G m1 560 mw, aZ G m2 2 ik, aI G m3 20 zs, aI G m4 20 cl, aI G m5 20 hs, aI G m6 20 ks, aI G m7 20 wa, aI G m8 20 ne, aI G m9 4 mn, aI G m10 400 tx, aI G m11 6 th, aI G m12 6 fm12_8, aI G m13 30 bk, aI G m14 30 bh] H → va_D A [(m0, .inr (8, [.ref m1, .ref m2, .ref m3, .ref m4, .ref m5, .ref m6, .ref m7, .ref m8, .ref m9, .int fu, .int fd, .int fi, .int nu, .int nw, .int nf, .int bf, .int bn, .ref m10, .int ts, .int ap, .int fs, .int ln, .int fo, .int fa, .ref m11, .ref m12, .ref m13, .ref m14, .int wr])), aJ G m1 560 mw, aZ G m2 2 ik, aI G m3 20 zs, aI G m4 20 cl, aI G m5 20 hs, aI G m6 20 ks, aI G m7 20 wa, aI G m8 20 ne, aI G m9 4 mn, aI G m10 400 tx, aI G m11 6 th, aI G m12 6 fm12_8, aI G m13 30 bk, aI G m14 30 bh] → va_S A s.heap H locs → lv_has ls 9 [(4, .int y_19), (7, .int y_18), (6, .int x6_12), (5, .int x5_11), (3, .int x3_9), (0, .ref m0), (1, .int x), (2, .int y)] → W p l e R s m args below meth c H locs 0 0 Q (F0 m 75 ls [.int t0_20]) := by
                intro t0_20 H locs ls hi hP hD hS hl
                have hv := hj_51 t0_20 hi
                refine lv_istore (lv' := [(5, .int t0_20), (4, .int y_19), (7, .int y_18), (6, .int x6_12), (3, .int x3_9), (0, .ref m0), (1, .int x), (2, .int y)]) hx hb dX8_layOrder_75 hl (by decide) rfl (fun ls hl => ?_)
                refine lv_iconst (v := 0) hx hb dX8_layOrder_77 (by decide) ?_
                refine lv_istore (lv' := [(8, .int 0), (5, .int t0_20), (4, .int y_19), (7, .int y_18), (6, .int x6_12), (3, .int x3_9), (0, .ref m0), (1, .int x), (2, .int y)]) hx hb dX8_layOrder_78 hl (by decide) rfl (fun ls hl => ?_)
                obtain ⟨I80_26, μ80_27, hi0, hs_48⟩ := hv
                have Lm_50 : ∀ (n_49 : Nat) (x7_24 : Int32) (x8_25 : Int32) (H : Heap) (locs : List Loc) (ls : Array Slot), μ80_27 x7_24 x8_25 < n_49 → I80_26 x7_24 x8_25 → va_P G.1 vwCl [(m0, .inr (8, [.ref m1, .ref m2, .ref m3, .ref m4, .ref m5, .ref m6, .ref m7, .ref m8, .ref m9, .int fu, .int fd, .int fi, .int nu, .int nw, .int nf, .int bf, .int bn, .ref m10, .int ts, .int ap, .int fs, .int ln, .int fo, .int fa, .ref m11, .ref m12, .ref m13, .ref m14, .int wr])), aJ G m1 560 mw, aZ G m2 2 ik, aI G m3 20 zs, aI G m4 20 cl, aI G m5 20 hs, aI G m6 20 ks, aI G m7 20 wa, aI G m8 20 ne, aI G m9 4 mn, aI G m10 400 tx, aI G m11 6 th, aI G m12 6 fm12_8, aI G m13 30 bk, aI G m14 30 bh] H → va_D A [(m0, .inr (8, [.ref m1, .ref m2, .ref m3, .ref m4, .ref m5, .ref m6, .ref m7, .ref m8, .ref m9, .int fu, .int fd, .int fi, .int nu, .int nw, .int nf, .int bf, .int bn, .ref m10, .int ts, .int ap, .int fs, .int ln, .int fo, .int fa, .ref m11, .ref m12, .ref m13, .ref m14, .int wr])), aJ G m1 560 mw, aZ G m2 2 ik, aI G m3 20 zs, aI G m4 20 cl, aI G m5 20 hs, aI G m6 20 ks, aI G m7 20 wa, aI G m8 20 ne, aI G m9 4 mn, aI G m10 400 tx, aI G m11 6 th, aI G m12 6 fm12_8, aI G m13 30 bk, aI G m14 30 bh] → va_S A s.heap H locs → lv_has ls 9 [(8, .int x8_25), (5, .int t0_20), (4, .int y_19), (7, .int x7_24), (6, .int x6_12), (3, .int x3_9), (0, .ref m0), (1, .int x), (2, .int y)] → W p l e R s m args below meth c H locs 0 0 Q (F0 m 80 ls []) := by
                  intro n_49
                  induction n_49 with
                  | zero => intro x7_24 x8_25 H locs ls hm; exact absurd hm (Nat.not_lt_zero _)
                  | succ n_49 ih_28 =>
                    intro x7_24 x8_25 H locs ls hI_29 hi hP hD hS hl
                    have hv := hs_48 x7_24 x8_25 hi
                    refine lv_iload_n hx hb dX8_layOrder_80 rfl (lv_at hl 5 rfl) ?_
                    refine lv_iload hx hb dX8_layOrder_81 (lv_at hl 0 rfl) ?_
                    refine lv_ishr hx hb dX8_layOrder_83 ?_
                    refine lv_iconst (v := 1) hx hb dX8_layOrder_84 (by decide) ?_
                    refine lv_iand hx hb dX8_layOrder_85 ?_
                    refine lv_iconst (v := 1) hx hb dX8_layOrder_86 (by decide) ?_
                    refine lv_icmp_eq (tgt := 95) hx hb dX8_layOrder_87 (by decide) (fun hc_30 => ?_) (fun hc_30 => ?_)
                    · have hv := hv.1 hc_30
                      refine lv_iload hx hb dX8_layOrder_95 (lv_at hl 3 rfl) ?_
                      refine lv_iload_n hx hb dX8_layOrder_97 rfl (lv_at hl 5 rfl) ?_
                      refine lv_iload hx hb dX8_layOrder_98 (lv_at hl 0 rfl) ?_
                      refine lv_ishr hx hb dX8_layOrder_100 ?_
                      refine lv_iconst (v := 1) hx hb dX8_layOrder_101 (by decide) ?_
                      refine lv_iand hx hb dX8_layOrder_102 ?_
                      obtain ⟨J111_32, hv, hj_37⟩ := hv
                      have K_33 : ∀ (t0_31 : Int32) (H : Heap) (locs : List Loc) (ls : Array Slot), J111_32 t0_31 → va_P G.1 vwCl [(m0, .inr (8, [.ref m1, .ref m2, .ref m3, .ref m4, .ref m5, .ref m6, .ref m7, .ref m8, .ref m9, .int fu, .int fd, .int fi, .int nu, .int nw, .int nf, .int bf, .int bn, .ref m10, .int ts, .int ap, .int fs, .int ln, .int fo, .int fa, .ref m11, .ref m12, .ref m13, .ref m14, .int wr])), aJ G m1 560 mw, aZ G m2 2 ik, aI G m3 20 zs, aI G m4 20 cl, aI G m5 20 hs, aI G m6 20 ks, aI G m7 20 wa, aI G m8 20 ne, aI G m9 4 mn, aI G m10 400 tx, aI G m11 6 th, aI G m12 6 fm12_8, aI G m13 30 bk, aI G m14 30 bh] H → va_D A [(m0, .inr (8, [.ref m1, .ref m2, .ref m3, .ref m4, .ref m5, .ref m6, .ref m7, .ref m8, .ref m9, .int fu, .int fd, .int fi, .int nu, .int nw, .int nf, .int bf, .int bn, .ref m10, .int ts, .int ap, .int fs, .int ln, .int fo, .int fa, .ref m11, .ref m12, .ref m13, .ref m14, .int wr])), aJ G m1 560 mw, aZ G m2 2 ik, aI G m3 20 zs, aI G m4 20 cl, aI G m5 20 hs, aI G m6 20 ks, aI G m7 20 wa, aI G m8 20 ne, aI G m9 4 mn, aI G m10 400 tx, aI G m11 6 th, aI G m12 6 fm12_8, aI G m13 30 bk, aI G m14 30 bh] → va_S A s.heap H locs → lv_has ls 9 [(8, .int x8_25), (5, .int t0_20), (4, .int y_19), (7, .int x7_24), (6, .int x6_12), (3, .int x3_9), (0, .ref m0), (1, .int x), (2, .int y)] → W p l e R s m args below meth c H locs 0 0 Q (F0 m 111 ls [.int t0_31, .int x7_24]) := by
                        intro t0_31 H locs ls hi hP hD hS hl
                        have hv := hj_37 t0_31 hi
                        refine x_calliR (x_runS (As := [.int t0_31]) (rest := [.int x7_24]) (n := 1) ⟨hx, hb, hml, hown, hts⟩ (k_X8_one l G  _ t0_31) gX8_layOrder_X8_one rfl (by decide +kernel) ⟨Nat.le_trans (Nat.le_of_ble_eq_true rfl) hRf, Nat.le_trans (Nat.le_of_ble_eq_true rfl) hRl⟩ hKK hSS hS hA hP hD [] (by decide) rfl rfl hl.1 rfl (Nat.le_of_ble_eq_true rfl) dX8_layOrder_111) hP hD hS hA [] rfl (fun r_35 _ H locs hw hP hS => ?_)
                        replace hw := hw.symm; subst hw
                        refine lv_isub hx hb dX8_layOrder_114 ?_
                        refine lv_topi (fun y_36 ey => ?_)
                        have hv := hv y_36 ey
                        refine lv_istore (lv' := [(7, .int y_36), (8, .int x8_25), (5, .int t0_20), (4, .int y_19), (6, .int x6_12), (3, .int x3_9), (0, .ref m0), (1, .int x), (2, .int y)]) hx hb dX8_layOrder_115 hl (by decide) rfl (fun ls hl => ?_)
                        refine lv_iinc (v := (x8_25 + 1)) (lv' := [(8, .int (x8_25 + 1)), (7, .int y_36), (5, .int t0_20), (4, .int y_19), (6, .int x6_12), (3, .int x3_9), (0, .ref m0), (1, .int x), (2, .int y)]) hx hb dX8_layOrder_117 hl (k := 1) rfl rfl (by decide) rfl (fun ls hl => ?_)
                        refine lv_goto (tgt := 80) hx hb dX8_layOrder_120 (by decide) ?_
                        exact ih_28 _ _ _ _ _ (Nat.lt_of_lt_of_le hv.2 (Nat.le_of_lt_succ hI_29)) hv.1 hP hD hS (lv_sub hl [0, 2, 3, 1, 4, 5, 6, 7, 8] rfl)
                      refine lv_if_ne (tgt := 110) hx hb dX8_layOrder_103 (by decide) (fun hc_34 => ?_) (fun hc_34 => ?_)
                      · have hv := hv.1 hc_34
                        refine lv_iconst (v := 0) hx hb dX8_layOrder_110 (by decide) ?_
                        exact K_33 _ _ _ _ hv hP hD hS hl
                      · have hv := hv.2 hc_34
                        refine lv_iconst (v := 1) hx hb dX8_layOrder_106 (by decide) ?_
                        refine lv_goto (tgt := 111) hx hb dX8_layOrder_107 (by decide) ?_
                        exact K_33 _ _ _ _ hv hP hD hS hl
                    · have hv := hv.2 hc_30
                      refine lv_iload hx hb dX8_layOrder_90 (lv_at hl 3 rfl) ?_
                      refine lv_if_le (tgt := 123) hx hb dX8_layOrder_92 (by decide) (fun hc_38 => ?_) (fun hc_38 => ?_)
                      · have hv := hv.1 hc_38
                        refine lv_iload_n hx hb dX8_layOrder_123 rfl (lv_at hl 5 rfl) ?_
                        refine lv_iconst (v := 1) hx hb dX8_layOrder_124 (by decide) ?_
                        refine lv_iload hx hb dX8_layOrder_125 (lv_at hl 0 rfl) ?_
                        refine lv_ishl hx hb dX8_layOrder_127 ?_
                        refine lv_ior hx hb dX8_layOrder_128 ?_
                        refine lv_topi (fun y_39 ey => ?_)
                        have hv := hv y_39 ey
                        refine lv_istore_n (lv' := [(3, .int y_39), (8, .int x8_25), (5, .int t0_20), (4, .int y_19), (7, .int x7_24), (6, .int x6_12), (0, .ref m0), (1, .int x), (2, .int y)]) hx hb dX8_layOrder_129 rfl hl (by decide) rfl (fun ls hl => ?_)
                        refine lv_aload_n hx hb dX8_layOrder_130 rfl (lv_at hl 6 rfl) ?_
                        refine va_get (D := G.1) (ci := 8) (v := .ref m12) (C := RX8) (T := TX8) (N := 29) hx hb hts hinX8 hown hKK.1 hP 0 rfl rfl 25 (by decide) kl55 (fun _ h9 => h9) rfl dX8_layOrder_131 ?_
                        refine lv_iload hx hb dX8_layOrder_134 (lv_at hl 5 rfl) ?_
                        refine lv_aload_n hx hb dX8_layOrder_136 rfl (lv_at hl 6 rfl) ?_
                        refine va_get (D := G.1) (ci := 8) (v := .ref m11) (C := RX8) (T := TX8) (N := 29) hx hb hts hinX8 hown hKK.1 hP 0 rfl rfl 24 (by decide) kl52 (fun _ h9 => h9) rfl dX8_layOrder_137 ?_
                        refine lv_iload hx hb dX8_layOrder_140 (lv_at hl 1 rfl) ?_
                        obtain ⟨hin, hv⟩ := hv
                        refine va_iald hx hb hKK.1 hP 11 0 rfl rfl hin dX8_layOrder_142 ?_
                        obtain ⟨hin, hv⟩ := hv
                        refine va_iast hx hb hKK.1 hP hD hS 12 0 rfl rfl hin dX8_layOrder_143 (fun H locs hP hD hS => ?_)
                        obtain ⟨fm12_40, ef⟩ : ∃ z9_, z9_ = (upd fm12_8 x6_12.toNatClampNeg (th x8_25.toNatClampNeg)) := ⟨_, rfl⟩
                        have hP : va_P G.1 vwCl [(m0, .inr (8, [.ref m1, .ref m2, .ref m3, .ref m4, .ref m5, .ref m6, .ref m7, .ref m8, .ref m9, .int fu, .int fd, .int fi, .int nu, .int nw, .int nf, .int bf, .int bn, .ref m10, .int ts, .int ap, .int fs, .int ln, .int fo, .int fa, .ref m11, .ref m12, .ref m13, .ref m14, .int wr])), aJ G m1 560 mw, aZ G m2 2 ik, aI G m3 20 zs, aI G m4 20 cl, aI G m5 20 hs, aI G m6 20 ks, aI G m7 20 wa, aI G m8 20 ne, aI G m9 4 mn, aI G m10 400 tx, aI G m11 6 th, aI G m12 6 fm12_40, aI G m13 30 bk, aI G m14 30 bh] H := by rw [ef]; exact hP
                        have hD : va_D A [(m0, .inr (8, [.ref m1, .ref m2, .ref m3, .ref m4, .ref m5, .ref m6, .ref m7, .ref m8, .ref m9, .int fu, .int fd, .int fi, .int nu, .int nw, .int nf, .int bf, .int bn, .ref m10, .int ts, .int ap, .int fs, .int ln, .int fo, .int fa, .ref m11, .ref m12, .ref m13, .ref m14, .int wr])), aJ G m1 560 mw, aZ G m2 2 ik, aI G m3 20 zs, aI G m4 20 cl, aI G m5 20 hs, aI G m6 20 ks, aI G m7 20 wa, aI G m8 20 ne, aI G m9 4 mn, aI G m10 400 tx, aI G m11 6 th, aI G m12 6 fm12_40, aI G m13 30 bk, aI G m14 30 bh] := by rw [ef]; exact hD
                        have hv := hv fm12_40 ef
                        refine lv_iinc (v := (x6_12 + 1)) (lv' := [(6, .int (x6_12 + 1)), (3, .int y_39), (8, .int x8_25), (5, .int t0_20), (4, .int y_19), (7, .int x7_24), (0, .ref m0), (1, .int x), (2, .int y)]) hx hb dX8_layOrder_144 hl (k := 5) rfl rfl (by decide) rfl (fun ls hl => ?_)
                        refine lv_goto (tgt := 33) hx hb dX8_layOrder_147 (by decide) ?_
                        exact ih_15 _ _ _ _ _ _ _ _ (Nat.lt_of_lt_of_le hv.2 (Nat.le_of_lt_succ hI_16)) hv.1 hP hD hS (lv_sub hl [0, 3, 4, 1, 6, 7, 8] rfl)
                      · have hv := hv.2 hc_38
                        refine lv_iload hx hb dX8_layOrder_95 (lv_at hl 3 rfl) ?_
                        refine lv_iload_n hx hb dX8_layOrder_97 rfl (lv_at hl 5 rfl) ?_
                        refine lv_iload hx hb dX8_layOrder_98 (lv_at hl 0 rfl) ?_
                        refine lv_ishr hx hb dX8_layOrder_100 ?_
                        refine lv_iconst (v := 1) hx hb dX8_layOrder_101 (by decide) ?_
                        refine lv_iand hx hb dX8_layOrder_102 ?_
                        obtain ⟨J111_42, hv, hj_47⟩ := hv
                        have K_43 : ∀ (t0_41 : Int32) (H : Heap) (locs : List Loc) (ls : Array Slot), J111_42 t0_41 → va_P G.1 vwCl [(m0, .inr (8, [.ref m1, .ref m2, .ref m3, .ref m4, .ref m5, .ref m6, .ref m7, .ref m8, .ref m9, .int fu, .int fd, .int fi, .int nu, .int nw, .int nf, .int bf, .int bn, .ref m10, .int ts, .int ap, .int fs, .int ln, .int fo, .int fa, .ref m11, .ref m12, .ref m13, .ref m14, .int wr])), aJ G m1 560 mw, aZ G m2 2 ik, aI G m3 20 zs, aI G m4 20 cl, aI G m5 20 hs, aI G m6 20 ks, aI G m7 20 wa, aI G m8 20 ne, aI G m9 4 mn, aI G m10 400 tx, aI G m11 6 th, aI G m12 6 fm12_8, aI G m13 30 bk, aI G m14 30 bh] H → va_D A [(m0, .inr (8, [.ref m1, .ref m2, .ref m3, .ref m4, .ref m5, .ref m6, .ref m7, .ref m8, .ref m9, .int fu, .int fd, .int fi, .int nu, .int nw, .int nf, .int bf, .int bn, .ref m10, .int ts, .int ap, .int fs, .int ln, .int fo, .int fa, .ref m11, .ref m12, .ref m13, .ref m14, .int wr])), aJ G m1 560 mw, aZ G m2 2 ik, aI G m3 20 zs, aI G m4 20 cl, aI G m5 20 hs, aI G m6 20 ks, aI G m7 20 wa, aI G m8 20 ne, aI G m9 4 mn, aI G m10 400 tx, aI G m11 6 th, aI G m12 6 fm12_8, aI G m13 30 bk, aI G m14 30 bh] → va_S A s.heap H locs → lv_has ls 9 [(8, .int x8_25), (5, .int t0_20), (4, .int y_19), (7, .int x7_24), (6, .int x6_12), (3, .int x3_9), (0, .ref m0), (1, .int x), (2, .int y)] → W p l e R s m args below meth c H locs 0 0 Q (F0 m 111 ls [.int t0_41, .int x7_24]) := by
                          intro t0_41 H locs ls hi hP hD hS hl
                          have hv := hj_47 t0_41 hi
                          refine x_calliR (x_runS (As := [.int t0_41]) (rest := [.int x7_24]) (n := 1) ⟨hx, hb, hml, hown, hts⟩ (k_X8_one l G  _ t0_41) gX8_layOrder_X8_one rfl (by decide +kernel) ⟨Nat.le_trans (Nat.le_of_ble_eq_true rfl) hRf, Nat.le_trans (Nat.le_of_ble_eq_true rfl) hRl⟩ hKK hSS hS hA hP hD [] (by decide) rfl rfl hl.1 rfl (Nat.le_of_ble_eq_true rfl) dX8_layOrder_111) hP hD hS hA [] rfl (fun r_45 _ H locs hw hP hS => ?_)
                          replace hw := hw.symm; subst hw
                          refine lv_isub hx hb dX8_layOrder_114 ?_
                          refine lv_topi (fun y_46 ey => ?_)
                          have hv := hv y_46 ey
                          refine lv_istore (lv' := [(7, .int y_46), (8, .int x8_25), (5, .int t0_20), (4, .int y_19), (6, .int x6_12), (3, .int x3_9), (0, .ref m0), (1, .int x), (2, .int y)]) hx hb dX8_layOrder_115 hl (by decide) rfl (fun ls hl => ?_)
                          refine lv_iinc (v := (x8_25 + 1)) (lv' := [(8, .int (x8_25 + 1)), (7, .int y_46), (5, .int t0_20), (4, .int y_19), (6, .int x6_12), (3, .int x3_9), (0, .ref m0), (1, .int x), (2, .int y)]) hx hb dX8_layOrder_117 hl (k := 1) rfl rfl (by decide) rfl (fun ls hl => ?_)
                          refine lv_goto (tgt := 80) hx hb dX8_layOrder_120 (by decide) ?_
                          exact ih_28 _ _ _ _ _ (Nat.lt_of_lt_of_le hv.2 (Nat.le_of_lt_succ hI_29)) hv.1 hP hD hS (lv_sub hl [0, 2, 3, 1, 4, 5, 6, 7, 8] rfl)
                        refine lv_if_ne (tgt := 110) hx hb dX8_layOrder_103 (by decide) (fun hc_44 => ?_) (fun hc_44 => ?_)
                        · have hv := hv.1 hc_44
                          refine lv_iconst (v := 0) hx hb dX8_layOrder_110 (by decide) ?_
                          exact K_43 _ _ _ _ hv hP hD hS hl
                        · have hv := hv.2 hc_44
                          refine lv_iconst (v := 1) hx hb dX8_layOrder_106 (by decide) ?_
                          refine lv_goto (tgt := 111) hx hb dX8_layOrder_107 (by decide) ?_
                          exact K_43 _ _ _ _ hv hP hD hS hl
                exact Lm_50 _ _ _ _ _ _ (Nat.lt_succ_self _) hi0 hP hD hS hl
              refine lv_if_le (tgt := 74) hx hb dX8_layOrder_59 (by decide) (fun hc_23 => ?_) (fun hc_23 => ?_)
              · have hv := hv.1 hc_23
                refine lv_iconst (v := 1) hx hb dX8_layOrder_74 (by decide) ?_
                exact K_22 _ _ _ _ hv hP hD hS hl
              · have hv := hv.2 hc_23
                refine lv_iload hx hb dX8_layOrder_62 (lv_at hl 3 rfl) ?_
                refine lv_iload_n hx hb dX8_layOrder_64 rfl (lv_at hl 7 rfl) ?_
                refine lv_iconst (v := 1) hx hb dX8_layOrder_65 (by decide) ?_
                refine lv_isub hx hb dX8_layOrder_66 ?_
                refine lv_iload hx hb dX8_layOrder_67 (lv_at hl 2 rfl) ?_
                refine lv_isub hx hb dX8_layOrder_69 ?_
                obtain ⟨hne, hv⟩ := hv
                refine lv_idiv hx hb dX8_layOrder_70 hne ?_
                refine lv_goto (tgt := 75) hx hb dX8_layOrder_71 (by decide) ?_
                exact K_22 _ _ _ _ hv hP hD hS hl
        exact Lm_54 _ _ _ _ _ _ _ _ _ (Nat.lt_succ_self _) hi0 hP hD hS hl
      · have hv := hv.2 hc_7
        refine lv_iload hx hb dX8_layOrder_17 (lv_at hl 1 rfl) ?_
        refine lv_iload hx hb dX8_layOrder_19 (lv_at hl 0 rfl) ?_
        refine lv_imul hx hb dX8_layOrder_21 ?_
        refine lv_topi (fun y_55 ey => ?_)
        have hv := hv y_55 ey
        refine lv_istore (lv' := [(5, .int y_55), (6, .int x6_2), (4, .int x), (3, .int 0), (0, .ref m0), (1, .int x), (2, .int y)]) hx hb dX8_layOrder_22 hl (by decide) rfl (fun ls hl => ?_)
        refine lv_iinc (v := (x6_2 + 1)) (lv' := [(6, .int (x6_2 + 1)), (5, .int y_55), (4, .int x), (3, .int 0), (0, .ref m0), (1, .int x), (2, .int y)]) hx hb dX8_layOrder_24 hl (k := 1) rfl rfl (by decide) rfl (fun ls hl => ?_)
        refine lv_goto (tgt := 11) hx hb dX8_layOrder_27 (by decide) ?_
        exact ih_5 _ _ _ _ _ (Nat.lt_of_lt_of_le hv.2 (Nat.le_of_lt_succ hI_6)) hv.1 hP hD hS hl
  exact Lm_58 _ _ _ _ _ _ (Nat.lt_succ_self _) hi0 hP hD hS hl
theorem v_X8_layOrder (l : Launch) (G : Gt) (m0 m1 m2 m3 m4 m5 m6 m7 m8 m9 m10 m11 m12 m13 m14 : Nat) (sz : Nat) (mw : Nat → Int64) (ik : Nat → Int32) (zs : Nat → Int32) (cl : Nat → Int32) (hs : Nat → Int32) (ks : Nat → Int32) (wa : Nat → Int32) (ne : Nat → Int32) (mn : Nat → Int32) (tx : Nat → Int32) (th : Nat → Int32) (od : Nat → Int32) (bk : Nat → Int32) (bh : Nat → Int32) (fu : Int32) (fd : Int32) (fi : Int32) (nu : Int32) (nw : Int32) (nf : Int32) (bf : Int32) (bn : Int32) (ts : Int32) (ap : Int32) (fs : Int32) (ln : Int32) (fo : Int32) (fa : Int32) (wr : Int32) (x : Int32) (y : Int32) (cq : Nat) (nq : Nat) (Av : Nat → Bool) (hp : x = nI cq ∧ y = nI nq ∧ 1 ≤ nq ∧ nq ≤ 6 ∧ cq < fac nq ∧ cntA Av 8 = nq ∧ (∀ i, i < nq → th i = nI (nthA Av i 8))) : ∃ (I11_3 : Int32 → Int32 → Prop) (μ11_4 : Int32 → Int32 → Nat), I11_3 1 2 ∧ (∀ (x5_1 : Int32) (x6_2 : Int32), I11_3 x5_1 x6_2 → (y ≤ x6_2 → ∃ (I33_13 : (Nat → Int32) → Int32 → Int32 → Int32 → Int32 → Prop) (μ33_14 : (Nat → Int32) → Int32 → Int32 → Int32 → Int32 → Nat), I33_13 od 0 x x5_1 0 ∧ (∀ (fm12_8 : (Nat → Int32)) (x3_9 : Int32) (x4_10 : Int32) (x5_11 : Int32) (x6_12 : Int32), I33_13 fm12_8 x3_9 x4_10 x5_11 x6_12 → (y ≤ x6_12 → (∀ k, k < nq → fm12_8 k = nI ((ordL nq Av cq).getD k 0))) ∧ (¬ (y ≤ x6_12) → (¬ x5_11 = 0) ∧ (∀ (y_18 : Int32), (y_18 = (x4_10 / x5_11)) → ((¬ x5_11 = 0) ∧ (∀ (y_19 : Int32), (y_19 = (x4_10 - x4_10 / x5_11 * x5_11)) → (∃ (J75_21 : Int32 → Prop), ((((y - 1) - x6_12) ≤ 0 → J75_21 1) ∧ (¬ (((y - 1) - x6_12) ≤ 0) → (¬ ((y - 1) - x6_12) = 0) ∧ (J75_21 (x5_11 / ((y - 1) - x6_12))))) ∧ (∀ (t0_20 : Int32), J75_21 t0_20 → ∃ (I80_26 : Int32 → Int32 → Prop) (μ80_27 : Int32 → Int32 → Nat), I80_26 y_18 0 ∧ (∀ (x7_24 : Int32) (x8_25 : Int32), I80_26 x7_24 x8_25 → (((x3_9 >>> (x8_25 &&& 31)) &&& 1) = 1 → ∃ (J111_32 : Int32 → Prop), ((¬ ((x3_9 >>> (x8_25 &&& 31)) &&& 1) = 0 → J111_32 0) ∧ (((x3_9 >>> (x8_25 &&& 31)) &&& 1) = 0 → J111_32 1)) ∧ (∀ (t0_31 : Int32), J111_32 t0_31 → ∀ (y_36 : Int32), (y_36 = (x7_24 - (if t0_31 = 0 then 0 else 1))) → (I80_26 y_36 (x8_25 + 1) ∧ μ80_27 y_36 (x8_25 + 1) < μ80_27 x7_24 x8_25))) ∧ (¬ (((x3_9 >>> (x8_25 &&& 31)) &&& 1) = 1) → (x7_24 ≤ 0 → ∀ (y_39 : Int32), (y_39 = (x3_9 ||| ((1 : Int32) <<< (x8_25 &&& 31)))) → ((vp_in x8_25 6) ∧ ((vp_in x6_12 6) ∧ (∀ (fm12_40 : (Nat → Int32)), (fm12_40 = (upd fm12_8 x6_12.toNatClampNeg (th x8_25.toNatClampNeg))) → (I33_13 fm12_40 y_39 y_19 t0_20 (x6_12 + 1) ∧ μ33_14 fm12_40 y_39 y_19 t0_20 (x6_12 + 1) < μ33_14 fm12_8 x3_9 x4_10 x5_11 x6_12))))) ∧ (¬ (x7_24 ≤ 0) → ∃ (J111_42 : Int32 → Prop), ((¬ ((x3_9 >>> (x8_25 &&& 31)) &&& 1) = 0 → J111_42 0) ∧ (((x3_9 >>> (x8_25 &&& 31)) &&& 1) = 0 → J111_42 1)) ∧ (∀ (t0_41 : Int32), J111_42 t0_41 → ∀ (y_46 : Int32), (y_46 = (x7_24 - (if t0_41 = 0 then 0 else 1))) → (I80_26 y_46 (x8_25 + 1) ∧ μ80_27 y_46 (x8_25 + 1) < μ80_27 x7_24 x8_25))))))))))))) ∧ (¬ (y ≤ x6_2) → ∀ (y_55 : Int32), (y_55 = (x5_1 * x6_2)) → (I11_3 y_55 (x6_2 + 1) ∧ μ11_4 y_55 (x6_2 + 1) < μ11_4 x5_1 x6_2))) := by
  obtain ⟨rfl, rfl, hn1, hn6, hc, hA, hth⟩ := hp
  have f8 : ∀ k, k ≤ 8 → fac k < 2147483648 := fun k hk => by have := fac_le k hk; omega
  have eni : (nI nq).toInt = (nq : Int) := nI_toInt (by omega)
  refine ⟨fun a z => ∃ k, 2 ≤ k ∧ (k ≤ nq ∨ k = 2) ∧ z = nI k ∧ a = nI (fac (k - 1)), fun _ z => 9 - z.toNatClampNeg, ⟨2, by omega, Or.inr rfl, rfl, rfl⟩, ?_⟩
  rintro a z ⟨k, hk2, hk, rfl, rfl⟩
  have ek : (nI k).toNatClampNeg = k := nI_clamp (by omega)
  have ek1 : nI k + 1 = nI (k + 1) := nI_1 k
  have ek2 : (nI (k + 1)).toNatClampNeg = k + 1 := nI_clamp (by omega)
  have hle : nI nq ≤ nI k ↔ nq ≤ k := nI_leI (by omega) (by omega)
  simp only [ek, ek1, ek2, hle]
  refine ⟨fun q => ?_, fun q y ey => ⟨⟨k + 1, by omega, by omega, rfl, by rw [ey, pk_mul, show k + 1 - 1 = k by omega, fac_s (k := k) (by omega)]⟩, by omega⟩⟩
  have eL : fac (k - 1) = fac (nq - 1) := by
    by_cases e : nq = 1
    · rw [e, show k = 2 by omega]; rfl
    · rw [show k = nq by omega]
  rw [eL]
  refine ⟨fun f us rs lf z => ∃ k, k ≤ nq ∧ z = nI k ∧ lf = nI (fac (nq - 1 - k)) ∧ ∃ (B : Nat → Bool) (c : Nat) (pre : List Nat), rs = nI c ∧ c < fac (nq - k) ∧ cntA B 8 = nq - k ∧ (∀ q, B q = true → Av q = true) ∧ ordL nq Av cq = pre ++ ordL (nq - k) B c ∧ pre.length = k ∧ (∀ j, j < k → f j = nI (pre.getD j 0)) ∧ (∀ i, i < nq → bt us i = !B (nthA Av i 8)), fun _ _ _ _ z => 9 - z.toNatClampNeg, ⟨0, by omega, rfl, rfl, Av, cq, [], rfl, hc, hA, fun _ h => h, rfl, rfl, fun j hj => absurd hj (Nat.not_lt_zero _), fun i hi => by rw [b_0, (nthA_ok (A := Av) (s := i) (N := 8) (by omega)).1]; rfl⟩, ?_⟩
  clear hk2 hk ek ek1 ek2 hle q eL
  rintro f us rs lf z ⟨k, hk, rfl, rfl, B, c, pre, rfl, hcB, hB, hsub, hord, hpl, hf, hus⟩
  have ek : (nI k).toNatClampNeg = k := nI_clamp (by omega)
  have ek1 : nI k + 1 = nI (k + 1) := nI_1 k
  have ek2 : (nI (k + 1)).toNatClampNeg = k + 1 := nI_clamp (by omega)
  have hle : nI nq ≤ nI k ↔ nq ≤ k := nI_leI (by omega) (by omega)
  simp only [ek, ek1, ek2, hle]
  have hFp := fac_pos (nq - 1 - k)
  have hF := f8 (nq - 1 - k) (by omega)
  have hcl : c < 2147483648 := Nat.lt_trans hcB (f8 (nq - k) (by omega))
  refine ⟨fun q => ?_, fun q => ⟨nI_n0 hFp hF, fun y1 ey1 => ⟨nI_n0 hFp hF, fun y2 ey2 => ?_⟩⟩⟩
  · have e : k = nq := by omega
    subst e
    rw [hord, Nat.sub_self]
    intro j hj
    rw [hf j hj, ordL, List.append_nil]
  rw [nI_div hcl hFp hF] at ey1
  rw [nI_rem hcl hFp hF] at ey2
  subst ey1 ey2
  obtain ⟨n, hn⟩ : ∃ n, nq - k = n + 1 := ⟨nq - k - 1, by omega⟩
  have hn' : nq - 1 - k = n := by omega
  rw [hn'] at hFp hF ⊢
  rw [hn] at hcB hB hord
  have hs0 : c / fac n < cntA B 8 := by
    rw [hB, Nat.div_lt_iff_lt_mul hFp]; exact hcB
  have e1 : (nI nq - 1 - nI k).toInt = (n : Int) := by
    rw [i_sub (i_sub eni i32_1 (by omega) (by omega)) (nI_toInt (by omega)) (by omega) (by omega)]; omega
  have e2 : nI nq - 1 - nI k = nI n := by rw [← Int32.toInt_inj, e1, nI_toInt (by omega)]
  rw [e2]
  have hn0 : nI n ≤ 0 ↔ n = 0 := by rw [i_le (nI_toInt (by omega)) i32_0]; omega
  rw [hn0]
  refine ⟨fun t => t = nI (fac (nq - 1 - (k + 1))), ⟨fun h => ?_, fun h => ⟨nI_n0 (by omega) (by omega), ?_⟩⟩, fun t ht => ?_⟩
  · rw [show nq - 1 - (k + 1) = 0 by omega]; rfl
  · rw [nI_div hF (by omega) (by omega), show nq - 1 - (k + 1) = n - 1 by omega, fac_s (k := n) (by omega), Nat.mul_div_cancel _ (by omega)]
  subst ht
  generalize hs : c / fac n = s0 at hs0
  have hs8 : s0 < 8 := Nat.lt_of_lt_of_le hs0 (cntA_le 8)
  refine ⟨fun sk z => ∃ i, i < nq ∧ z = nI i ∧ cntA B (nthA Av i 8) ≤ s0 ∧ sk = nI (s0 - cntA B (nthA Av i 8)), fun _ z => 9 - z.toNatClampNeg, ⟨0, by omega, rfl, ?_, ?_⟩, ?_⟩
  · rw [gI_0 hA hsub (by omega)]; exact Nat.zero_le _
  · rw [gI_0 hA hsub (by omega)]; rfl
  rintro sk z ⟨i, hi, rfl, hcn, rfl⟩
  have ei : (nI i).toNatClampNeg = i := nI_clamp (by omega)
  have ei1 : nI i + 1 = nI (i + 1) := nI_1 i
  have ei2 : (nI (i + 1)).toNatClampNeg = i + 1 := nI_clamp (by omega)
  simp only [ei, ei1, ei2]
  rw [and1, b_test _ (show i < 32 by omega), hus i hi]
  obtain ⟨a1, a2, a3⟩ := nthA_ok (A := Av) (s := i) (N := 8) (by omega)
  have hskI : (nI (s0 - cntA B (nthA Av i 8))).toInt = ((s0 - cntA B (nthA Av i 8) : Nat) : Int) := nI_toInt (by omega)
  have hsk0 : nI (s0 - cntA B (nthA Av i 8)) ≤ 0 ↔ s0 - cntA B (nthA Av i 8) = 0 := by rw [i_le hskI i32_0]; omega
  refine ⟨fun hu => ?_, fun hu => ⟨fun h0 => ?_, fun h0 => ?_⟩⟩
  · have hBf : B (nthA Av i 8) = false := by
      cases u : B (nthA Av i 8) with
      | false => rfl
      | true => rw [u] at hu; exact absurd rfl hu
    obtain ⟨g1, g2⟩ := gI_next hA hsub hi (by rw [cntA_n hBf]; exact hcn) hs0
    rw [cntA_n hBf] at g2
    refine ⟨fun t => t = 0, ⟨fun _ => rfl, fun z => absurd z hu⟩, fun t ht y ey => ⟨⟨i + 1, g1, rfl, by omega, ?_⟩, by omega⟩⟩
    subst ht
    rw [ey, g2, if_pos rfl]
    exact Int32.sub_zero _
  · have hBt : B (nthA Av i 8) = true := by
      cases u : B (nthA Av i 8) with
      | true => rfl
      | false => rw [u] at hu; exact absurd (fun z => absurd z (by decide)) hu
    have hz := hsk0.mp h0
    have ex : nthA B s0 8 = nthA Av i 8 := nthA_eq hBt (by omega) a3
    intro y ey
    refine ⟨vp_in_nI (by omega) (by omega), vp_in_nI (by omega) (by omega), fun f2 ef2 => ⟨⟨k + 1, by omega, rfl, rfl, rmA B (nthA Av i 8), c % fac n, pre ++ [nthA Av i 8], rfl, ?_, ?_, fun q hq => hsub q (rmA_sub hq), ?_, ?_, fun j hj => ?_, fun j hj => ?_⟩, by omega⟩⟩
    · rw [show nq - (k + 1) = n by omega]; exact Nat.mod_lt _ hFp
    · have := cntA_rm hBt a3
      omega
    · rw [hord, ordL, hs, ex, show nq - (k + 1) = n by omega, List.append_assoc]; rfl
    · rw [List.length_append, hpl]; rfl
    · rw [ef2]
      by_cases e : j = k
      · subst e; rw [upd_at, hth i hi, ← hpl, getD_new]
      · rw [upd_ne e, hf j (by omega), getD_pre (by omega)]
    · rw [ey, b_set _ (by omega) (by omega), hus j hj]
      by_cases e : j = i
      · subst e; rw [rmA_at, decide_eq_true rfl, Bool.or_true]; rfl
      · rw [rmA_ne (fun z => e (gI_inj hA hj hi z)), decide_eq_false e, Bool.or_false]
  · have hBt : B (nthA Av i 8) = true := by
      cases u : B (nthA Av i 8) with
      | true => rfl
      | false => rw [u] at hu; exact absurd (fun z => absurd z (by decide)) hu
    have hz : ¬ s0 - cntA B (nthA Av i 8) = 0 := fun z => h0 (hsk0.mpr z)
    obtain ⟨g1, g2⟩ := gI_next hA hsub hi (by rw [cntA_y hBt]; omega) hs0
    rw [cntA_y hBt] at g2
    refine ⟨fun t => t = 1, ⟨fun z => absurd (by rw [hBt]; rfl) z, fun _ => rfl⟩, fun t ht y ey => ⟨⟨i + 1, g1, rfl, by omega, ?_⟩, by omega⟩⟩
    subst ht
    rw [ey, g2, if_neg (by decide), nm_s (by omega) hz, Nat.sub_sub]
theorem k_X8_layOrder (l : Launch) (G : Gt) (m0 m1 m2 m3 m4 m5 m6 m7 m8 m9 m10 m11 m12 m13 m14 : Nat) (sz : Nat) (mw : Nat → Int64) (ik : Nat → Int32) (zs : Nat → Int32) (cl : Nat → Int32) (hs : Nat → Int32) (ks : Nat → Int32) (wa : Nat → Int32) (ne : Nat → Int32) (mn : Nat → Int32) (tx : Nat → Int32) (th : Nat → Int32) (od : Nat → Int32) (bk : Nat → Int32) (bh : Nat → Int32) (fu : Int32) (fd : Int32) (fi : Int32) (nu : Int32) (nw : Int32) (nf : Int32) (bf : Int32) (bn : Int32) (ts : Int32) (ap : Int32) (fs : Int32) (ln : Int32) (fo : Int32) (fa : Int32) (wr : Int32) (x : Int32) (y : Int32) (cq : Nat) (nq : Nat) (Av : Nat → Bool) (hp : x = nI cq ∧ y = nI nq ∧ 1 ≤ nq ∧ nq ≤ 6 ∧ cq < fac nq ∧ cntA Av 8 = nq ∧ (∀ i, i < nq → th i = nI (nthA Av i 8))) : MetV l yX8_layOrder wsX8_layOrder 1 20 G [.ref m0, .int x, .int y] [(m0, .inr (8, [.ref m1, .ref m2, .ref m3, .ref m4, .ref m5, .ref m6, .ref m7, .ref m8, .ref m9, .int fu, .int fd, .int fi, .int nu, .int nw, .int nf, .int bf, .int bn, .ref m10, .int ts, .int ap, .int fs, .int ln, .int fo, .int fa, .ref m11, .ref m12, .ref m13, .ref m14, .int wr])), aJ G m1 560 mw, aZ G m2 2 ik, aI G m3 20 zs, aI G m4 20 cl, aI G m5 20 hs, aI G m6 20 ks, aI G m7 20 wa, aI G m8 20 ne, aI G m9 4 mn, aI G m10 400 tx, aI G m11 6 th, aI G m12 6 od, aI G m13 30 bk, aI G m14 30 bh] sz (fun (u : (Nat → Int32)) => (∀ k, k < nq → u k = nI ((ordL nq Av cq).getD k 0))) (fun (u : (Nat → Int32)) => [(m0, .inr (8, [.ref m1, .ref m2, .ref m3, .ref m4, .ref m5, .ref m6, .ref m7, .ref m8, .ref m9, .int fu, .int fd, .int fi, .int nu, .int nw, .int nf, .int bf, .int bn, .ref m10, .int ts, .int ap, .int fs, .int ln, .int fo, .int fa, .ref m11, .ref m12, .ref m13, .ref m14, .int wr])), aJ G m1 560 mw, aZ G m2 2 ik, aI G m3 20 zs, aI G m4 20 cl, aI G m5 20 hs, aI G m6 20 ks, aI G m7 20 wa, aI G m8 20 ne, aI G m9 4 mn, aI G m10 400 tx, aI G m11 6 th, aI G m12 6 u, aI G m13 30 bk, aI G m14 30 bh]) :=
  c_X8_layOrder l G m0 m1 m2 m3 m4 m5 m6 m7 m8 m9 m10 m11 m12 m13 m14 sz mw ik zs cl hs ks wa ne mn tx th od bk bh fu fd fi nu nw nf bf bn ts ap fs ln fo fa wr x y cq nq Av (v_X8_layOrder l G m0 m1 m2 m3 m4 m5 m6 m7 m8 m9 m10 m11 m12 m13 m14 sz mw ik zs cl hs ks wa ne mn tx th od bk bh fu fd fi nu nw nf bf bn ts ap fs ln fo fa wr x y cq nq Av hp)

set_option maxHeartbeats 4000000 in
set_option maxRecDepth 100000 in
theorem c_X8_heatBy (l : Launch) (G : Gt) (m0 m1 m2 m3 m4 m5 m6 m7 m8 m9 m10 m11 m12 m13 m14 : Nat) (sz : Nat) (mw : Nat → Int64) (ik : Nat → Int32) (zs : Nat → Int32) (cl : Nat → Int32) (hs : Nat → Int32) (ks : Nat → Int32) (wa : Nat → Int32) (ne : Nat → Int32) (mn : Nat → Int32) (tx : Nat → Int32) (th : Nat → Int32) (od : Nat → Int32) (bk : Nat → Int32) (bh : Nat → Int32) (fu : Int32) (fd : Int32) (fi : Int32) (nu : Int32) (nw : Int32) (nf : Int32) (bf : Int32) (bn : Int32) (ts : Int32) (ap : Int32) (fs : Int32) (ln : Int32) (fo : Int32) (fa : Int32) (wr : Int32) (x : Int32) (y : Int32) (z : Int32) (T : Nat → Nat → Int) (Ns : Nat) (Np : Nat) (v : Nat → Int) (M : Int) (ib : Nat) (mq : Nat) (nq : Nat) (ol : List Nat) (hv : ∃ (gv_1 : Nat → Int), ((MR 0 mw gv_1) ∧ (∀ (mw2_3 : Nat → Int64), (MR 140 mw2_3 (zUp gv_1) ∧ MF 140 mw mw2_3) → (∃ (I7_6 : (Nat → Int64) → Int32 → Prop) (μ7_7 : (Nat → Int64) → Int32 → Nat), I7_6 mw2_3 0 ∧ (∀ (fm1_4 : (Nat → Int64)) (x4_5 : Int32), I7_6 fm1_4 x4_5 → (z ≤ x4_5 → (vp_in (140 + x) 560) ∧ ((fm1_4 (140 + x).toNatClampNeg).toInt = heatL T v ib mq 0 (v ib) ol ∧ MF 140 mw fm1_4)) ∧ (¬ (z ≤ x4_5) → (vp_in x4_5 6) ∧ ((vp_in (160 + (od x4_5.toNatClampNeg)) 560) ∧ (∀ (fm1_11 : (Nat → Int64)), (fm1_11 = (vp_updL fm1_4 ((160 + (od x4_5.toNatClampNeg)).toNatClampNeg) x.toInt64)) → (∃ (I34_14 : (Nat → Int64) → Int32 → Prop) (μ34_15 : (Nat → Int64) → Int32 → Nat), I34_14 fm1_11 0 ∧ (∀ (fm1_12 : (Nat → Int64)) (x5_13 : Int32), I34_14 fm1_12 x5_13 → (y ≤ x5_13 → (vp_in x4_5 6) ∧ ((vp_in (160 + (od x4_5.toNatClampNeg)) 560) ∧ (∀ (fm1_19 : (Nat → Int64)), (fm1_19 = (vp_updL fm1_12 ((160 + (od x4_5.toNatClampNeg)).toNatClampNeg) (-1))) → (I7_6 fm1_19 (x4_5 + 1) ∧ μ7_7 fm1_19 (x4_5 + 1) < μ7_7 fm1_4 x4_5)))) ∧ (¬ (y ≤ x5_13) → ∃ (gT_20 : Nat → Nat → Int) (gNs_21 : Nat) (gNp_22 : Nat) (gX_23 : Nat) (gv_24 : Nat → Int) (gM_25 : Int), ((TOK gT_20 gNs_21 gNp_22 ∧ MT gT_20 gNs_21 gNp_22 fu fd fi zs cl ks ne mn ∧ (140 : Int32) = nI gX_23 ∧ gX_23 + 140 ≤ 560 ∧ MR gX_23 fm1_12 gv_24 ∧ NOK gT_20 gNs_21 gNp_22 (fun _ => 2 * gM_25) gM_25 gv_24 ∧ gM_25 ≤ 1000000) ∧ (∀ (r_26 : Int32) (mw2_27 : Nat → Int64), (r_26 = nI (zCs gT_20 (zPass gT_20 gNs_21 gNp_22 gv_24) gNp_22) ∧ MR gX_23 mw2_27 (zPass gT_20 gNs_21 gNp_22 gv_24) ∧ MF gX_23 fm1_12 mw2_27) → (I34_14 mw2_27 (x5_13 + 1) ∧ μ34_15 mw2_27 (x5_13 + 1) < μ34_15 fm1_12 x5_13)))))))))))))) : MetL l yX8_heatBy wsX8_heatBy 4 101 G [.ref m0, .int x, .int y, .int z] [(m0, .inr (8, [.ref m1, .ref m2, .ref m3, .ref m4, .ref m5, .ref m6, .ref m7, .ref m8, .ref m9, .int fu, .int fd, .int fi, .int nu, .int nw, .int nf, .int bf, .int bn, .ref m10, .int ts, .int ap, .int fs, .int ln, .int fo, .int fa, .ref m11, .ref m12, .ref m13, .ref m14, .int wr])), aJ G m1 560 mw, aZ G m2 2 ik, aI G m3 20 zs, aI G m4 20 cl, aI G m5 20 hs, aI G m6 20 ks, aI G m7 20 wa, aI G m8 20 ne, aI G m9 4 mn, aI G m10 400 tx, aI G m11 6 th, aI G m12 6 od, aI G m13 30 bk, aI G m14 30 bh] sz (fun (r : Int64) (u : (Nat → Int64)) => r.toInt = heatL T v ib mq 0 (v ib) ol ∧ MF 140 mw u) (fun (u : (Nat → Int64)) => [(m0, .inr (8, [.ref m1, .ref m2, .ref m3, .ref m4, .ref m5, .ref m6, .ref m7, .ref m8, .ref m9, .int fu, .int fd, .int fi, .int nu, .int nw, .int nf, .int bf, .int bn, .ref m10, .int ts, .int ap, .int fs, .int ln, .int fo, .int fa, .ref m11, .ref m12, .ref m13, .ref m14, .int wr])), aJ G m1 560 u, aZ G m2 2 ik, aI G m3 20 zs, aI G m4 20 cl, aI G m5 20 hs, aI G m6 20 ks, aI G m7 20 wa, aI G m8 20 ne, aI G m9 4 mn, aI G m10 400 tx, aI G m11 6 th, aI G m12 6 od, aI G m13 30 bk, aI G m14 30 bh]) := by
  refine x_startL (cc := cX8_heatBy) (maxL := 7) (ret := (some .long)) (by decide) rfl (Nat.le_of_ble_eq_true rfl) ?_
  intro p e s m args below meth c A R Q ls hRf hRl hQ C hP hD hS hA hSS hl
  obtain ⟨hx, hb, hr, hml, hown, hts, hlocks, hKK⟩ := C
  have hown : s.vm.findClass RX8 = some m.cls := hown
  have hl : lv_has ls 7 [(0, .ref m0), (1, .int x), (2, .int y), (3, .int z)] := hl
  have hinX8 : ∀ w ∈ u_ws RX8 TX8 29, w ∈ wsX8_heatBy := by decide +kernel
  have kl152 := hts (.constantLong RX8 152 (-1)) (by decide +kernel)
  have kl55 := hts (.fieldLink RX8 55 "WarmStonesModel" "order" "[I") (by decide +kernel)
  have kl7 := hts (.fieldLink RX8 7 "WarmStonesModel" "w" "[J") (by decide +kernel)
  refine lv_aload_n hx hb dX8_heatBy_0 rfl (lv_at hl 0 rfl) ?_
  obtain ⟨gv_1, hv⟩ := hv
  obtain ⟨hp, hv⟩ := hv
  refine x_callv (wr := []) (w' := fun (u : (Nat → Int64)) => [(m0, .inr (8, [.ref m1, .ref m2, .ref m3, .ref m4, .ref m5, .ref m6, .ref m7, .ref m8, .ref m9, .int fu, .int fd, .int fi, .int nu, .int nw, .int nf, .int bf, .int bn, .ref m10, .int ts, .int ap, .int fs, .int ln, .int fo, .int fa, .ref m11, .ref m12, .ref m13, .ref m14, .int wr])), aJ G m1 560 u, aZ G m2 2 ik, aI G m3 20 zs, aI G m4 20 cl, aI G m5 20 hs, aI G m6 20 ks, aI G m7 20 wa, aI G m8 20 ne, aI G m9 4 mn, aI G m10 400 tx, aI G m11 6 th, aI G m12 6 od, aI G m13 30 bk, aI G m14 30 bh]) (x_runV (As := []) (rest := []) (n := 0) (C := RX8) (ci := 8) ⟨hx, hb, hml, hown, hts⟩ (k_X8_tryAllUp l G m0 m1 m2 m3 m4 m5 m6 m7 m8 m9 m10 m11 m12 m13 m14 _ mw ik zs cl hs ks wa ne mn tx th od bk bh fu fd fi nu nw nf bf bn ts ap fs ln fo fa wr gv_1 hp) gX8_heatBy_X8_tryAllUp rfl (by decide +kernel) ⟨Nat.le_trans (Nat.le_of_ble_eq_true rfl) hRf, Nat.le_trans (Nat.le_of_ble_eq_true rfl) hRl⟩ hKK hSS hS hA hP hD [0, 1, 2, 3, 4, 5, 6, 7, 8, 9, 10, 11, 12, 13, 14] (by decide) rfl rfl rfl 0 rfl rfl hl.1 rfl (Nat.le_of_ble_eq_true rfl) dX8_heatBy_1) hP hD hS hA [0, 1, 2, 3, 4, 5, 6, 7, 8, 9, 10, 11, 12, 13, 14] [] [0, 1, 2, 3, 4, 5, 6, 7, 8, 9, 10, 11, 12, 13, 14] rfl rfl (by decide) (by decide) (by decide) (fun _ => rfl) (fun  u H locs hw hP hD hS => ?_)
  obtain ⟨mw2_3, rfl⟩ : ∃ z9_, z9_ = u := ⟨_, rfl⟩
  have hP : va_P G.1 vwCl [(m0, .inr (8, [.ref m1, .ref m2, .ref m3, .ref m4, .ref m5, .ref m6, .ref m7, .ref m8, .ref m9, .int fu, .int fd, .int fi, .int nu, .int nw, .int nf, .int bf, .int bn, .ref m10, .int ts, .int ap, .int fs, .int ln, .int fo, .int fa, .ref m11, .ref m12, .ref m13, .ref m14, .int wr])), aJ G m1 560 mw2_3, aZ G m2 2 ik, aI G m3 20 zs, aI G m4 20 cl, aI G m5 20 hs, aI G m6 20 ks, aI G m7 20 wa, aI G m8 20 ne, aI G m9 4 mn, aI G m10 400 tx, aI G m11 6 th, aI G m12 6 od, aI G m13 30 bk, aI G m14 30 bh] H := hP
  have hD : va_D A [(m0, .inr (8, [.ref m1, .ref m2, .ref m3, .ref m4, .ref m5, .ref m6, .ref m7, .ref m8, .ref m9, .int fu, .int fd, .int fi, .int nu, .int nw, .int nf, .int bf, .int bn, .ref m10, .int ts, .int ap, .int fs, .int ln, .int fo, .int fa, .ref m11, .ref m12, .ref m13, .ref m14, .int wr])), aJ G m1 560 mw2_3, aZ G m2 2 ik, aI G m3 20 zs, aI G m4 20 cl, aI G m5 20 hs, aI G m6 20 ks, aI G m7 20 wa, aI G m8 20 ne, aI G m9 4 mn, aI G m10 400 tx, aI G m11 6 th, aI G m12 6 od, aI G m13 30 bk, aI G m14 30 bh] := hD
  have hv := hv mw2_3 hw
  refine lv_iconst (v := 0) hx hb dX8_heatBy_4 (by decide) ?_
  refine lv_istore (lv' := [(4, .int 0), (0, .ref m0), (1, .int x), (2, .int y), (3, .int z)]) hx hb dX8_heatBy_5 hl (by decide) rfl (fun ls hl => ?_)
  obtain ⟨I7_6, μ7_7, hi0, hs_31⟩ := hv
  have Lm_33 : ∀ (n_32 : Nat) (fm1_4 : (Nat → Int64)) (x4_5 : Int32) (H : Heap) (locs : List Loc) (ls : Array Slot), μ7_7 fm1_4 x4_5 < n_32 → I7_6 fm1_4 x4_5 → va_P G.1 vwCl [(m0, .inr (8, [.ref m1, .ref m2, .ref m3, .ref m4, .ref m5, .ref m6, .ref m7, .ref m8, .ref m9, .int fu, .int fd, .int fi, .int nu, .int nw, .int nf, .int bf, .int bn, .ref m10, .int ts, .int ap, .int fs, .int ln, .int fo, .int fa, .ref m11, .ref m12, .ref m13, .ref m14, .int wr])), aJ G m1 560 fm1_4, aZ G m2 2 ik, aI G m3 20 zs, aI G m4 20 cl, aI G m5 20 hs, aI G m6 20 ks, aI G m7 20 wa, aI G m8 20 ne, aI G m9 4 mn, aI G m10 400 tx, aI G m11 6 th, aI G m12 6 od, aI G m13 30 bk, aI G m14 30 bh] H → va_D A [(m0, .inr (8, [.ref m1, .ref m2, .ref m3, .ref m4, .ref m5, .ref m6, .ref m7, .ref m8, .ref m9, .int fu, .int fd, .int fi, .int nu, .int nw, .int nf, .int bf, .int bn, .ref m10, .int ts, .int ap, .int fs, .int ln, .int fo, .int fa, .ref m11, .ref m12, .ref m13, .ref m14, .int wr])), aJ G m1 560 fm1_4, aZ G m2 2 ik, aI G m3 20 zs, aI G m4 20 cl, aI G m5 20 hs, aI G m6 20 ks, aI G m7 20 wa, aI G m8 20 ne, aI G m9 4 mn, aI G m10 400 tx, aI G m11 6 th, aI G m12 6 od, aI G m13 30 bk, aI G m14 30 bh] → va_S A s.heap H locs → lv_has ls 7 [(4, .int x4_5), (0, .ref m0), (1, .int x), (2, .int y), (3, .int z)] → W p l e R s m args below meth c H locs 0 0 Q (F0 m 7 ls []) := by
    intro n_32
    induction n_32 with
    | zero => intro fm1_4 x4_5 H locs ls hm; exact absurd hm (Nat.not_lt_zero _)
    | succ n_32 ih_8 =>
      intro fm1_4 x4_5 H locs ls hI_9 hi hP hD hS hl
      have hv := hs_31 fm1_4 x4_5 hi
      refine lv_iload hx hb dX8_heatBy_7 (lv_at hl 0 rfl) ?_
      refine lv_iload_n hx hb dX8_heatBy_9 rfl (lv_at hl 4 rfl) ?_
      refine lv_icmp_ge (tgt := 80) hx hb dX8_heatBy_10 (by decide) (fun hc_10 => ?_) (fun hc_10 => ?_)
      · have hv := hv.1 hc_10
        refine lv_aload_n hx hb dX8_heatBy_80 rfl (lv_at hl 1 rfl) ?_
        refine va_get (D := G.1) (ci := 8) (v := .ref m1) (C := RX8) (T := TX8) (N := 29) hx hb hts hinX8 hown hKK.1 hP 0 rfl rfl 0 (by decide) kl7 (fun _ h9 => h9) rfl dX8_heatBy_81 ?_
        refine lv_sipush (v := 140) hx hb dX8_heatBy_84 (by decide) ?_
        refine lv_iload_n hx hb dX8_heatBy_87 rfl (lv_at hl 2 rfl) ?_
        refine lv_iadd hx hb dX8_heatBy_88 ?_
        obtain ⟨hin, hv⟩ := hv
        refine va_lald hx hb hKK.1 hP 1 2 rfl rfl hin dX8_heatBy_89 ?_
        exact x_lret (v := (fm1_4 (140 + x).toNatClampNeg)) fm1_4 hQ hx hb hr hlocks hS dX8_heatBy_90 hv hP hD
      · have hv := hv.2 hc_10
        refine lv_aload_n hx hb dX8_heatBy_13 rfl (lv_at hl 1 rfl) ?_
        refine va_get (D := G.1) (ci := 8) (v := .ref m1) (C := RX8) (T := TX8) (N := 29) hx hb hts hinX8 hown hKK.1 hP 0 rfl rfl 0 (by decide) kl7 (fun _ h9 => h9) rfl dX8_heatBy_14 ?_
        refine lv_sipush (v := 160) hx hb dX8_heatBy_17 (by decide) ?_
        refine lv_aload_n hx hb dX8_heatBy_20 rfl (lv_at hl 1 rfl) ?_
        refine va_get (D := G.1) (ci := 8) (v := .ref m12) (C := RX8) (T := TX8) (N := 29) hx hb hts hinX8 hown hKK.1 hP 0 rfl rfl 25 (by decide) kl55 (fun _ h9 => h9) rfl dX8_heatBy_21 ?_
        refine lv_iload hx hb dX8_heatBy_24 (lv_at hl 0 rfl) ?_
        obtain ⟨hin, hv⟩ := hv
        refine va_iald hx hb hKK.1 hP 12 0 rfl rfl hin dX8_heatBy_26 ?_
        refine lv_iadd hx hb dX8_heatBy_27 ?_
        refine lv_iload_n hx hb dX8_heatBy_28 rfl (lv_at hl 2 rfl) ?_
        refine lv_i2l hx hb dX8_heatBy_29 rfl ?_
        obtain ⟨hin, hv⟩ := hv
        refine va_last hx hb hKK.1 hP hD hS 1 2 rfl rfl hin dX8_heatBy_30 (fun H locs hP hD hS => ?_)
        obtain ⟨fm1_11, ef⟩ : ∃ z9_, z9_ = (vp_updL fm1_4 ((160 + (od x4_5.toNatClampNeg)).toNatClampNeg) x.toInt64) := ⟨_, rfl⟩
        have hP : va_P G.1 vwCl [(m0, .inr (8, [.ref m1, .ref m2, .ref m3, .ref m4, .ref m5, .ref m6, .ref m7, .ref m8, .ref m9, .int fu, .int fd, .int fi, .int nu, .int nw, .int nf, .int bf, .int bn, .ref m10, .int ts, .int ap, .int fs, .int ln, .int fo, .int fa, .ref m11, .ref m12, .ref m13, .ref m14, .int wr])), aJ G m1 560 fm1_11, aZ G m2 2 ik, aI G m3 20 zs, aI G m4 20 cl, aI G m5 20 hs, aI G m6 20 ks, aI G m7 20 wa, aI G m8 20 ne, aI G m9 4 mn, aI G m10 400 tx, aI G m11 6 th, aI G m12 6 od, aI G m13 30 bk, aI G m14 30 bh] H := by rw [ef]; exact hP
        have hD : va_D A [(m0, .inr (8, [.ref m1, .ref m2, .ref m3, .ref m4, .ref m5, .ref m6, .ref m7, .ref m8, .ref m9, .int fu, .int fd, .int fi, .int nu, .int nw, .int nf, .int bf, .int bn, .ref m10, .int ts, .int ap, .int fs, .int ln, .int fo, .int fa, .ref m11, .ref m12, .ref m13, .ref m14, .int wr])), aJ G m1 560 fm1_11, aZ G m2 2 ik, aI G m3 20 zs, aI G m4 20 cl, aI G m5 20 hs, aI G m6 20 ks, aI G m7 20 wa, aI G m8 20 ne, aI G m9 4 mn, aI G m10 400 tx, aI G m11 6 th, aI G m12 6 od, aI G m13 30 bk, aI G m14 30 bh] := by rw [ef]; exact hD
        have hv := hv fm1_11 ef
        refine lv_iconst (v := 0) hx hb dX8_heatBy_31 (by decide) ?_
        refine lv_istore (lv' := [(5, .int 0), (4, .int x4_5), (0, .ref m0), (1, .int x), (2, .int y), (3, .int z)]) hx hb dX8_heatBy_32 hl (by decide) rfl (fun ls hl => ?_)
        obtain ⟨I34_14, μ34_15, hi0, hs_28⟩ := hv
        have Lm_30 : ∀ (n_29 : Nat) (fm1_12 : (Nat → Int64)) (x5_13 : Int32) (H : Heap) (locs : List Loc) (ls : Array Slot), μ34_15 fm1_12 x5_13 < n_29 → I34_14 fm1_12 x5_13 → va_P G.1 vwCl [(m0, .inr (8, [.ref m1, .ref m2, .ref m3, .ref m4, .ref m5, .ref m6, .ref m7, .ref m8, .ref m9, .int fu, .int fd, .int fi, .int nu, .int nw, .int nf, .int bf, .int bn, .ref m10, .int ts, .int ap, .int fs, .int ln, .int fo, .int fa, .ref m11, .ref m12, .ref m13, .ref m14, .int wr])), aJ G m1 560 fm1_12, aZ G m2 2 ik, aI G m3 20 zs, aI G m4 20 cl, aI G m5 20 hs, aI G m6 20 ks, aI G m7 20 wa, aI G m8 20 ne, aI G m9 4 mn, aI G m10 400 tx, aI G m11 6 th, aI G m12 6 od, aI G m13 30 bk, aI G m14 30 bh] H → va_D A [(m0, .inr (8, [.ref m1, .ref m2, .ref m3, .ref m4, .ref m5, .ref m6, .ref m7, .ref m8, .ref m9, .int fu, .int fd, .int fi, .int nu, .int nw, .int nf, .int bf, .int bn, .ref m10, .int ts, .int ap, .int fs, .int ln, .int fo, .int fa, .ref m11, .ref m12, .ref m13, .ref m14, .int wr])), aJ G m1 560 fm1_12, aZ G m2 2 ik, aI G m3 20 zs, aI G m4 20 cl, aI G m5 20 hs, aI G m6 20 ks, aI G m7 20 wa, aI G m8 20 ne, aI G m9 4 mn, aI G m10 400 tx, aI G m11 6 th, aI G m12 6 od, aI G m13 30 bk, aI G m14 30 bh] → va_S A s.heap H locs → lv_has ls 7 [(5, .int x5_13), (4, .int x4_5), (0, .ref m0), (1, .int x), (2, .int y), (3, .int z)] → W p l e R s m args below meth c H locs 0 0 Q (F0 m 34 ls []) := by
          intro n_29
          induction n_29 with
          | zero => intro fm1_12 x5_13 H locs ls hm; exact absurd hm (Nat.not_lt_zero _)
          | succ n_29 ih_16 =>
            intro fm1_12 x5_13 H locs ls hI_17 hi hP hD hS hl
            have hv := hs_28 fm1_12 x5_13 hi
            refine lv_iload hx hb dX8_heatBy_34 (lv_at hl 0 rfl) ?_
            refine lv_iload_n hx hb dX8_heatBy_36 rfl (lv_at hl 4 rfl) ?_
            refine lv_icmp_ge (tgt := 55) hx hb dX8_heatBy_37 (by decide) (fun hc_18 => ?_) (fun hc_18 => ?_)
            · have hv := hv.1 hc_18
              refine lv_aload_n hx hb dX8_heatBy_55 rfl (lv_at hl 2 rfl) ?_
              refine va_get (D := G.1) (ci := 8) (v := .ref m1) (C := RX8) (T := TX8) (N := 29) hx hb hts hinX8 hown hKK.1 hP 0 rfl rfl 0 (by decide) kl7 (fun _ h9 => h9) rfl dX8_heatBy_56 ?_
              refine lv_sipush (v := 160) hx hb dX8_heatBy_59 (by decide) ?_
              refine lv_aload_n hx hb dX8_heatBy_62 rfl (lv_at hl 2 rfl) ?_
              refine va_get (D := G.1) (ci := 8) (v := .ref m12) (C := RX8) (T := TX8) (N := 29) hx hb hts hinX8 hown hKK.1 hP 0 rfl rfl 25 (by decide) kl55 (fun _ h9 => h9) rfl dX8_heatBy_63 ?_
              refine lv_iload hx hb dX8_heatBy_66 (lv_at hl 1 rfl) ?_
              obtain ⟨hin, hv⟩ := hv
              refine va_iald hx hb hKK.1 hP 12 0 rfl rfl hin dX8_heatBy_68 ?_
              refine lv_iadd hx hb dX8_heatBy_69 ?_
              refine lv_ldc2 (v := (-1)) hx hb hown kl152 dX8_heatBy_70 ?_
              obtain ⟨hin, hv⟩ := hv
              refine va_last hx hb hKK.1 hP hD hS 1 2 rfl rfl hin dX8_heatBy_73 (fun H locs hP hD hS => ?_)
              obtain ⟨fm1_19, ef⟩ : ∃ z9_, z9_ = (vp_updL fm1_12 ((160 + (od x4_5.toNatClampNeg)).toNatClampNeg) (-1)) := ⟨_, rfl⟩
              have hP : va_P G.1 vwCl [(m0, .inr (8, [.ref m1, .ref m2, .ref m3, .ref m4, .ref m5, .ref m6, .ref m7, .ref m8, .ref m9, .int fu, .int fd, .int fi, .int nu, .int nw, .int nf, .int bf, .int bn, .ref m10, .int ts, .int ap, .int fs, .int ln, .int fo, .int fa, .ref m11, .ref m12, .ref m13, .ref m14, .int wr])), aJ G m1 560 fm1_19, aZ G m2 2 ik, aI G m3 20 zs, aI G m4 20 cl, aI G m5 20 hs, aI G m6 20 ks, aI G m7 20 wa, aI G m8 20 ne, aI G m9 4 mn, aI G m10 400 tx, aI G m11 6 th, aI G m12 6 od, aI G m13 30 bk, aI G m14 30 bh] H := by rw [ef]; exact hP
              have hD : va_D A [(m0, .inr (8, [.ref m1, .ref m2, .ref m3, .ref m4, .ref m5, .ref m6, .ref m7, .ref m8, .ref m9, .int fu, .int fd, .int fi, .int nu, .int nw, .int nf, .int bf, .int bn, .ref m10, .int ts, .int ap, .int fs, .int ln, .int fo, .int fa, .ref m11, .ref m12, .ref m13, .ref m14, .int wr])), aJ G m1 560 fm1_19, aZ G m2 2 ik, aI G m3 20 zs, aI G m4 20 cl, aI G m5 20 hs, aI G m6 20 ks, aI G m7 20 wa, aI G m8 20 ne, aI G m9 4 mn, aI G m10 400 tx, aI G m11 6 th, aI G m12 6 od, aI G m13 30 bk, aI G m14 30 bh] := by rw [ef]; exact hD
              have hv := hv fm1_19 ef
              refine lv_iinc (v := (x4_5 + 1)) (lv' := [(4, .int (x4_5 + 1)), (5, .int x5_13), (0, .ref m0), (1, .int x), (2, .int y), (3, .int z)]) hx hb dX8_heatBy_74 hl (k := 1) rfl rfl (by decide) rfl (fun ls hl => ?_)
              refine lv_goto (tgt := 7) hx hb dX8_heatBy_77 (by decide) ?_
              exact ih_8 _ _ _ _ _ (Nat.lt_of_lt_of_le hv.2 (Nat.le_of_lt_succ hI_9)) hv.1 hP hD hS (lv_sub hl [0, 2, 3, 4, 5] rfl)
            · have hv := hv.2 hc_18
              refine lv_aload_n hx hb dX8_heatBy_40 rfl (lv_at hl 2 rfl) ?_
              refine lv_sipush (v := 140) hx hb dX8_heatBy_41 (by decide) ?_
              obtain ⟨gT_20, gNs_21, gNp_22, gX_23, gv_24, gM_25, hv⟩ := hv
              obtain ⟨hp, hv⟩ := hv
              refine x_calli (wr := []) (w' := fun (u : (Nat → Int64)) => [(m0, .inr (8, [.ref m1, .ref m2, .ref m3, .ref m4, .ref m5, .ref m6, .ref m7, .ref m8, .ref m9, .int fu, .int fd, .int fi, .int nu, .int nw, .int nf, .int bf, .int bn, .ref m10, .int ts, .int ap, .int fs, .int ln, .int fo, .int fa, .ref m11, .ref m12, .ref m13, .ref m14, .int wr])), aJ G m1 560 u, aZ G m2 2 ik, aI G m3 20 zs, aI G m4 20 cl, aI G m5 20 hs, aI G m6 20 ks, aI G m7 20 wa, aI G m8 20 ne, aI G m9 4 mn, aI G m10 400 tx, aI G m11 6 th, aI G m12 6 od, aI G m13 30 bk, aI G m14 30 bh]) (x_runV (As := [.int 140]) (rest := []) (n := 1) (C := RX8) (ci := 8) ⟨hx, hb, hml, hown, hts⟩ (k_X8_pass l G m0 m1 m2 m3 m4 m5 m6 m7 m8 m9 m10 m11 m12 m13 m14 _ fm1_12 ik zs cl hs ks wa ne mn tx th od bk bh fu fd fi nu nw nf bf bn ts ap fs ln fo fa wr 140 gT_20 gNs_21 gNp_22 gX_23 gv_24 gM_25 hp) gX8_heatBy_X8_pass rfl (by decide +kernel) ⟨Nat.le_trans (Nat.le_of_ble_eq_true rfl) hRf, Nat.le_trans (Nat.le_of_ble_eq_true rfl) hRl⟩ hKK hSS hS hA hP hD [0, 1, 2, 3, 4, 5, 6, 7, 8, 9, 10, 11, 12, 13, 14] (by decide) rfl rfl rfl 0 rfl rfl hl.1 rfl (Nat.le_of_ble_eq_true rfl) dX8_heatBy_44) hP hD hS hA [0, 1, 2, 3, 4, 5, 6, 7, 8, 9, 10, 11, 12, 13, 14] [] [0, 1, 2, 3, 4, 5, 6, 7, 8, 9, 10, 11, 12, 13, 14] rfl rfl (by decide) (by decide) (by decide) (fun _ => rfl) (fun r_26 u H locs hw hP hD hS => ?_)
              obtain ⟨mw2_27, rfl⟩ : ∃ z9_, z9_ = u := ⟨_, rfl⟩
              have hP : va_P G.1 vwCl [(m0, .inr (8, [.ref m1, .ref m2, .ref m3, .ref m4, .ref m5, .ref m6, .ref m7, .ref m8, .ref m9, .int fu, .int fd, .int fi, .int nu, .int nw, .int nf, .int bf, .int bn, .ref m10, .int ts, .int ap, .int fs, .int ln, .int fo, .int fa, .ref m11, .ref m12, .ref m13, .ref m14, .int wr])), aJ G m1 560 mw2_27, aZ G m2 2 ik, aI G m3 20 zs, aI G m4 20 cl, aI G m5 20 hs, aI G m6 20 ks, aI G m7 20 wa, aI G m8 20 ne, aI G m9 4 mn, aI G m10 400 tx, aI G m11 6 th, aI G m12 6 od, aI G m13 30 bk, aI G m14 30 bh] H := hP
              have hD : va_D A [(m0, .inr (8, [.ref m1, .ref m2, .ref m3, .ref m4, .ref m5, .ref m6, .ref m7, .ref m8, .ref m9, .int fu, .int fd, .int fi, .int nu, .int nw, .int nf, .int bf, .int bn, .ref m10, .int ts, .int ap, .int fs, .int ln, .int fo, .int fa, .ref m11, .ref m12, .ref m13, .ref m14, .int wr])), aJ G m1 560 mw2_27, aZ G m2 2 ik, aI G m3 20 zs, aI G m4 20 cl, aI G m5 20 hs, aI G m6 20 ks, aI G m7 20 wa, aI G m8 20 ne, aI G m9 4 mn, aI G m10 400 tx, aI G m11 6 th, aI G m12 6 od, aI G m13 30 bk, aI G m14 30 bh] := hD
              have hv := hv r_26 mw2_27 hw
              refine lv_istore (lv' := [(6, .int r_26), (5, .int x5_13), (4, .int x4_5), (0, .ref m0), (1, .int x), (2, .int y), (3, .int z)]) hx hb dX8_heatBy_47 hl (by decide) rfl (fun ls hl => ?_)
              refine lv_iinc (v := (x5_13 + 1)) (lv' := [(5, .int (x5_13 + 1)), (6, .int r_26), (4, .int x4_5), (0, .ref m0), (1, .int x), (2, .int y), (3, .int z)]) hx hb dX8_heatBy_49 hl (k := 1) rfl rfl (by decide) rfl (fun ls hl => ?_)
              refine lv_goto (tgt := 34) hx hb dX8_heatBy_52 (by decide) ?_
              exact ih_16 _ _ _ _ _ (Nat.lt_of_lt_of_le hv.2 (Nat.le_of_lt_succ hI_17)) hv.1 hP hD hS (lv_sub hl [0, 2, 3, 4, 5, 6] rfl)
        exact Lm_30 _ _ _ _ _ _ (Nat.lt_succ_self _) hi0 hP hD hS hl
  exact Lm_33 _ _ _ _ _ _ (Nat.lt_succ_self _) hi0 hP hD hS hl
theorem v_X8_heatBy (l : Launch) (G : Gt) (m0 m1 m2 m3 m4 m5 m6 m7 m8 m9 m10 m11 m12 m13 m14 : Nat) (sz : Nat) (mw : Nat → Int64) (ik : Nat → Int32) (zs : Nat → Int32) (cl : Nat → Int32) (hs : Nat → Int32) (ks : Nat → Int32) (wa : Nat → Int32) (ne : Nat → Int32) (mn : Nat → Int32) (tx : Nat → Int32) (th : Nat → Int32) (od : Nat → Int32) (bk : Nat → Int32) (bh : Nat → Int32) (fu : Int32) (fd : Int32) (fi : Int32) (nu : Int32) (nw : Int32) (nf : Int32) (bf : Int32) (bn : Int32) (ts : Int32) (ap : Int32) (fs : Int32) (ln : Int32) (fo : Int32) (fa : Int32) (wr : Int32) (x : Int32) (y : Int32) (z : Int32) (T : Nat → Nat → Int) (Ns : Nat) (Np : Nat) (v : Nat → Int) (M : Int) (ib : Nat) (mq : Nat) (nq : Nat) (ol : List Nat) (hp : TOK T Ns Np ∧ MT T Ns Np fu fd fi zs cl ks ne mn ∧ MR 0 mw v ∧ NOK T Ns Np (fun _ => 2 * M) M v ∧ M ≤ 900000 ∧ x = nI ib ∧ ib < Ns ∧ y = nI mq ∧ mq ≤ 60 ∧ z = nI nq ∧ nq ≤ 6 ∧ ol.length = nq ∧ (∀ k, k < nq → od k = nI (ol.getD k 0) ∧ ol.getD k 0 < Np) ∧ (∀ i k, i < k → k < nq → ol.getD i 0 ≠ ol.getD k 0)) : ∃ (gv_1 : Nat → Int), ((MR 0 mw gv_1) ∧ (∀ (mw2_3 : Nat → Int64), (MR 140 mw2_3 (zUp gv_1) ∧ MF 140 mw mw2_3) → (∃ (I7_6 : (Nat → Int64) → Int32 → Prop) (μ7_7 : (Nat → Int64) → Int32 → Nat), I7_6 mw2_3 0 ∧ (∀ (fm1_4 : (Nat → Int64)) (x4_5 : Int32), I7_6 fm1_4 x4_5 → (z ≤ x4_5 → (vp_in (140 + x) 560) ∧ ((fm1_4 (140 + x).toNatClampNeg).toInt = heatL T v ib mq 0 (v ib) ol ∧ MF 140 mw fm1_4)) ∧ (¬ (z ≤ x4_5) → (vp_in x4_5 6) ∧ ((vp_in (160 + (od x4_5.toNatClampNeg)) 560) ∧ (∀ (fm1_11 : (Nat → Int64)), (fm1_11 = (vp_updL fm1_4 ((160 + (od x4_5.toNatClampNeg)).toNatClampNeg) x.toInt64)) → (∃ (I34_14 : (Nat → Int64) → Int32 → Prop) (μ34_15 : (Nat → Int64) → Int32 → Nat), I34_14 fm1_11 0 ∧ (∀ (fm1_12 : (Nat → Int64)) (x5_13 : Int32), I34_14 fm1_12 x5_13 → (y ≤ x5_13 → (vp_in x4_5 6) ∧ ((vp_in (160 + (od x4_5.toNatClampNeg)) 560) ∧ (∀ (fm1_19 : (Nat → Int64)), (fm1_19 = (vp_updL fm1_12 ((160 + (od x4_5.toNatClampNeg)).toNatClampNeg) (-1))) → (I7_6 fm1_19 (x4_5 + 1) ∧ μ7_7 fm1_19 (x4_5 + 1) < μ7_7 fm1_4 x4_5)))) ∧ (¬ (y ≤ x5_13) → ∃ (gT_20 : Nat → Nat → Int) (gNs_21 : Nat) (gNp_22 : Nat) (gX_23 : Nat) (gv_24 : Nat → Int) (gM_25 : Int), ((TOK gT_20 gNs_21 gNp_22 ∧ MT gT_20 gNs_21 gNp_22 fu fd fi zs cl ks ne mn ∧ (140 : Int32) = nI gX_23 ∧ gX_23 + 140 ≤ 560 ∧ MR gX_23 fm1_12 gv_24 ∧ NOK gT_20 gNs_21 gNp_22 (fun _ => 2 * gM_25) gM_25 gv_24 ∧ gM_25 ≤ 1000000) ∧ (∀ (r_26 : Int32) (mw2_27 : Nat → Int64), (r_26 = nI (zCs gT_20 (zPass gT_20 gNs_21 gNp_22 gv_24) gNp_22) ∧ MR gX_23 mw2_27 (zPass gT_20 gNs_21 gNp_22 gv_24) ∧ MF gX_23 fm1_12 mw2_27) → (I34_14 mw2_27 (x5_13 + 1) ∧ μ34_15 mw2_27 (x5_13 + 1) < μ34_15 fm1_12 x5_13))))))))))))) := by
  obtain ⟨hT, hC, hR, hO, hM, rfl, hib, rfl, hmq, rfl, hnq, hol, hod, hdis⟩ := hp
  have t1 := hT.1
  have t2 := hT.2.1
  have rok := hRw_ok (m := mq) hT hO hib hol (fun k hk => (hod k hk).2) hdis
  have eb : 140 + nI ib = nI (140 + ib) := ix1 140 ib
  have cb : (nI (140 + ib)).toNatClampNeg = 140 + ib := nI_clamp (by omega)
  have vb : vp_in (nI (140 + ib)) 560 := vp_in_nI (by omega) (by omega)
  have elb : (nI ib).toInt64.toInt = (ib : Int) := i_l (nI_toInt (by omega))
  refine ⟨v, hR, fun w1 hw1 => ?_⟩
  refine ⟨fun w z => ∃ k, k ≤ nq ∧ z = nI k ∧ MR 140 w (hRw T Ns Np v ib mq ol k) ∧ MF 140 mw w, fun _ z => 9 - z.toNatClampNeg, ⟨0, by omega, rfl, hw1.1, hw1.2⟩, ?_⟩
  rintro w z ⟨k, hk, rfl, hRk, hFk⟩
  have ek : (nI k).toNatClampNeg = k := nI_clamp (by omega)
  have ek1 : nI k + 1 = nI (k + 1) := nI_1 k
  have ek2 : (nI (k + 1)).toNatClampNeg = k + 1 := nI_clamp (by omega)
  have hle : nI nq ≤ nI k ↔ nq ≤ k := nI_leI (by omega) (by omega)
  simp only [ek, ek1, ek2, hle, eb, cb]
  obtain ⟨r1, r2, r3, -⟩ := rok k hk
  refine ⟨fun q => ⟨vb, ?_, hFk⟩, fun q => ?_⟩
  · have e : k = nq := by omega
    subst e
    rw [hRk ib (by omega), r3, ← hol, List.take_length]
  have hx := hod k (by omega)
  have v6 : vp_in (nI k) 6 := vp_in_nI (by omega) (by omega)
  rw [hx.1]
  have hxp := hx.2
  obtain ⟨x, ex⟩ : ∃ x, ol.getD k 0 = x := ⟨_, rfl⟩
  rw [ex] at hxp ⊢
  have e160 : 160 + nI x = nI (160 + x) := ix1 160 x
  have c160 : (nI (160 + x)).toNatClampNeg = 140 + (20 + x) := by rw [nI_clamp (by omega)]; omega
  have v160 : vp_in (nI (160 + x)) 560 := vp_in_nI (by omega) (by omega)
  simp only [e160, c160]
  have n2 := hRw_seat hT hib hxp r1 r2
  have hkm : k * mq ≤ 6 * 60 := Nat.mul_le_mul (by omega) hmq
  refine ⟨v6, v160, fun w2 ew2 => ?_⟩
  have hR2 : MR 140 w2 (uz (hRw T Ns Np v ib mq ol k) (20 + x) (ib : Int)) := by rw [ew2]; exact hRk.up elb
  have hF2 : MF 140 mw w2 := by rw [ew2]; exact hFk.up (by omega)
  refine ⟨fun w z => ∃ t, t ≤ mq ∧ z = nI t ∧ MR 140 w (zGo T Ns Np (uz (hRw T Ns Np v ib mq ol k) (20 + x) (ib : Int)) t) ∧ MF 140 mw w, fun _ z => 61 - z.toNatClampNeg, ⟨0, by omega, rfl, hR2, hF2⟩, ?_⟩
  rintro w3 z ⟨t, ht, rfl, hR3, hF3⟩
  have et : (nI t).toNatClampNeg = t := nI_clamp (by omega)
  have et1 : nI t + 1 = nI (t + 1) := nI_1 t
  have et2 : (nI (t + 1)).toNatClampNeg = t + 1 := nI_clamp (by omega)
  have hlt : nI mq ≤ nI t ↔ mq ≤ t := nI_leI (by omega) (by omega)
  simp only [et, et1, et2, hlt]
  refine ⟨fun q2 => ⟨v6, v160, fun w4 ew4 => ⟨⟨k + 1, by omega, rfl, ?_, ?_⟩, by omega⟩⟩, fun q2 => ⟨T, Ns, Np, 140, _, _, ⟨hT, hC, rfl, by omega, hR3, zGo_ok hT n2 t, by omega⟩, fun r w5 hw5 => ⟨⟨t + 1, by omega, rfl, hw5.2.1, hF3.tr hw5.2.2⟩, by omega⟩⟩⟩
  · have e : t = mq := by omega
    subst e
    rw [ew4, hRw, ex]
    exact hR3.up rfl
  · rw [ew4]; exact hF3.up (by omega)
theorem k_X8_heatBy (l : Launch) (G : Gt) (m0 m1 m2 m3 m4 m5 m6 m7 m8 m9 m10 m11 m12 m13 m14 : Nat) (sz : Nat) (mw : Nat → Int64) (ik : Nat → Int32) (zs : Nat → Int32) (cl : Nat → Int32) (hs : Nat → Int32) (ks : Nat → Int32) (wa : Nat → Int32) (ne : Nat → Int32) (mn : Nat → Int32) (tx : Nat → Int32) (th : Nat → Int32) (od : Nat → Int32) (bk : Nat → Int32) (bh : Nat → Int32) (fu : Int32) (fd : Int32) (fi : Int32) (nu : Int32) (nw : Int32) (nf : Int32) (bf : Int32) (bn : Int32) (ts : Int32) (ap : Int32) (fs : Int32) (ln : Int32) (fo : Int32) (fa : Int32) (wr : Int32) (x : Int32) (y : Int32) (z : Int32) (T : Nat → Nat → Int) (Ns : Nat) (Np : Nat) (v : Nat → Int) (M : Int) (ib : Nat) (mq : Nat) (nq : Nat) (ol : List Nat) (hp : TOK T Ns Np ∧ MT T Ns Np fu fd fi zs cl ks ne mn ∧ MR 0 mw v ∧ NOK T Ns Np (fun _ => 2 * M) M v ∧ M ≤ 900000 ∧ x = nI ib ∧ ib < Ns ∧ y = nI mq ∧ mq ≤ 60 ∧ z = nI nq ∧ nq ≤ 6 ∧ ol.length = nq ∧ (∀ k, k < nq → od k = nI (ol.getD k 0) ∧ ol.getD k 0 < Np) ∧ (∀ i k, i < k → k < nq → ol.getD i 0 ≠ ol.getD k 0)) : MetL l yX8_heatBy wsX8_heatBy 4 101 G [.ref m0, .int x, .int y, .int z] [(m0, .inr (8, [.ref m1, .ref m2, .ref m3, .ref m4, .ref m5, .ref m6, .ref m7, .ref m8, .ref m9, .int fu, .int fd, .int fi, .int nu, .int nw, .int nf, .int bf, .int bn, .ref m10, .int ts, .int ap, .int fs, .int ln, .int fo, .int fa, .ref m11, .ref m12, .ref m13, .ref m14, .int wr])), aJ G m1 560 mw, aZ G m2 2 ik, aI G m3 20 zs, aI G m4 20 cl, aI G m5 20 hs, aI G m6 20 ks, aI G m7 20 wa, aI G m8 20 ne, aI G m9 4 mn, aI G m10 400 tx, aI G m11 6 th, aI G m12 6 od, aI G m13 30 bk, aI G m14 30 bh] sz (fun (r : Int64) (u : (Nat → Int64)) => r.toInt = heatL T v ib mq 0 (v ib) ol ∧ MF 140 mw u) (fun (u : (Nat → Int64)) => [(m0, .inr (8, [.ref m1, .ref m2, .ref m3, .ref m4, .ref m5, .ref m6, .ref m7, .ref m8, .ref m9, .int fu, .int fd, .int fi, .int nu, .int nw, .int nf, .int bf, .int bn, .ref m10, .int ts, .int ap, .int fs, .int ln, .int fo, .int fa, .ref m11, .ref m12, .ref m13, .ref m14, .int wr])), aJ G m1 560 u, aZ G m2 2 ik, aI G m3 20 zs, aI G m4 20 cl, aI G m5 20 hs, aI G m6 20 ks, aI G m7 20 wa, aI G m8 20 ne, aI G m9 4 mn, aI G m10 400 tx, aI G m11 6 th, aI G m12 6 od, aI G m13 30 bk, aI G m14 30 bh]) :=
  c_X8_heatBy l G m0 m1 m2 m3 m4 m5 m6 m7 m8 m9 m10 m11 m12 m13 m14 sz mw ik zs cl hs ks wa ne mn tx th od bk bh fu fd fi nu nw nf bf bn ts ap fs ln fo fa wr x y z T Ns Np v M ib mq nq ol (v_X8_heatBy l G m0 m1 m2 m3 m4 m5 m6 m7 m8 m9 m10 m11 m12 m13 m14 sz mw ik zs cl hs ks wa ne mn tx th od bk bh fu fd fi nu nw nf bf bn ts ap fs ln fo fa wr x y z T Ns Np v M ib mq nq ol hp)

set_option maxHeartbeats 4000000 in
set_option maxRecDepth 100000 in
theorem c_X8_passed (l : Launch) (G : Gt) (m0 m1 m2 m3 m4 m5 m6 m7 m8 m9 m10 m11 m12 m13 m14 : Nat) (sz : Nat) (mw : Nat → Int64) (ik : Nat → Int32) (zs : Nat → Int32) (cl : Nat → Int32) (hs : Nat → Int32) (ks : Nat → Int32) (wa : Nat → Int32) (ne : Nat → Int32) (mn : Nat → Int32) (tx : Nat → Int32) (th : Nat → Int32) (od : Nat → Int32) (bk : Nat → Int32) (bh : Nat → Int32) (fu : Int32) (fd : Int32) (fi : Int32) (nu : Int32) (nw : Int32) (nf : Int32) (bf : Int32) (bn : Int32) (ts : Int32) (ap : Int32) (fs : Int32) (ln : Int32) (fo : Int32) (fa : Int32) (wr : Int32) (x : Int32) (y : Int32) (z : Int32) (u_ : Int32) (T : Nat → Nat → Int) (Ns : Nat) (Np : Nat) (v : Nat → Int) (M : Int) (hv : (¬ (inR x (mn 0)) → ((-1000000001) : Int32).toInt = aPassed T Ns Np v x.toInt y.toInt z.toInt u_.toInt ∧ MF 140 mw mw) ∧ (inR x (mn 0) → (¬ y.toInt64 < 0 ∧ ¬ ((((1 : Int32) <<< ((mn 1) &&& 31)) - 1).toInt64) < y.toInt64 → ∃ (I40_9 : (Nat → Int32) → Int32 → Int32 → Int32 → Prop) (μ40_10 : (Nat → Int32) → Int32 → Int32 → Int32 → Nat), I40_9 th 0 1 0 ∧ (∀ (fm11_5 : (Nat → Int32)) (x5_6 : Int32) (x6_7 : Int32) (x7_8 : Int32), I40_9 fm11_5 x5_6 x6_7 x7_8 → ((mn 1) ≤ x7_8 → (¬ (¬ z.toInt64 < 1 ∧ ¬ 60 < z.toInt64) → ((-1000000002) : Int32).toInt = aPassed T Ns Np v x.toInt y.toInt z.toInt u_.toInt ∧ MF 140 mw mw) ∧ (¬ z.toInt64 < 1 ∧ ¬ 60 < z.toInt64 → (¬ (¬ x5_6.toInt64 < 1 ∧ ¬ 6 < x5_6.toInt64) → ((-1000000002) : Int32).toInt = aPassed T Ns Np v x.toInt y.toInt z.toInt u_.toInt ∧ MF 140 mw mw) ∧ (¬ x5_6.toInt64 < 1 ∧ ¬ 6 < x5_6.toInt64 → (¬ u_.toInt64 < 0 ∧ ¬ x5_6.toInt64 < u_.toInt64 → ∃ (I143_25 : (Nat → Int64) → (Nat → Int32) → Int32 → Int32 → Int64 → Prop) (μ143_26 : (Nat → Int64) → (Nat → Int32) → Int32 → Int32 → Int64 → Nat), I143_25 mw od 0 (-1) 0 ∧ (∀ (fm1_20 : (Nat → Int64)) (fm12_21 : (Nat → Int32)) (x10_22 : Int32) (x7_23 : Int32) (x8_24 : Int64), I143_25 fm1_20 fm12_21 x10_22 x7_23 x8_24 → (x6_7 ≤ x10_22 → ∃ (gcq_30 : Nat) (gnq_31 : Nat) (gAv_32 : Nat → Bool), ((x7_23 = nI gcq_30 ∧ x5_6 = nI gnq_31 ∧ 1 ≤ gnq_31 ∧ gnq_31 ≤ 6 ∧ gcq_30 < fac gnq_31 ∧ cntA gAv_32 8 = gnq_31 ∧ (∀ i, i < gnq_31 → fm11_5 i = nI (nthA gAv_32 i 8))) ∧ (∀ (od2_34 : Nat → Int32), ((∀ k, k < gnq_31 → od2_34 k = nI ((ordL gnq_31 gAv_32 gcq_30).getD k 0))) → ((¬ u_ = 0 → (vp_in (u_ - 1) 6) ∧ ((od2_34 (u_ - 1).toNatClampNeg).toInt = aPassed T Ns Np v x.toInt y.toInt z.toInt u_.toInt ∧ MF 140 mw fm1_20)) ∧ (u_ = 0 → x8_24.toInt32.toInt = aPassed T Ns Np v x.toInt y.toInt z.toInt u_.toInt ∧ MF 140 mw fm1_20))))) ∧ (¬ (x6_7 ≤ x10_22) → ∃ (gcq_36 : Nat) (gnq_37 : Nat) (gAv_38 : Nat → Bool), ((x10_22 = nI gcq_36 ∧ x5_6 = nI gnq_37 ∧ 1 ≤ gnq_37 ∧ gnq_37 ≤ 6 ∧ gcq_36 < fac gnq_37 ∧ cntA gAv_38 8 = gnq_37 ∧ (∀ i, i < gnq_37 → fm11_5 i = nI (nthA gAv_38 i 8))) ∧ (∀ (od2_40 : Nat → Int32), ((∀ k, k < gnq_37 → od2_40 k = nI ((ordL gnq_37 gAv_38 gcq_36).getD k 0))) → (∃ (gT_41 : Nat → Nat → Int) (gNs_42 : Nat) (gNp_43 : Nat) (gv_44 : Nat → Int) (gM_45 : Int) (gib_46 : Nat) (gmq_47 : Nat) (gnq_48 : Nat) (gol_49 : List Nat), ((TOK gT_41 gNs_42 gNp_43 ∧ MT gT_41 gNs_42 gNp_43 fu fd fi zs cl ks ne mn ∧ MR 0 fm1_20 gv_44 ∧ NOK gT_41 gNs_42 gNp_43 (fun _ => 2 * gM_45) gM_45 gv_44 ∧ gM_45 ≤ 900000 ∧ x = nI gib_46 ∧ gib_46 < gNs_42 ∧ z = nI gmq_47 ∧ gmq_47 ≤ 60 ∧ x5_6 = nI gnq_48 ∧ gnq_48 ≤ 6 ∧ gol_49.length = gnq_48 ∧ (∀ k, k < gnq_48 → od2_40 k = nI (gol_49.getD k 0) ∧ gol_49.getD k 0 < gNp_43) ∧ (∀ i k, i < k → k < gnq_48 → gol_49.getD i 0 ≠ gol_49.getD k 0)) ∧ (∀ (r_50 : Int64) (mw2_51 : Nat → Int64), (r_50.toInt = heatL gT_41 gv_44 gib_46 gmq_47 0 (gv_44 gib_46) gol_49 ∧ MF 140 fm1_20 mw2_51) → ((x7_23 < 0 → I143_25 mw2_51 od2_40 (x10_22 + 1) x10_22 r_50 ∧ μ143_26 mw2_51 od2_40 (x10_22 + 1) x10_22 r_50 < μ143_26 fm1_20 fm12_21 x10_22 x7_23 x8_24) ∧ (¬ (x7_23 < 0) → (r_50 ≤ x8_24 → I143_25 mw2_51 od2_40 (x10_22 + 1) x7_23 x8_24 ∧ μ143_26 mw2_51 od2_40 (x10_22 + 1) x7_23 x8_24 < μ143_26 fm1_20 fm12_21 x10_22 x7_23 x8_24) ∧ (¬ (r_50 ≤ x8_24) → I143_25 mw2_51 od2_40 (x10_22 + 1) x10_22 r_50 ∧ μ143_26 mw2_51 od2_40 (x10_22 + 1) x10_22 r_50 < μ143_26 fm1_20 fm12_21 x10_22 x7_23 x8_24))))))))))) ∧ (¬ (¬ u_.toInt64 < 0 ∧ ¬ x5_6.toInt64 < u_.toInt64) → ((-1000000002) : Int32).toInt = aPassed T Ns Np v x.toInt y.toInt z.toInt u_.toInt ∧ MF 140 mw mw)))) ∧ (¬ ((mn 1) ≤ x7_8) → (¬ ((y >>> (x7_8 &&& 31)) &&& 1) = 1 → I40_9 fm11_5 x5_6 x6_7 (x7_8 + 1) ∧ μ40_10 fm11_5 x5_6 x6_7 (x7_8 + 1) < μ40_10 fm11_5 x5_6 x6_7 x7_8) ∧ (((y >>> (x7_8 &&& 31)) &&& 1) = 1 → (6 ≤ x5_6 → ∀ (y_59 : Int32), (y_59 = (x6_7 * (x5_6 + 1))) → (I40_9 fm11_5 (x5_6 + 1) y_59 (x7_8 + 1) ∧ μ40_10 fm11_5 (x5_6 + 1) y_59 (x7_8 + 1) < μ40_10 fm11_5 x5_6 x6_7 x7_8)) ∧ (¬ (6 ≤ x5_6) → (vp_in x5_6 6) ∧ (∀ (fm11_60 : (Nat → Int32)), (fm11_60 = (upd fm11_5 x5_6.toNatClampNeg x7_8)) → (∀ (y_61 : Int32), (y_61 = (x6_7 * (x5_6 + 1))) → (I40_9 fm11_60 (x5_6 + 1) y_61 (x7_8 + 1) ∧ μ40_10 fm11_60 (x5_6 + 1) y_61 (x7_8 + 1) < μ40_10 fm11_5 x5_6 x6_7 x7_8)))))))) ∧ (¬ (¬ y.toInt64 < 0 ∧ ¬ ((((1 : Int32) <<< ((mn 1) &&& 31)) - 1).toInt64) < y.toInt64) → ((-1000000001) : Int32).toInt = aPassed T Ns Np v x.toInt y.toInt z.toInt u_.toInt ∧ MF 140 mw mw))) : MetI l yX8_passed wsX8_passed 5 127 G [.ref m0, .int x, .int y, .int z, .int u_] [(m0, .inr (8, [.ref m1, .ref m2, .ref m3, .ref m4, .ref m5, .ref m6, .ref m7, .ref m8, .ref m9, .int fu, .int fd, .int fi, .int nu, .int nw, .int nf, .int bf, .int bn, .ref m10, .int ts, .int ap, .int fs, .int ln, .int fo, .int fa, .ref m11, .ref m12, .ref m13, .ref m14, .int wr])), aJ G m1 560 mw, aZ G m2 2 ik, aI G m3 20 zs, aI G m4 20 cl, aI G m5 20 hs, aI G m6 20 ks, aI G m7 20 wa, aI G m8 20 ne, aI G m9 4 mn, aI G m10 400 tx, aI G m11 6 th, aI G m12 6 od, aI G m13 30 bk, aI G m14 30 bh] sz (fun (r : Int32) (u : (Nat → Int64) × (Nat → Int32) × (Nat → Int32)) => r.toInt = aPassed T Ns Np v x.toInt y.toInt z.toInt u_.toInt ∧ MF 140 mw u.1) (fun (u : (Nat → Int64) × (Nat → Int32) × (Nat → Int32)) => [(m0, .inr (8, [.ref m1, .ref m2, .ref m3, .ref m4, .ref m5, .ref m6, .ref m7, .ref m8, .ref m9, .int fu, .int fd, .int fi, .int nu, .int nw, .int nf, .int bf, .int bn, .ref m10, .int ts, .int ap, .int fs, .int ln, .int fo, .int fa, .ref m11, .ref m12, .ref m13, .ref m14, .int wr])), aJ G m1 560 u.1, aZ G m2 2 ik, aI G m3 20 zs, aI G m4 20 cl, aI G m5 20 hs, aI G m6 20 ks, aI G m7 20 wa, aI G m8 20 ne, aI G m9 4 mn, aI G m10 400 tx, aI G m11 6 u.2.1, aI G m12 6 u.2.2, aI G m13 30 bk, aI G m14 30 bh]) := by
  refine x_startI (cc := cX8_passed) (maxL := 13) (ret := (some .int)) (by decide) rfl (Nat.le_of_ble_eq_true rfl) ?_
  intro p e s m args below meth c A R Q ls hRf hRl hQ C hP hD hS hA hSS hl
  obtain ⟨hx, hb, hr, hml, hown, hts, hlocks, hKK⟩ := C
  have hown : s.vm.findClass RX8 = some m.cls := hown
  have hl : lv_has ls 13 [(0, .ref m0), (1, .int x), (2, .int y), (3, .int z), (4, .int u_)] := hl
  have hinX8 : ∀ w ∈ u_ws RX8 TX8 29, w ∈ wsX8_passed := by decide +kernel
  have kl164 := hts (.constant RX8 164 (-1000000001)) (by decide +kernel)
  have kl234 := hts (.constantLong RX8 234 (60)) (by decide +kernel)
  have kl246 := hts (.constantLong RX8 246 (6)) (by decide +kernel)
  have kl36 := hts (.fieldLink RX8 36 "WarmStonesModel" "many" "[I") (by decide +kernel)
  have kl52 := hts (.fieldLink RX8 52 "WarmStonesModel" "those" "[I") (by decide +kernel)
  have kl55 := hts (.fieldLink RX8 55 "WarmStonesModel" "order" "[I") (by decide +kernel)
  have kl73 := hts (.constant RX8 73 (-1000000002)) (by decide +kernel)
  refine lv_aload_n hx hb dX8_passed_0 rfl (lv_at hl 0 rfl) ?_
  refine lv_iload_n hx hb dX8_passed_1 rfl (lv_at hl 1 rfl) ?_
  refine x_calliR (x_runV (As := [.int x]) (rest := []) (n := 1) (C := RX8) (ci := 8) ⟨hx, hb, hml, hown, hts⟩ (k_X8_isStone l G m0 m1 m2 m3 m4 m5 m6 m7 m8 m9 m10 m11 m12 m13 m14 _ mw ik zs cl hs ks wa ne mn tx th od bk bh fu fd fi nu nw nf bf bn ts ap fs ln fo fa wr x) gX8_passed_X8_isStone rfl (by decide +kernel) ⟨Nat.le_trans (Nat.le_of_ble_eq_true rfl) hRf, Nat.le_trans (Nat.le_of_ble_eq_true rfl) hRl⟩ hKK hSS hS hA hP hD [0, 1, 2, 3, 4, 5, 6, 7, 8, 9, 10, 11, 12, 13, 14] (by decide) rfl rfl rfl 0 rfl rfl hl.1 rfl (Nat.le_of_ble_eq_true rfl) dX8_passed_2) hP hD hS hA [0, 1, 2, 3, 4, 5, 6, 7, 8, 9, 10, 11, 12, 13, 14] rfl (fun r_1 _ H locs hw hP hS => ?_)
  replace hw := hw.symm; subst hw
  refine lv_if_eq (tgt := 28) hx hb dX8_passed_5 (by decide) (fun hc_2 => ?_) (fun hc_2 => ?_)
  · have hv := hv.1 (tv_eq.mp hc_2)
    refine lv_ldc (v := (-1000000001)) hx hb hown kl164 dX8_passed_28 ?_
    exact x_iret (v := (-1000000001)) (mw, th, od) hQ hx hb hr hlocks hS dX8_passed_30 hv hP hD
  · have hv := hv.2 (tv_eqn.mp hc_2)
    refine lv_iload_n hx hb dX8_passed_8 rfl (lv_at hl 2 rfl) ?_
    refine lv_i2l hx hb dX8_passed_9 rfl ?_
    refine lv_lconst (v := 0) hx hb dX8_passed_10 (by decide) ?_
    refine lv_iconst (v := 1) hx hb dX8_passed_11 (by decide) ?_
    refine lv_aload_n hx hb dX8_passed_12 rfl (lv_at hl 0 rfl) ?_
    refine va_get (D := G.1) (ci := 8) (v := .ref m9) (C := RX8) (T := TX8) (N := 29) hx hb hts hinX8 hown hKK.1 hP 0 rfl rfl 8 (by decide) kl36 (fun _ h9 => h9) rfl dX8_passed_13 ?_
    refine lv_iconst (v := 1) hx hb dX8_passed_16 (by decide) ?_
    refine va_iald hx hb hKK.1 hP 9 0 rfl rfl (by unfold vp_in; decide) dX8_passed_17 ?_
    refine lv_ishl hx hb dX8_passed_18 ?_
    refine lv_iconst (v := 1) hx hb dX8_passed_19 (by decide) ?_
    refine lv_isub hx hb dX8_passed_20 ?_
    refine lv_i2l hx hb dX8_passed_21 rfl ?_
    refine x_calliR (x_runS (As := [.long y.toInt64, .long 0, .long ((((1 : Int32) <<< ((mn 1) &&& 31)) - 1).toInt64)]) (rest := []) (n := 3) ⟨hx, hb, hml, hown, hts⟩ (k_X8_in l G  _ y.toInt64 0 ((((1 : Int32) <<< ((mn 1) &&& 31)) - 1).toInt64)) gX8_passed_X8_in rfl (by decide +kernel) ⟨Nat.le_trans (Nat.le_of_ble_eq_true rfl) hRf, Nat.le_trans (Nat.le_of_ble_eq_true rfl) hRl⟩ hKK hSS hS hA hP hD [] (by decide) rfl rfl hl.1 rfl (Nat.le_of_ble_eq_true rfl) dX8_passed_22) hP hD hS hA [] rfl (fun r_3 _ H locs hw hP hS => ?_)
    replace hw := hw.symm; subst hw
    refine lv_if_ne (tgt := 31) hx hb dX8_passed_25 (by decide) (fun hc_4 => ?_) (fun hc_4 => ?_)
    · have hv := hv.1 (tv_eqn.mp hc_4)
      refine lv_iconst (v := 0) hx hb dX8_passed_31 (by decide) ?_
      refine lv_istore (lv' := [(5, .int 0), (0, .ref m0), (1, .int x), (2, .int y), (3, .int z), (4, .int u_)]) hx hb dX8_passed_32 hl (by decide) rfl (fun ls hl => ?_)
      refine lv_iconst (v := 1) hx hb dX8_passed_34 (by decide) ?_
      refine lv_istore (lv' := [(6, .int 1), (5, .int 0), (0, .ref m0), (1, .int x), (2, .int y), (3, .int z), (4, .int u_)]) hx hb dX8_passed_35 hl (by decide) rfl (fun ls hl => ?_)
      refine lv_iconst (v := 0) hx hb dX8_passed_37 (by decide) ?_
      refine lv_istore (lv' := [(7, .int 0), (6, .int 1), (5, .int 0), (0, .ref m0), (1, .int x), (2, .int y), (3, .int z), (4, .int u_)]) hx hb dX8_passed_38 hl (by decide) rfl (fun ls hl => ?_)
      obtain ⟨I40_9, μ40_10, hi0, hs_62⟩ := hv
      have Lm_64 : ∀ (n_63 : Nat) (fm11_5 : (Nat → Int32)) (x5_6 : Int32) (x6_7 : Int32) (x7_8 : Int32) (H : Heap) (locs : List Loc) (ls : Array Slot), μ40_10 fm11_5 x5_6 x6_7 x7_8 < n_63 → I40_9 fm11_5 x5_6 x6_7 x7_8 → va_P G.1 vwCl [(m0, .inr (8, [.ref m1, .ref m2, .ref m3, .ref m4, .ref m5, .ref m6, .ref m7, .ref m8, .ref m9, .int fu, .int fd, .int fi, .int nu, .int nw, .int nf, .int bf, .int bn, .ref m10, .int ts, .int ap, .int fs, .int ln, .int fo, .int fa, .ref m11, .ref m12, .ref m13, .ref m14, .int wr])), aJ G m1 560 mw, aZ G m2 2 ik, aI G m3 20 zs, aI G m4 20 cl, aI G m5 20 hs, aI G m6 20 ks, aI G m7 20 wa, aI G m8 20 ne, aI G m9 4 mn, aI G m10 400 tx, aI G m11 6 fm11_5, aI G m12 6 od, aI G m13 30 bk, aI G m14 30 bh] H → va_D A [(m0, .inr (8, [.ref m1, .ref m2, .ref m3, .ref m4, .ref m5, .ref m6, .ref m7, .ref m8, .ref m9, .int fu, .int fd, .int fi, .int nu, .int nw, .int nf, .int bf, .int bn, .ref m10, .int ts, .int ap, .int fs, .int ln, .int fo, .int fa, .ref m11, .ref m12, .ref m13, .ref m14, .int wr])), aJ G m1 560 mw, aZ G m2 2 ik, aI G m3 20 zs, aI G m4 20 cl, aI G m5 20 hs, aI G m6 20 ks, aI G m7 20 wa, aI G m8 20 ne, aI G m9 4 mn, aI G m10 400 tx, aI G m11 6 fm11_5, aI G m12 6 od, aI G m13 30 bk, aI G m14 30 bh] → va_S A s.heap H locs → lv_has ls 13 [(7, .int x7_8), (6, .int x6_7), (5, .int x5_6), (0, .ref m0), (1, .int x), (2, .int y), (3, .int z), (4, .int u_)] → W p l e R s m args below meth c H locs 0 0 Q (F0 m 40 ls []) := by
        intro n_63
        induction n_63 with
        | zero => intro fm11_5 x5_6 x6_7 x7_8 H locs ls hm; exact absurd hm (Nat.not_lt_zero _)
        | succ n_63 ih_11 =>
          intro fm11_5 x5_6 x6_7 x7_8 H locs ls hI_12 hi hP hD hS hl
          have hv := hs_62 fm11_5 x5_6 x6_7 x7_8 hi
          refine lv_iload hx hb dX8_passed_40 (lv_at hl 0 rfl) ?_
          refine lv_aload_n hx hb dX8_passed_42 rfl (lv_at hl 3 rfl) ?_
          refine va_get (D := G.1) (ci := 8) (v := .ref m9) (C := RX8) (T := TX8) (N := 29) hx hb hts hinX8 hown hKK.1 hP 0 rfl rfl 8 (by decide) kl36 (fun _ h9 => h9) rfl dX8_passed_43 ?_
          refine lv_iconst (v := 1) hx hb dX8_passed_46 (by decide) ?_
          refine va_iald hx hb hKK.1 hP 9 0 rfl rfl (by unfold vp_in; decide) dX8_passed_47 ?_
          refine lv_icmp_ge (tgt := 93) hx hb dX8_passed_48 (by decide) (fun hc_13 => ?_) (fun hc_13 => ?_)
          · have hv := hv.1 hc_13
            refine lv_iload_n hx hb dX8_passed_93 rfl (lv_at hl 6 rfl) ?_
            refine lv_i2l hx hb dX8_passed_94 rfl ?_
            refine lv_lconst (v := 1) hx hb dX8_passed_95 (by decide) ?_
            refine lv_ldc2 (v := 60) hx hb hown kl234 dX8_passed_96 ?_
            refine x_calliR (x_runS (As := [.long z.toInt64, .long 1, .long 60]) (rest := []) (n := 3) ⟨hx, hb, hml, hown, hts⟩ (k_X8_in l G  _ z.toInt64 1 60) gX8_passed_X8_in rfl (by decide +kernel) ⟨Nat.le_trans (Nat.le_of_ble_eq_true rfl) hRf, Nat.le_trans (Nat.le_of_ble_eq_true rfl) hRl⟩ hKK hSS hS hA hP hD [] (by decide) rfl rfl hl.1 rfl (Nat.le_of_ble_eq_true rfl) dX8_passed_99) hP hD hS hA [] rfl (fun r_14 _ H locs hw hP hS => ?_)
            replace hw := hw.symm; subst hw
            refine lv_if_eq (tgt := 131) hx hb dX8_passed_102 (by decide) (fun hc_15 => ?_) (fun hc_15 => ?_)
            · have hv := hv.1 (tv_eq.mp hc_15)
              refine lv_ldc (v := (-1000000002)) hx hb hown kl73 dX8_passed_131 ?_
              exact x_iret (v := (-1000000002)) (mw, fm11_5, od) hQ hx hb hr hlocks hS dX8_passed_133 hv hP hD
            · have hv := hv.2 (tv_eqn.mp hc_15)
              refine lv_iload hx hb dX8_passed_105 (lv_at hl 2 rfl) ?_
              refine lv_i2l hx hb dX8_passed_107 rfl ?_
              refine lv_lconst (v := 1) hx hb dX8_passed_108 (by decide) ?_
              refine lv_ldc2 (v := 6) hx hb hown kl246 dX8_passed_109 ?_
              refine x_calliR (x_runS (As := [.long x5_6.toInt64, .long 1, .long 6]) (rest := []) (n := 3) ⟨hx, hb, hml, hown, hts⟩ (k_X8_in l G  _ x5_6.toInt64 1 6) gX8_passed_X8_in rfl (by decide +kernel) ⟨Nat.le_trans (Nat.le_of_ble_eq_true rfl) hRf, Nat.le_trans (Nat.le_of_ble_eq_true rfl) hRl⟩ hKK hSS hS hA hP hD [] (by decide) rfl rfl hl.1 rfl (Nat.le_of_ble_eq_true rfl) dX8_passed_112) hP hD hS hA [] rfl (fun r_16 _ H locs hw hP hS => ?_)
              replace hw := hw.symm; subst hw
              refine lv_if_eq (tgt := 131) hx hb dX8_passed_115 (by decide) (fun hc_17 => ?_) (fun hc_17 => ?_)
              · have hv := hv.1 (tv_eq.mp hc_17)
                refine lv_ldc (v := (-1000000002)) hx hb hown kl73 dX8_passed_131 ?_
                exact x_iret (v := (-1000000002)) (mw, fm11_5, od) hQ hx hb hr hlocks hS dX8_passed_133 hv hP hD
              · have hv := hv.2 (tv_eqn.mp hc_17)
                refine lv_iload hx hb dX8_passed_118 (lv_at hl 7 rfl) ?_
                refine lv_i2l hx hb dX8_passed_120 rfl ?_
                refine lv_lconst (v := 0) hx hb dX8_passed_121 (by decide) ?_
                refine lv_iload hx hb dX8_passed_122 (lv_at hl 2 rfl) ?_
                refine lv_i2l hx hb dX8_passed_124 rfl ?_
                refine x_calliR (x_runS (As := [.long u_.toInt64, .long 0, .long x5_6.toInt64]) (rest := []) (n := 3) ⟨hx, hb, hml, hown, hts⟩ (k_X8_in l G  _ u_.toInt64 0 x5_6.toInt64) gX8_passed_X8_in rfl (by decide +kernel) ⟨Nat.le_trans (Nat.le_of_ble_eq_true rfl) hRf, Nat.le_trans (Nat.le_of_ble_eq_true rfl) hRl⟩ hKK hSS hS hA hP hD [] (by decide) rfl rfl hl.1 rfl (Nat.le_of_ble_eq_true rfl) dX8_passed_125) hP hD hS hA [] rfl (fun r_18 _ H locs hw hP hS => ?_)
                replace hw := hw.symm; subst hw
                refine lv_if_ne (tgt := 134) hx hb dX8_passed_128 (by decide) (fun hc_19 => ?_) (fun hc_19 => ?_)
                · have hv := hv.1 (tv_eqn.mp hc_19)
                  refine lv_iconst (v := (-1)) hx hb dX8_passed_134 (by decide) ?_
                  refine lv_istore (lv' := [(7, .int (-1)), (6, .int x6_7), (5, .int x5_6), (0, .ref m0), (1, .int x), (2, .int y), (3, .int z), (4, .int u_)]) hx hb dX8_passed_135 hl (by decide) rfl (fun ls hl => ?_)
                  refine lv_lconst (v := 0) hx hb dX8_passed_137 (by decide) ?_
                  refine lv_lstore (lv' := [(8, .long 0), (7, .int (-1)), (6, .int x6_7), (5, .int x5_6), (0, .ref m0), (1, .int x), (2, .int y), (3, .int z), (4, .int u_)]) hx hb dX8_passed_138 hl (by decide) rfl (fun ls hl => ?_)
                  refine lv_iconst (v := 0) hx hb dX8_passed_140 (by decide) ?_
                  refine lv_istore (lv' := [(10, .int 0), (8, .long 0), (7, .int (-1)), (6, .int x6_7), (5, .int x5_6), (0, .ref m0), (1, .int x), (2, .int y), (3, .int z), (4, .int u_)]) hx hb dX8_passed_141 hl (by decide) rfl (fun ls hl => ?_)
                  obtain ⟨I143_25, μ143_26, hi0, hs_54⟩ := hv
                  have Lm_56 : ∀ (n_55 : Nat) (fm1_20 : (Nat → Int64)) (fm12_21 : (Nat → Int32)) (x10_22 : Int32) (x7_23 : Int32) (x8_24 : Int64) (H : Heap) (locs : List Loc) (ls : Array Slot), μ143_26 fm1_20 fm12_21 x10_22 x7_23 x8_24 < n_55 → I143_25 fm1_20 fm12_21 x10_22 x7_23 x8_24 → va_P G.1 vwCl [(m0, .inr (8, [.ref m1, .ref m2, .ref m3, .ref m4, .ref m5, .ref m6, .ref m7, .ref m8, .ref m9, .int fu, .int fd, .int fi, .int nu, .int nw, .int nf, .int bf, .int bn, .ref m10, .int ts, .int ap, .int fs, .int ln, .int fo, .int fa, .ref m11, .ref m12, .ref m13, .ref m14, .int wr])), aJ G m1 560 fm1_20, aZ G m2 2 ik, aI G m3 20 zs, aI G m4 20 cl, aI G m5 20 hs, aI G m6 20 ks, aI G m7 20 wa, aI G m8 20 ne, aI G m9 4 mn, aI G m10 400 tx, aI G m11 6 fm11_5, aI G m12 6 fm12_21, aI G m13 30 bk, aI G m14 30 bh] H → va_D A [(m0, .inr (8, [.ref m1, .ref m2, .ref m3, .ref m4, .ref m5, .ref m6, .ref m7, .ref m8, .ref m9, .int fu, .int fd, .int fi, .int nu, .int nw, .int nf, .int bf, .int bn, .ref m10, .int ts, .int ap, .int fs, .int ln, .int fo, .int fa, .ref m11, .ref m12, .ref m13, .ref m14, .int wr])), aJ G m1 560 fm1_20, aZ G m2 2 ik, aI G m3 20 zs, aI G m4 20 cl, aI G m5 20 hs, aI G m6 20 ks, aI G m7 20 wa, aI G m8 20 ne, aI G m9 4 mn, aI G m10 400 tx, aI G m11 6 fm11_5, aI G m12 6 fm12_21, aI G m13 30 bk, aI G m14 30 bh] → va_S A s.heap H locs → lv_has ls 13 [(10, .int x10_22), (8, .long x8_24), (7, .int x7_23), (6, .int x6_7), (5, .int x5_6), (0, .ref m0), (1, .int x), (2, .int y), (3, .int z), (4, .int u_)] → W p l e R s m args below meth c H locs 0 0 Q (F0 m 143 ls []) := by
                    intro n_55
                    induction n_55 with
                    | zero => intro fm1_20 fm12_21 x10_22 x7_23 x8_24 H locs ls hm; exact absurd hm (Nat.not_lt_zero _)
                    | succ n_55 ih_27 =>
                      intro fm1_20 fm12_21 x10_22 x7_23 x8_24 H locs ls hI_28 hi hP hD hS hl
                      have hv := hs_54 fm1_20 fm12_21 x10_22 x7_23 x8_24 hi
                      refine lv_iload hx hb dX8_passed_143 (lv_at hl 0 rfl) ?_
                      refine lv_iload hx hb dX8_passed_145 (lv_at hl 3 rfl) ?_
                      refine lv_icmp_ge (tgt := 195) hx hb dX8_passed_147 (by decide) (fun hc_29 => ?_) (fun hc_29 => ?_)
                      · have hv := hv.1 hc_29
                        refine lv_aload_n hx hb dX8_passed_195 rfl (lv_at hl 5 rfl) ?_
                        refine lv_iload hx hb dX8_passed_196 (lv_at hl 2 rfl) ?_
                        refine lv_iload hx hb dX8_passed_198 (lv_at hl 4 rfl) ?_
                        obtain ⟨gcq_30, gnq_31, gAv_32, hv⟩ := hv
                        obtain ⟨hp, hv⟩ := hv
                        refine x_callv (wr := []) (w' := fun (u : (Nat → Int32)) => [(m0, .inr (8, [.ref m1, .ref m2, .ref m3, .ref m4, .ref m5, .ref m6, .ref m7, .ref m8, .ref m9, .int fu, .int fd, .int fi, .int nu, .int nw, .int nf, .int bf, .int bn, .ref m10, .int ts, .int ap, .int fs, .int ln, .int fo, .int fa, .ref m11, .ref m12, .ref m13, .ref m14, .int wr])), aJ G m1 560 fm1_20, aZ G m2 2 ik, aI G m3 20 zs, aI G m4 20 cl, aI G m5 20 hs, aI G m6 20 ks, aI G m7 20 wa, aI G m8 20 ne, aI G m9 4 mn, aI G m10 400 tx, aI G m11 6 fm11_5, aI G m12 6 u, aI G m13 30 bk, aI G m14 30 bh]) (x_runV (As := [.int x7_23, .int x5_6]) (rest := []) (n := 2) (C := RX8) (ci := 8) ⟨hx, hb, hml, hown, hts⟩ (k_X8_layOrder l G m0 m1 m2 m3 m4 m5 m6 m7 m8 m9 m10 m11 m12 m13 m14 _ fm1_20 ik zs cl hs ks wa ne mn tx fm11_5 fm12_21 bk bh fu fd fi nu nw nf bf bn ts ap fs ln fo fa wr x7_23 x5_6 gcq_30 gnq_31 gAv_32 hp) gX8_passed_X8_layOrder rfl (by decide +kernel) ⟨Nat.le_trans (Nat.le_of_ble_eq_true rfl) hRf, Nat.le_trans (Nat.le_of_ble_eq_true rfl) hRl⟩ hKK hSS hS hA hP hD [0, 1, 2, 3, 4, 5, 6, 7, 8, 9, 10, 11, 12, 13, 14] (by decide) rfl rfl rfl 0 rfl rfl hl.1 rfl (Nat.le_of_ble_eq_true rfl) dX8_passed_200) hP hD hS hA [0, 1, 2, 3, 4, 5, 6, 7, 8, 9, 10, 11, 12, 13, 14] [] [0, 1, 2, 3, 4, 5, 6, 7, 8, 9, 10, 11, 12, 13, 14] rfl rfl (by decide) (by decide) (by decide) (fun _ => rfl) (fun  u H locs hw hP hD hS => ?_)
                        obtain ⟨od2_34, rfl⟩ : ∃ z9_, z9_ = u := ⟨_, rfl⟩
                        have hP : va_P G.1 vwCl [(m0, .inr (8, [.ref m1, .ref m2, .ref m3, .ref m4, .ref m5, .ref m6, .ref m7, .ref m8, .ref m9, .int fu, .int fd, .int fi, .int nu, .int nw, .int nf, .int bf, .int bn, .ref m10, .int ts, .int ap, .int fs, .int ln, .int fo, .int fa, .ref m11, .ref m12, .ref m13, .ref m14, .int wr])), aJ G m1 560 fm1_20, aZ G m2 2 ik, aI G m3 20 zs, aI G m4 20 cl, aI G m5 20 hs, aI G m6 20 ks, aI G m7 20 wa, aI G m8 20 ne, aI G m9 4 mn, aI G m10 400 tx, aI G m11 6 fm11_5, aI G m12 6 od2_34, aI G m13 30 bk, aI G m14 30 bh] H := hP
                        have hD : va_D A [(m0, .inr (8, [.ref m1, .ref m2, .ref m3, .ref m4, .ref m5, .ref m6, .ref m7, .ref m8, .ref m9, .int fu, .int fd, .int fi, .int nu, .int nw, .int nf, .int bf, .int bn, .ref m10, .int ts, .int ap, .int fs, .int ln, .int fo, .int fa, .ref m11, .ref m12, .ref m13, .ref m14, .int wr])), aJ G m1 560 fm1_20, aZ G m2 2 ik, aI G m3 20 zs, aI G m4 20 cl, aI G m5 20 hs, aI G m6 20 ks, aI G m7 20 wa, aI G m8 20 ne, aI G m9 4 mn, aI G m10 400 tx, aI G m11 6 fm11_5, aI G m12 6 od2_34, aI G m13 30 bk, aI G m14 30 bh] := hD
                        have hv := hv od2_34 hw
                        refine lv_iload hx hb dX8_passed_203 (lv_at hl 9 rfl) ?_
                        refine lv_if_ne (tgt := 214) hx hb dX8_passed_205 (by decide) (fun hc_35 => ?_) (fun hc_35 => ?_)
                        · have hv := hv.1 hc_35
                          refine lv_aload_n hx hb dX8_passed_214 rfl (lv_at hl 5 rfl) ?_
                          refine va_get (D := G.1) (ci := 8) (v := .ref m12) (C := RX8) (T := TX8) (N := 29) hx hb hts hinX8 hown hKK.1 hP 0 rfl rfl 25 (by decide) kl55 (fun _ h9 => h9) rfl dX8_passed_215 ?_
                          refine lv_iload hx hb dX8_passed_218 (lv_at hl 9 rfl) ?_
                          refine lv_iconst (v := 1) hx hb dX8_passed_220 (by decide) ?_
                          refine lv_isub hx hb dX8_passed_221 ?_
                          obtain ⟨hin, hv⟩ := hv
                          refine va_iald hx hb hKK.1 hP 12 0 rfl rfl hin dX8_passed_222 ?_
                          exact x_iret (v := (od2_34 (u_ - 1).toNatClampNeg)) (fm1_20, fm11_5, od2_34) hQ hx hb hr hlocks hS dX8_passed_223 hv hP hD
                        · have hv := hv.2 hc_35
                          refine lv_lload hx hb dX8_passed_208 (lv_at hl 1 rfl) ?_
                          refine lv_l2i hx hb dX8_passed_210 rfl ?_
                          refine lv_goto (tgt := 223) hx hb dX8_passed_211 (by decide) ?_
                          exact x_iret (v := x8_24.toInt32) (fm1_20, fm11_5, od2_34) hQ hx hb hr hlocks hS dX8_passed_223 hv hP hD
                      · have hv := hv.2 hc_29
                        refine lv_aload_n hx hb dX8_passed_150 rfl (lv_at hl 5 rfl) ?_
                        refine lv_iload hx hb dX8_passed_151 (lv_at hl 0 rfl) ?_
                        refine lv_iload hx hb dX8_passed_153 (lv_at hl 4 rfl) ?_
                        obtain ⟨gcq_36, gnq_37, gAv_38, hv⟩ := hv
                        obtain ⟨hp, hv⟩ := hv
                        refine x_callv (wr := []) (w' := fun (u : (Nat → Int32)) => [(m0, .inr (8, [.ref m1, .ref m2, .ref m3, .ref m4, .ref m5, .ref m6, .ref m7, .ref m8, .ref m9, .int fu, .int fd, .int fi, .int nu, .int nw, .int nf, .int bf, .int bn, .ref m10, .int ts, .int ap, .int fs, .int ln, .int fo, .int fa, .ref m11, .ref m12, .ref m13, .ref m14, .int wr])), aJ G m1 560 fm1_20, aZ G m2 2 ik, aI G m3 20 zs, aI G m4 20 cl, aI G m5 20 hs, aI G m6 20 ks, aI G m7 20 wa, aI G m8 20 ne, aI G m9 4 mn, aI G m10 400 tx, aI G m11 6 fm11_5, aI G m12 6 u, aI G m13 30 bk, aI G m14 30 bh]) (x_runV (As := [.int x10_22, .int x5_6]) (rest := []) (n := 2) (C := RX8) (ci := 8) ⟨hx, hb, hml, hown, hts⟩ (k_X8_layOrder l G m0 m1 m2 m3 m4 m5 m6 m7 m8 m9 m10 m11 m12 m13 m14 _ fm1_20 ik zs cl hs ks wa ne mn tx fm11_5 fm12_21 bk bh fu fd fi nu nw nf bf bn ts ap fs ln fo fa wr x10_22 x5_6 gcq_36 gnq_37 gAv_38 hp) gX8_passed_X8_layOrder rfl (by decide +kernel) ⟨Nat.le_trans (Nat.le_of_ble_eq_true rfl) hRf, Nat.le_trans (Nat.le_of_ble_eq_true rfl) hRl⟩ hKK hSS hS hA hP hD [0, 1, 2, 3, 4, 5, 6, 7, 8, 9, 10, 11, 12, 13, 14] (by decide) rfl rfl rfl 0 rfl rfl hl.1 rfl (Nat.le_of_ble_eq_true rfl) dX8_passed_155) hP hD hS hA [0, 1, 2, 3, 4, 5, 6, 7, 8, 9, 10, 11, 12, 13, 14] [] [0, 1, 2, 3, 4, 5, 6, 7, 8, 9, 10, 11, 12, 13, 14] rfl rfl (by decide) (by decide) (by decide) (fun _ => rfl) (fun  u H locs hw hP hD hS => ?_)
                        obtain ⟨od2_40, rfl⟩ : ∃ z9_, z9_ = u := ⟨_, rfl⟩
                        have hP : va_P G.1 vwCl [(m0, .inr (8, [.ref m1, .ref m2, .ref m3, .ref m4, .ref m5, .ref m6, .ref m7, .ref m8, .ref m9, .int fu, .int fd, .int fi, .int nu, .int nw, .int nf, .int bf, .int bn, .ref m10, .int ts, .int ap, .int fs, .int ln, .int fo, .int fa, .ref m11, .ref m12, .ref m13, .ref m14, .int wr])), aJ G m1 560 fm1_20, aZ G m2 2 ik, aI G m3 20 zs, aI G m4 20 cl, aI G m5 20 hs, aI G m6 20 ks, aI G m7 20 wa, aI G m8 20 ne, aI G m9 4 mn, aI G m10 400 tx, aI G m11 6 fm11_5, aI G m12 6 od2_40, aI G m13 30 bk, aI G m14 30 bh] H := hP
                        have hD : va_D A [(m0, .inr (8, [.ref m1, .ref m2, .ref m3, .ref m4, .ref m5, .ref m6, .ref m7, .ref m8, .ref m9, .int fu, .int fd, .int fi, .int nu, .int nw, .int nf, .int bf, .int bn, .ref m10, .int ts, .int ap, .int fs, .int ln, .int fo, .int fa, .ref m11, .ref m12, .ref m13, .ref m14, .int wr])), aJ G m1 560 fm1_20, aZ G m2 2 ik, aI G m3 20 zs, aI G m4 20 cl, aI G m5 20 hs, aI G m6 20 ks, aI G m7 20 wa, aI G m8 20 ne, aI G m9 4 mn, aI G m10 400 tx, aI G m11 6 fm11_5, aI G m12 6 od2_40, aI G m13 30 bk, aI G m14 30 bh] := hD
                        have hv := hv od2_40 hw
                        refine lv_aload_n hx hb dX8_passed_158 rfl (lv_at hl 5 rfl) ?_
                        refine lv_iload_n hx hb dX8_passed_159 rfl (lv_at hl 6 rfl) ?_
                        refine lv_iload_n hx hb dX8_passed_160 rfl (lv_at hl 8 rfl) ?_
                        refine lv_iload hx hb dX8_passed_161 (lv_at hl 4 rfl) ?_
                        obtain ⟨gT_41, gNs_42, gNp_43, gv_44, gM_45, gib_46, gmq_47, gnq_48, gol_49, hv⟩ := hv
                        obtain ⟨hp, hv⟩ := hv
                        refine x_calll (wr := []) (w' := fun (u : (Nat → Int64)) => [(m0, .inr (8, [.ref m1, .ref m2, .ref m3, .ref m4, .ref m5, .ref m6, .ref m7, .ref m8, .ref m9, .int fu, .int fd, .int fi, .int nu, .int nw, .int nf, .int bf, .int bn, .ref m10, .int ts, .int ap, .int fs, .int ln, .int fo, .int fa, .ref m11, .ref m12, .ref m13, .ref m14, .int wr])), aJ G m1 560 u, aZ G m2 2 ik, aI G m3 20 zs, aI G m4 20 cl, aI G m5 20 hs, aI G m6 20 ks, aI G m7 20 wa, aI G m8 20 ne, aI G m9 4 mn, aI G m10 400 tx, aI G m11 6 fm11_5, aI G m12 6 od2_40, aI G m13 30 bk, aI G m14 30 bh]) (x_runV (As := [.int x, .int z, .int x5_6]) (rest := []) (n := 3) (C := RX8) (ci := 8) ⟨hx, hb, hml, hown, hts⟩ (k_X8_heatBy l G m0 m1 m2 m3 m4 m5 m6 m7 m8 m9 m10 m11 m12 m13 m14 _ fm1_20 ik zs cl hs ks wa ne mn tx fm11_5 od2_40 bk bh fu fd fi nu nw nf bf bn ts ap fs ln fo fa wr x z x5_6 gT_41 gNs_42 gNp_43 gv_44 gM_45 gib_46 gmq_47 gnq_48 gol_49 hp) gX8_passed_X8_heatBy rfl (by decide +kernel) ⟨Nat.le_trans (Nat.le_of_ble_eq_true rfl) hRf, Nat.le_trans (Nat.le_of_ble_eq_true rfl) hRl⟩ hKK hSS hS hA hP hD [0, 1, 2, 3, 4, 5, 6, 7, 8, 9, 10, 11, 12, 13, 14] (by decide) rfl rfl rfl 0 rfl rfl hl.1 rfl (Nat.le_of_ble_eq_true rfl) dX8_passed_163) hP hD hS hA [0, 1, 2, 3, 4, 5, 6, 7, 8, 9, 10, 11, 12, 13, 14] [] [0, 1, 2, 3, 4, 5, 6, 7, 8, 9, 10, 11, 12, 13, 14] rfl rfl (by decide) (by decide) (by decide) (fun _ => rfl) (fun r_50 u H locs hw hP hD hS => ?_)
                        obtain ⟨mw2_51, rfl⟩ : ∃ z9_, z9_ = u := ⟨_, rfl⟩
                        have hP : va_P G.1 vwCl [(m0, .inr (8, [.ref m1, .ref m2, .ref m3, .ref m4, .ref m5, .ref m6, .ref m7, .ref m8, .ref m9, .int fu, .int fd, .int fi, .int nu, .int nw, .int nf, .int bf, .int bn, .ref m10, .int ts, .int ap, .int fs, .int ln, .int fo, .int fa, .ref m11, .ref m12, .ref m13, .ref m14, .int wr])), aJ G m1 560 mw2_51, aZ G m2 2 ik, aI G m3 20 zs, aI G m4 20 cl, aI G m5 20 hs, aI G m6 20 ks, aI G m7 20 wa, aI G m8 20 ne, aI G m9 4 mn, aI G m10 400 tx, aI G m11 6 fm11_5, aI G m12 6 od2_40, aI G m13 30 bk, aI G m14 30 bh] H := hP
                        have hD : va_D A [(m0, .inr (8, [.ref m1, .ref m2, .ref m3, .ref m4, .ref m5, .ref m6, .ref m7, .ref m8, .ref m9, .int fu, .int fd, .int fi, .int nu, .int nw, .int nf, .int bf, .int bn, .ref m10, .int ts, .int ap, .int fs, .int ln, .int fo, .int fa, .ref m11, .ref m12, .ref m13, .ref m14, .int wr])), aJ G m1 560 mw2_51, aZ G m2 2 ik, aI G m3 20 zs, aI G m4 20 cl, aI G m5 20 hs, aI G m6 20 ks, aI G m7 20 wa, aI G m8 20 ne, aI G m9 4 mn, aI G m10 400 tx, aI G m11 6 fm11_5, aI G m12 6 od2_40, aI G m13 30 bk, aI G m14 30 bh] := hD
                        have hv := hv r_50 mw2_51 hw
                        refine lv_lstore (lv' := [(11, .long r_50), (10, .int x10_22), (8, .long x8_24), (7, .int x7_23), (6, .int x6_7), (5, .int x5_6), (0, .ref m0), (1, .int x), (2, .int y), (3, .int z), (4, .int u_)]) hx hb dX8_passed_166 hl (by decide) rfl (fun ls hl => ?_)
                        refine lv_iload hx hb dX8_passed_168 (lv_at hl 3 rfl) ?_
                        refine lv_if_lt (tgt := 181) hx hb dX8_passed_170 (by decide) (fun hc_52 => ?_) (fun hc_52 => ?_)
                        · have hv := hv.1 hc_52
                          refine lv_iload hx hb dX8_passed_181 (lv_at hl 1 rfl) ?_
                          refine lv_istore (lv' := [(7, .int x10_22), (11, .long r_50), (10, .int x10_22), (8, .long x8_24), (6, .int x6_7), (5, .int x5_6), (0, .ref m0), (1, .int x), (2, .int y), (3, .int z), (4, .int u_)]) hx hb dX8_passed_183 hl (by decide) rfl (fun ls hl => ?_)
                          refine lv_lload hx hb dX8_passed_185 (lv_at hl 1 rfl) ?_
                          refine lv_lstore (lv' := [(8, .long r_50), (7, .int x10_22), (11, .long r_50), (10, .int x10_22), (6, .int x6_7), (5, .int x5_6), (0, .ref m0), (1, .int x), (2, .int y), (3, .int z), (4, .int u_)]) hx hb dX8_passed_187 hl (by decide) rfl (fun ls hl => ?_)
                          refine lv_iinc (v := (x10_22 + 1)) (lv' := [(10, .int (x10_22 + 1)), (8, .long r_50), (7, .int x10_22), (11, .long r_50), (6, .int x6_7), (5, .int x5_6), (0, .ref m0), (1, .int x), (2, .int y), (3, .int z), (4, .int u_)]) hx hb dX8_passed_189 hl (k := 3) rfl rfl (by decide) rfl (fun ls hl => ?_)
                          refine lv_goto (tgt := 143) hx hb dX8_passed_192 (by decide) ?_
                          exact ih_27 _ _ _ _ _ _ _ _ (Nat.lt_of_lt_of_le hv.2 (Nat.le_of_lt_succ hI_28)) hv.1 hP hD hS (lv_sub hl [0, 1, 2, 4, 5, 6, 7, 8, 9, 10] rfl)
                        · have hv := hv.2 hc_52
                          refine lv_lload hx hb dX8_passed_173 (lv_at hl 0 rfl) ?_
                          refine lv_lload hx hb dX8_passed_175 (lv_at hl 2 rfl) ?_
                          refine W.lcmp hx hb dX8_passed_177 ?_
                          refine lv_if_le (tgt := 189) hx hb dX8_passed_178 (by decide) (fun hc_53 => ?_) (fun hc_53 => ?_)
                          · have hv := hv.1 ((lg_cmp_le _ _).mp hc_53)
                            refine lv_iinc (v := (x10_22 + 1)) (lv' := [(10, .int (x10_22 + 1)), (11, .long r_50), (8, .long x8_24), (7, .int x7_23), (6, .int x6_7), (5, .int x5_6), (0, .ref m0), (1, .int x), (2, .int y), (3, .int z), (4, .int u_)]) hx hb dX8_passed_189 hl (k := 1) rfl rfl (by decide) rfl (fun ls hl => ?_)
                            refine lv_goto (tgt := 143) hx hb dX8_passed_192 (by decide) ?_
                            exact ih_27 _ _ _ _ _ _ _ _ (Nat.lt_of_lt_of_le hv.2 (Nat.le_of_lt_succ hI_28)) hv.1 hP hD hS (lv_sub hl [0, 2, 3, 4, 5, 6, 7, 8, 9, 10] rfl)
                          · have hv := hv.2 (fun h => hc_53 ((lg_cmp_le _ _).mpr h))
                            refine lv_iload hx hb dX8_passed_181 (lv_at hl 1 rfl) ?_
                            refine lv_istore (lv' := [(7, .int x10_22), (11, .long r_50), (10, .int x10_22), (8, .long x8_24), (6, .int x6_7), (5, .int x5_6), (0, .ref m0), (1, .int x), (2, .int y), (3, .int z), (4, .int u_)]) hx hb dX8_passed_183 hl (by decide) rfl (fun ls hl => ?_)
                            refine lv_lload hx hb dX8_passed_185 (lv_at hl 1 rfl) ?_
                            refine lv_lstore (lv' := [(8, .long r_50), (7, .int x10_22), (11, .long r_50), (10, .int x10_22), (6, .int x6_7), (5, .int x5_6), (0, .ref m0), (1, .int x), (2, .int y), (3, .int z), (4, .int u_)]) hx hb dX8_passed_187 hl (by decide) rfl (fun ls hl => ?_)
                            refine lv_iinc (v := (x10_22 + 1)) (lv' := [(10, .int (x10_22 + 1)), (8, .long r_50), (7, .int x10_22), (11, .long r_50), (6, .int x6_7), (5, .int x5_6), (0, .ref m0), (1, .int x), (2, .int y), (3, .int z), (4, .int u_)]) hx hb dX8_passed_189 hl (k := 3) rfl rfl (by decide) rfl (fun ls hl => ?_)
                            refine lv_goto (tgt := 143) hx hb dX8_passed_192 (by decide) ?_
                            exact ih_27 _ _ _ _ _ _ _ _ (Nat.lt_of_lt_of_le hv.2 (Nat.le_of_lt_succ hI_28)) hv.1 hP hD hS (lv_sub hl [0, 1, 2, 4, 5, 6, 7, 8, 9, 10] rfl)
                  exact Lm_56 _ _ _ _ _ _ _ _ _ (Nat.lt_succ_self _) hi0 hP hD hS hl
                · have hv := hv.2 (tv_eq.mp hc_19)
                  refine lv_ldc (v := (-1000000002)) hx hb hown kl73 dX8_passed_131 ?_
                  exact x_iret (v := (-1000000002)) (mw, fm11_5, od) hQ hx hb hr hlocks hS dX8_passed_133 hv hP hD
          · have hv := hv.2 hc_13
            refine lv_iload_n hx hb dX8_passed_51 rfl (lv_at hl 5 rfl) ?_
            refine lv_iload hx hb dX8_passed_52 (lv_at hl 0 rfl) ?_
            refine lv_ishr hx hb dX8_passed_54 ?_
            refine lv_iconst (v := 1) hx hb dX8_passed_55 (by decide) ?_
            refine lv_iand hx hb dX8_passed_56 ?_
            refine lv_iconst (v := 1) hx hb dX8_passed_57 (by decide) ?_
            refine lv_icmp_ne (tgt := 87) hx hb dX8_passed_58 (by decide) (fun hc_57 => ?_) (fun hc_57 => ?_)
            · have hv := hv.1 hc_57
              refine lv_iinc (v := (x7_8 + 1)) (lv' := [(7, .int (x7_8 + 1)), (6, .int x6_7), (5, .int x5_6), (0, .ref m0), (1, .int x), (2, .int y), (3, .int z), (4, .int u_)]) hx hb dX8_passed_87 hl (k := 0) rfl rfl (by decide) rfl (fun ls hl => ?_)
              refine lv_goto (tgt := 40) hx hb dX8_passed_90 (by decide) ?_
              exact ih_11 _ _ _ _ _ _ _ (Nat.lt_of_lt_of_le hv.2 (Nat.le_of_lt_succ hI_12)) hv.1 hP hD hS hl
            · have hv := hv.2 hc_57
              refine lv_iload hx hb dX8_passed_61 (lv_at hl 2 rfl) ?_
              refine lv_bipush (v := 6) hx hb dX8_passed_63 (by decide) ?_
              refine lv_icmp_ge (tgt := 77) hx hb dX8_passed_65 (by decide) (fun hc_58 => ?_) (fun hc_58 => ?_)
              · have hv := hv.1 hc_58
                refine lv_iinc (v := (x5_6 + 1)) (lv' := [(5, .int (x5_6 + 1)), (7, .int x7_8), (6, .int x6_7), (0, .ref m0), (1, .int x), (2, .int y), (3, .int z), (4, .int u_)]) hx hb dX8_passed_77 hl (k := 2) rfl rfl (by decide) rfl (fun ls hl => ?_)
                refine lv_iload hx hb dX8_passed_80 (lv_at hl 2 rfl) ?_
                refine lv_iload hx hb dX8_passed_82 (lv_at hl 0 rfl) ?_
                refine lv_imul hx hb dX8_passed_84 ?_
                refine lv_topi (fun y_59 ey => ?_)
                have hv := hv y_59 ey
                refine lv_istore (lv' := [(6, .int y_59), (5, .int (x5_6 + 1)), (7, .int x7_8), (0, .ref m0), (1, .int x), (2, .int y), (3, .int z), (4, .int u_)]) hx hb dX8_passed_85 hl (by decide) rfl (fun ls hl => ?_)
                refine lv_iinc (v := (x7_8 + 1)) (lv' := [(7, .int (x7_8 + 1)), (6, .int y_59), (5, .int (x5_6 + 1)), (0, .ref m0), (1, .int x), (2, .int y), (3, .int z), (4, .int u_)]) hx hb dX8_passed_87 hl (k := 2) rfl rfl (by decide) rfl (fun ls hl => ?_)
                refine lv_goto (tgt := 40) hx hb dX8_passed_90 (by decide) ?_
                exact ih_11 _ _ _ _ _ _ _ (Nat.lt_of_lt_of_le hv.2 (Nat.le_of_lt_succ hI_12)) hv.1 hP hD hS hl
              · have hv := hv.2 hc_58
                refine lv_aload_n hx hb dX8_passed_68 rfl (lv_at hl 3 rfl) ?_
                refine va_get (D := G.1) (ci := 8) (v := .ref m11) (C := RX8) (T := TX8) (N := 29) hx hb hts hinX8 hown hKK.1 hP 0 rfl rfl 24 (by decide) kl52 (fun _ h9 => h9) rfl dX8_passed_69 ?_
                refine lv_iload hx hb dX8_passed_72 (lv_at hl 2 rfl) ?_
                refine lv_iload hx hb dX8_passed_74 (lv_at hl 0 rfl) ?_
                obtain ⟨hin, hv⟩ := hv
                refine va_iast hx hb hKK.1 hP hD hS 11 0 rfl rfl hin dX8_passed_76 (fun H locs hP hD hS => ?_)
                obtain ⟨fm11_60, ef⟩ : ∃ z9_, z9_ = (upd fm11_5 x5_6.toNatClampNeg x7_8) := ⟨_, rfl⟩
                have hP : va_P G.1 vwCl [(m0, .inr (8, [.ref m1, .ref m2, .ref m3, .ref m4, .ref m5, .ref m6, .ref m7, .ref m8, .ref m9, .int fu, .int fd, .int fi, .int nu, .int nw, .int nf, .int bf, .int bn, .ref m10, .int ts, .int ap, .int fs, .int ln, .int fo, .int fa, .ref m11, .ref m12, .ref m13, .ref m14, .int wr])), aJ G m1 560 mw, aZ G m2 2 ik, aI G m3 20 zs, aI G m4 20 cl, aI G m5 20 hs, aI G m6 20 ks, aI G m7 20 wa, aI G m8 20 ne, aI G m9 4 mn, aI G m10 400 tx, aI G m11 6 fm11_60, aI G m12 6 od, aI G m13 30 bk, aI G m14 30 bh] H := by rw [ef]; exact hP
                have hD : va_D A [(m0, .inr (8, [.ref m1, .ref m2, .ref m3, .ref m4, .ref m5, .ref m6, .ref m7, .ref m8, .ref m9, .int fu, .int fd, .int fi, .int nu, .int nw, .int nf, .int bf, .int bn, .ref m10, .int ts, .int ap, .int fs, .int ln, .int fo, .int fa, .ref m11, .ref m12, .ref m13, .ref m14, .int wr])), aJ G m1 560 mw, aZ G m2 2 ik, aI G m3 20 zs, aI G m4 20 cl, aI G m5 20 hs, aI G m6 20 ks, aI G m7 20 wa, aI G m8 20 ne, aI G m9 4 mn, aI G m10 400 tx, aI G m11 6 fm11_60, aI G m12 6 od, aI G m13 30 bk, aI G m14 30 bh] := by rw [ef]; exact hD
                have hv := hv fm11_60 ef
                refine lv_iinc (v := (x5_6 + 1)) (lv' := [(5, .int (x5_6 + 1)), (7, .int x7_8), (6, .int x6_7), (0, .ref m0), (1, .int x), (2, .int y), (3, .int z), (4, .int u_)]) hx hb dX8_passed_77 hl (k := 2) rfl rfl (by decide) rfl (fun ls hl => ?_)
                refine lv_iload hx hb dX8_passed_80 (lv_at hl 2 rfl) ?_
                refine lv_iload hx hb dX8_passed_82 (lv_at hl 0 rfl) ?_
                refine lv_imul hx hb dX8_passed_84 ?_
                refine lv_topi (fun y_61 ey => ?_)
                have hv := hv y_61 ey
                refine lv_istore (lv' := [(6, .int y_61), (5, .int (x5_6 + 1)), (7, .int x7_8), (0, .ref m0), (1, .int x), (2, .int y), (3, .int z), (4, .int u_)]) hx hb dX8_passed_85 hl (by decide) rfl (fun ls hl => ?_)
                refine lv_iinc (v := (x7_8 + 1)) (lv' := [(7, .int (x7_8 + 1)), (6, .int y_61), (5, .int (x5_6 + 1)), (0, .ref m0), (1, .int x), (2, .int y), (3, .int z), (4, .int u_)]) hx hb dX8_passed_87 hl (k := 2) rfl rfl (by decide) rfl (fun ls hl => ?_)
                refine lv_goto (tgt := 40) hx hb dX8_passed_90 (by decide) ?_
                exact ih_11 _ _ _ _ _ _ _ (Nat.lt_of_lt_of_le hv.2 (Nat.le_of_lt_succ hI_12)) hv.1 hP hD hS hl
      exact Lm_64 _ _ _ _ _ _ _ _ (Nat.lt_succ_self _) hi0 hP hD hS hl
    · have hv := hv.2 (tv_eq.mp hc_4)
      refine lv_ldc (v := (-1000000001)) hx hb hown kl164 dX8_passed_28 ?_
      exact x_iret (v := (-1000000001)) (mw, th, od) hQ hx hb hr hlocks hS dX8_passed_30 hv hP hD
theorem v_X8_passed (l : Launch) (G : Gt) (m0 m1 m2 m3 m4 m5 m6 m7 m8 m9 m10 m11 m12 m13 m14 : Nat) (sz : Nat) (mw : Nat → Int64) (ik : Nat → Int32) (zs : Nat → Int32) (cl : Nat → Int32) (hs : Nat → Int32) (ks : Nat → Int32) (wa : Nat → Int32) (ne : Nat → Int32) (mn : Nat → Int32) (tx : Nat → Int32) (th : Nat → Int32) (od : Nat → Int32) (bk : Nat → Int32) (bh : Nat → Int32) (fu : Int32) (fd : Int32) (fi : Int32) (nu : Int32) (nw : Int32) (nf : Int32) (bf : Int32) (bn : Int32) (ts : Int32) (ap : Int32) (fs : Int32) (ln : Int32) (fo : Int32) (fa : Int32) (wr : Int32) (x : Int32) (y : Int32) (z : Int32) (u_ : Int32) (T : Nat → Nat → Int) (Ns : Nat) (Np : Nat) (v : Nat → Int) (M : Int) (hp : TOK T Ns Np ∧ MT T Ns Np fu fd fi zs cl ks ne mn ∧ MR 0 mw v ∧ NOK T Ns Np (fun _ => 2 * M) M v ∧ M ≤ 900000) : (¬ (inR x (mn 0)) → ((-1000000001) : Int32).toInt = aPassed T Ns Np v x.toInt y.toInt z.toInt u_.toInt ∧ MF 140 mw mw) ∧ (inR x (mn 0) → (¬ y.toInt64 < 0 ∧ ¬ ((((1 : Int32) <<< ((mn 1) &&& 31)) - 1).toInt64) < y.toInt64 → ∃ (I40_9 : (Nat → Int32) → Int32 → Int32 → Int32 → Prop) (μ40_10 : (Nat → Int32) → Int32 → Int32 → Int32 → Nat), I40_9 th 0 1 0 ∧ (∀ (fm11_5 : (Nat → Int32)) (x5_6 : Int32) (x6_7 : Int32) (x7_8 : Int32), I40_9 fm11_5 x5_6 x6_7 x7_8 → ((mn 1) ≤ x7_8 → (¬ (¬ z.toInt64 < 1 ∧ ¬ 60 < z.toInt64) → ((-1000000002) : Int32).toInt = aPassed T Ns Np v x.toInt y.toInt z.toInt u_.toInt ∧ MF 140 mw mw) ∧ (¬ z.toInt64 < 1 ∧ ¬ 60 < z.toInt64 → (¬ (¬ x5_6.toInt64 < 1 ∧ ¬ 6 < x5_6.toInt64) → ((-1000000002) : Int32).toInt = aPassed T Ns Np v x.toInt y.toInt z.toInt u_.toInt ∧ MF 140 mw mw) ∧ (¬ x5_6.toInt64 < 1 ∧ ¬ 6 < x5_6.toInt64 → (¬ u_.toInt64 < 0 ∧ ¬ x5_6.toInt64 < u_.toInt64 → ∃ (I143_25 : (Nat → Int64) → (Nat → Int32) → Int32 → Int32 → Int64 → Prop) (μ143_26 : (Nat → Int64) → (Nat → Int32) → Int32 → Int32 → Int64 → Nat), I143_25 mw od 0 (-1) 0 ∧ (∀ (fm1_20 : (Nat → Int64)) (fm12_21 : (Nat → Int32)) (x10_22 : Int32) (x7_23 : Int32) (x8_24 : Int64), I143_25 fm1_20 fm12_21 x10_22 x7_23 x8_24 → (x6_7 ≤ x10_22 → ∃ (gcq_30 : Nat) (gnq_31 : Nat) (gAv_32 : Nat → Bool), ((x7_23 = nI gcq_30 ∧ x5_6 = nI gnq_31 ∧ 1 ≤ gnq_31 ∧ gnq_31 ≤ 6 ∧ gcq_30 < fac gnq_31 ∧ cntA gAv_32 8 = gnq_31 ∧ (∀ i, i < gnq_31 → fm11_5 i = nI (nthA gAv_32 i 8))) ∧ (∀ (od2_34 : Nat → Int32), ((∀ k, k < gnq_31 → od2_34 k = nI ((ordL gnq_31 gAv_32 gcq_30).getD k 0))) → ((¬ u_ = 0 → (vp_in (u_ - 1) 6) ∧ ((od2_34 (u_ - 1).toNatClampNeg).toInt = aPassed T Ns Np v x.toInt y.toInt z.toInt u_.toInt ∧ MF 140 mw fm1_20)) ∧ (u_ = 0 → x8_24.toInt32.toInt = aPassed T Ns Np v x.toInt y.toInt z.toInt u_.toInt ∧ MF 140 mw fm1_20))))) ∧ (¬ (x6_7 ≤ x10_22) → ∃ (gcq_36 : Nat) (gnq_37 : Nat) (gAv_38 : Nat → Bool), ((x10_22 = nI gcq_36 ∧ x5_6 = nI gnq_37 ∧ 1 ≤ gnq_37 ∧ gnq_37 ≤ 6 ∧ gcq_36 < fac gnq_37 ∧ cntA gAv_38 8 = gnq_37 ∧ (∀ i, i < gnq_37 → fm11_5 i = nI (nthA gAv_38 i 8))) ∧ (∀ (od2_40 : Nat → Int32), ((∀ k, k < gnq_37 → od2_40 k = nI ((ordL gnq_37 gAv_38 gcq_36).getD k 0))) → (∃ (gT_41 : Nat → Nat → Int) (gNs_42 : Nat) (gNp_43 : Nat) (gv_44 : Nat → Int) (gM_45 : Int) (gib_46 : Nat) (gmq_47 : Nat) (gnq_48 : Nat) (gol_49 : List Nat), ((TOK gT_41 gNs_42 gNp_43 ∧ MT gT_41 gNs_42 gNp_43 fu fd fi zs cl ks ne mn ∧ MR 0 fm1_20 gv_44 ∧ NOK gT_41 gNs_42 gNp_43 (fun _ => 2 * gM_45) gM_45 gv_44 ∧ gM_45 ≤ 900000 ∧ x = nI gib_46 ∧ gib_46 < gNs_42 ∧ z = nI gmq_47 ∧ gmq_47 ≤ 60 ∧ x5_6 = nI gnq_48 ∧ gnq_48 ≤ 6 ∧ gol_49.length = gnq_48 ∧ (∀ k, k < gnq_48 → od2_40 k = nI (gol_49.getD k 0) ∧ gol_49.getD k 0 < gNp_43) ∧ (∀ i k, i < k → k < gnq_48 → gol_49.getD i 0 ≠ gol_49.getD k 0)) ∧ (∀ (r_50 : Int64) (mw2_51 : Nat → Int64), (r_50.toInt = heatL gT_41 gv_44 gib_46 gmq_47 0 (gv_44 gib_46) gol_49 ∧ MF 140 fm1_20 mw2_51) → ((x7_23 < 0 → I143_25 mw2_51 od2_40 (x10_22 + 1) x10_22 r_50 ∧ μ143_26 mw2_51 od2_40 (x10_22 + 1) x10_22 r_50 < μ143_26 fm1_20 fm12_21 x10_22 x7_23 x8_24) ∧ (¬ (x7_23 < 0) → (r_50 ≤ x8_24 → I143_25 mw2_51 od2_40 (x10_22 + 1) x7_23 x8_24 ∧ μ143_26 mw2_51 od2_40 (x10_22 + 1) x7_23 x8_24 < μ143_26 fm1_20 fm12_21 x10_22 x7_23 x8_24) ∧ (¬ (r_50 ≤ x8_24) → I143_25 mw2_51 od2_40 (x10_22 + 1) x10_22 r_50 ∧ μ143_26 mw2_51 od2_40 (x10_22 + 1) x10_22 r_50 < μ143_26 fm1_20 fm12_21 x10_22 x7_23 x8_24))))))))))) ∧ (¬ (¬ u_.toInt64 < 0 ∧ ¬ x5_6.toInt64 < u_.toInt64) → ((-1000000002) : Int32).toInt = aPassed T Ns Np v x.toInt y.toInt z.toInt u_.toInt ∧ MF 140 mw mw)))) ∧ (¬ ((mn 1) ≤ x7_8) → (¬ ((y >>> (x7_8 &&& 31)) &&& 1) = 1 → I40_9 fm11_5 x5_6 x6_7 (x7_8 + 1) ∧ μ40_10 fm11_5 x5_6 x6_7 (x7_8 + 1) < μ40_10 fm11_5 x5_6 x6_7 x7_8) ∧ (((y >>> (x7_8 &&& 31)) &&& 1) = 1 → (6 ≤ x5_6 → ∀ (y_59 : Int32), (y_59 = (x6_7 * (x5_6 + 1))) → (I40_9 fm11_5 (x5_6 + 1) y_59 (x7_8 + 1) ∧ μ40_10 fm11_5 (x5_6 + 1) y_59 (x7_8 + 1) < μ40_10 fm11_5 x5_6 x6_7 x7_8)) ∧ (¬ (6 ≤ x5_6) → (vp_in x5_6 6) ∧ (∀ (fm11_60 : (Nat → Int32)), (fm11_60 = (upd fm11_5 x5_6.toNatClampNeg x7_8)) → (∀ (y_61 : Int32), (y_61 = (x6_7 * (x5_6 + 1))) → (I40_9 fm11_60 (x5_6 + 1) y_61 (x7_8 + 1) ∧ μ40_10 fm11_60 (x5_6 + 1) y_61 (x7_8 + 1) < μ40_10 fm11_5 x5_6 x6_7 x7_8)))))))) ∧ (¬ (¬ y.toInt64 < 0 ∧ ¬ ((((1 : Int32) <<< ((mn 1) &&& 31)) - 1).toInt64) < y.toInt64) → ((-1000000001) : Int32).toInt = aPassed T Ns Np v x.toInt y.toInt z.toInt u_.toInt ∧ MF 140 mw mw)) := by
  obtain ⟨hT, hC, hR, hO, hM⟩ := hp
  have t1 := hT.1
  have t2 := hT.2.1
  have hnp := hC.2.1
  have hs_ := inR_iff (x := x) hC.1 (by omega)
  have hp8 := pow8 t2
  have hp1 : 0 < 2 ^ Np := Nat.pow_pos (by omega)
  have hy_ : (¬ y.toInt64 < 0 ∧ ¬ ((((1 : Int32) <<< ((mn 1) &&& 31)) - 1).toInt64) < y.toInt64) ↔ (0 ≤ y.toInt ∧ y.toInt.toNat < 2 ^ Np) := by
    rw [hnp, shl_np Np (by omega), l_lt (i_l rfl) (show (0 : Int64).toInt = 0 from rfl), l_lt (i_l (i_sub (nI_toInt (by omega)) i32_1 (by omega) (by omega))) (i_l rfl)]
    omega
  have ez : z.toInt64.toInt = z.toInt := i_l rfl
  have hz_ : (¬ z.toInt64 < 1 ∧ ¬ 60 < z.toInt64) ↔ (1 ≤ z.toInt ∧ z.toInt ≤ 60) := by
    rw [l_lt ez (show (1 : Int64).toInt = 1 from rfl), l_lt (show (60 : Int64).toInt = 60 from rfl) ez]
    omega
  simp only [hs_, hy_, hz_]
  refine ⟨fun h => ⟨by rw [aPassed, if_pos (Or.inl h)]; rfl, MF.rf 140 mw⟩, fun hx => ⟨fun hset => ?_, fun h => ⟨by rw [aPassed, if_pos (Or.inr h)]; rfl, MF.rf 140 mw⟩⟩⟩
  obtain ⟨b, hb, rfl, hxi, hxt⟩ := in_nat hx (by omega)
  obtain ⟨s, hs, rfl, hsi, hst⟩ := in_nat (x := y) (n := 256) (by omega) (by omega)
  have hs2 := hset.2
  rw [hst] at hs2
  have hset' : ¬ (¬ (0 ≤ (nI b).toInt ∧ (nI b).toInt < Ns) ∨ ¬ (0 ≤ (nI s).toInt ∧ (nI s).toInt.toNat < 2 ^ Np)) := fun z => z.elim (fun q => q hx) (fun q => q hset)
  have eA : aPassed T Ns Np v (nI b).toInt (nI s).toInt z.toInt u_.toInt = if ¬ (1 ≤ z.toInt ∧ z.toInt ≤ 60) ∨ ¬ (1 ≤ cntA (mA s) 8 ∧ cntA (mA s) 8 ≤ 6) ∨ ¬ (0 ≤ u_.toInt ∧ u_.toInt ≤ cntA (mA s) 8) then -1000000002 else ansP (dP T v b z.toInt.toNat (cntA (mA s) 8) (mA s) 0 (v b) [] none) u_.toInt := by
    rw [aPassed, if_neg hset', hst, hxt]
  rw [eA]
  have hn8 := cntA_le (A := mA s) 8
  refine ⟨fun th n od z => ∃ p, p ≤ Np ∧ z = nI p ∧ n = nI (cntA (mA s) p) ∧ od = nI (fac (cntA (mA s) p)) ∧ ∀ i, i < cntA (mA s) p → i < 6 → th i = nI (nthA (mA s) i 8), fun _ _ _ z => 9 - z.toNatClampNeg, ⟨0, by omega, rfl, rfl, rfl, fun i hi => absurd hi (Nat.not_lt_zero _)⟩, ?_⟩
  rintro th1 n1 od1 z1 ⟨p, hp, rfl, rfl, rfl, hth⟩
  have ep : (nI p).toNatClampNeg = p := nI_clamp (by omega)
  have ep1 : nI p + 1 = nI (p + 1) := nI_1 p
  have ep2 : (nI (p + 1)).toNatClampNeg = p + 1 := nI_clamp (by omega)
  have hle : nI Np ≤ nI p ↔ Np ≤ p := nI_leI (by omega) (by omega)
  have hcp := cntA_le (A := mA s) p
  have ec : (nI (cntA (mA s) p)).toNatClampNeg = cntA (mA s) p := nI_clamp (by omega)
  have ec1 : nI (cntA (mA s) p) + 1 = nI (cntA (mA s) p + 1) := nI_1 _
  simp only [ep, ep1, ep2, hnp, hle, ec, ec1]
  refine ⟨fun q => ?_, fun q => ?_⟩
  · have e : p = Np := by omega
    subst e
    rw [cnt_np hs2 t2] at hth ⊢
    clear hcp ec ec1
    generalize hn : cntA (mA s) 8 = n at hn8 hth
    have eni : (nI n).toInt = (n : Int) := nI_toInt (by omega)
    have hn_ : (¬ (nI n).toInt64 < 1 ∧ ¬ 6 < (nI n).toInt64) ↔ (1 ≤ n ∧ n ≤ 6) := by
      rw [l_lt (i_l eni) (show (1 : Int64).toInt = 1 from rfl), l_lt (show (6 : Int64).toInt = 6 from rfl) (i_l eni)]; omega
    have hu_ : (¬ u_.toInt64 < 0 ∧ ¬ (nI n).toInt64 < u_.toInt64) ↔ (0 ≤ u_.toInt ∧ u_.toInt ≤ n) := by
      rw [l_lt (i_l rfl) (show (0 : Int64).toInt = 0 from rfl), l_lt (i_l eni) (i_l rfl)]; omega
    simp only [hn_, hu_]
    refine ⟨fun h => ⟨by rw [if_pos (Or.inl h)]; rfl, MF.rf 140 mw⟩, fun hm => ⟨fun h => ⟨by rw [if_pos (Or.inr (Or.inl h))]; rfl, MF.rf 140 mw⟩, fun hn6 => ⟨fun hw => ?_, fun h => ⟨by rw [if_pos (Or.inr (Or.inr h))]; rfl, MF.rf 140 mw⟩⟩⟩⟩
    rw [if_neg (fun z => z.elim (fun q => q hm) (fun z => z.elim (fun q => q hn6) (fun q => q hw)))]
    obtain ⟨m, hm6, rfl, hmi, hmt⟩ := in_nat (x := z) (n := 61) (by omega) (by omega)
    rw [hmt]
    have hf := fac_le n hn8
    have bh := hO.1 b hb
    have bz := hT.2.2.1 b hb
    refine ⟨fun w _ c b9 w9 => ∃ c0, c0 ≤ fac n ∧ c = nI c0 ∧ MF 140 mw w ∧ MPs n (mA s) (pF (pH T v b m n (mA s) 0 (v b) []) none 0 c0) b9 w9, fun _ _ c _ _ => 50000 - c.toNatClampNeg, ⟨0, by omega, rfl, MF.rf 140 mw, rfl⟩, ?_⟩
    rintro w od9 c b9 w9 ⟨c0, hc0, rfl, hF, hS⟩
    have ed : (nI c0).toNatClampNeg = c0 := nI_clamp (by omega)
    have ed1 : nI c0 + 1 = nI (c0 + 1) := nI_1 c0
    have ed2 : (nI (c0 + 1)).toNatClampNeg = c0 + 1 := nI_clamp (by omega)
    have hlc : nI (fac n) ≤ nI c0 ↔ fac n ≤ c0 := nI_leI (by omega) (by omega)
    simp only [ed, ed1, ed2, hlc]
    refine ⟨fun qc => ?_, fun qc => ⟨c0, n, mA s, ⟨rfl, rfl, hn6.1, hn6.2, by omega, hn, fun i hi => hth i hi (by omega)⟩, fun od2 hod2 => ?_⟩⟩
    · have e : c0 = fac n := by omega
      subst e
      have hsome : pF (pH T v b m n (mA s) 0 (v b) []) none 0 (fac n) ≠ none := pF_some (fac_pos n)
      cases hd : pF (pH T v b m n (mA s) 0 (v b) []) none 0 (fac n) with
      | none => exact absurd hd hsome
      | some t =>
        obtain ⟨a, r⟩ := t
        rw [hd] at hS
        obtain ⟨⟨k, k1, k2, k3⟩, p1, p2, p3⟩ := hS
        have eD : dP T v b m n (mA s) 0 (v b) [] none = some (a, r) := hd
        rw [eD]
        have y0_ : u_ = 0 ↔ u_.toInt = 0 := i_eq rfl rfl
        refine ⟨k, n, mA s, ⟨k1, rfl, hn6.1, hn6.2, k2, hn, fun i hi => hth i hi (by omega)⟩, fun od2 hod2 => ⟨fun q0 => ?_, fun q0 => ⟨?_, hF⟩⟩⟩
        · have n0 : ¬ u_.toInt = 0 := fun z => q0 (y0_.mpr z)
          have e2 : (u_ - 1).toInt = u_.toInt - 1 := i_sub rfl i32_1 (by omega) (by omega)
          refine ⟨vp_of e2 (by omega) (by omega), ?_, hF⟩
          unfold ansP
          dsimp only
          rw [if_neg n0, cl_of (x := u_ - 1) (n := (u_.toInt - 1).toNat) (by omega), hod2 _ (by omega), k3]
        · unfold ansP
          dsimp only
          rw [if_pos (y0_.mp q0), ← p1]
          exact l_iZ rfl (by omega) (by omega)
    · obtain ⟨o1, o2, o3⟩ := ordL_in (A := mA s) (c := c0) hn (show c0 < fac n by omega)
      have onp : ∀ k, k < n → (ordL n (mA s) c0).getD k 0 < p := fun k hk => tb_np hs2 (o2 k hk).1
      have hR0 : MR 0 w v := fun j hj => by rw [hF _ (by omega)]; exact hR j hj
      refine ⟨T, Ns, p, v, M, b, m, n, ordL n (mA s) c0, ⟨hT, hC, hR0, hO, hM, rfl, hb, rfl, by omega, rfl, hn6.2, o1, fun k hk => ⟨hod2 k hk, onp k hk⟩, o3⟩, fun r w2 hr => ?_⟩
      have hbd := heatL_bd (m := m) hT hO hb (ordL n (mA s) c0) 0 (v b) (fun k hk => onp k (by omega)) bh.1 bh.2
      rw [← hr.1] at hbd
      obtain ⟨sy, sn⟩ := mPs_step (c := c0) hS hn8 (by omega) hbd.1 (by omega)
      have eF : pF (pH T v b m n (mA s) 0 (v b) []) none 0 (c0 + 1) = selP (pF (pH T v b m n (mA s) 0 (v b) []) none 0 c0) r.toInt (ordL n (mA s) c0) := by
        rw [pF, Nat.zero_add, hr.1]; rfl
      have hF2 := hF.tr hr.2
      exact ⟨fun u => ⟨⟨c0 + 1, by omega, rfl, hF2, by rw [eF]; exact sy (Or.inl u)⟩, by omega⟩, fun u => ⟨fun u1 => ⟨⟨c0 + 1, by omega, rfl, hF2, by rw [eF]; exact sn (fun z => z.elim u (fun z => Int64.not_lt.mpr u1 z))⟩, by omega⟩, fun u1 => ⟨⟨c0 + 1, by omega, rfl, hF2, by rw [eF]; exact sy (Or.inr (Int64.not_le.mp u1))⟩, by omega⟩⟩⟩
  have hp8' : p < 8 := by omega
  rw [and1, mk_tst s hs p hp8']
  refine ⟨fun hb1 => ?_, fun hb1 => ?_⟩
  · have hbf : mA s p = false := Classical.not_not.mp hb1
    have ecn := cntA_n hbf
    refine ⟨⟨p + 1, by omega, rfl, by rw [ecn], by rw [ecn], ?_⟩, by omega⟩
    rw [ecn]; exact hth
  have hbt : mA s p = true := by
    cases u : mA s p with
    | true => rfl
    | false => exact absurd u hb1
  have ecy := cntA_y hbt
  have h6 : 6 ≤ nI (cntA (mA s) p) ↔ 6 ≤ cntA (mA s) p := nI_leI (a := 6) (by omega) (by omega)
  have ef : nI (fac (cntA (mA s) p)) * nI (cntA (mA s) p + 1) = nI (fac (cntA (mA s) p + 1)) := by
    rw [pk_mul, fac, Nat.mul_comm]
  rw [h6]
  refine ⟨fun g6 y9 ey9 => ⟨⟨p + 1, by omega, rfl, by rw [ecy], by rw [ey9, ef, ecy], ?_⟩, by omega⟩, fun g6 => ⟨vp_in_nI (by omega) (by omega), fun th2 eth2 y9 ey9 => ⟨⟨p + 1, by omega, rfl, by rw [ecy], by rw [ey9, ef, ecy], ?_⟩, by omega⟩⟩⟩
  · rw [ecy]
    exact fun i hi h => hth i (by omega) h
  · rw [ecy, eth2]
    intro i hi h
    by_cases e : i = cntA (mA s) p
    · subst e; rw [upd_at, nthA_eq hbt rfl hp8']
    · rw [upd_ne e]; exact hth i (by omega) h
theorem k_X8_passed (l : Launch) (G : Gt) (m0 m1 m2 m3 m4 m5 m6 m7 m8 m9 m10 m11 m12 m13 m14 : Nat) (sz : Nat) (mw : Nat → Int64) (ik : Nat → Int32) (zs : Nat → Int32) (cl : Nat → Int32) (hs : Nat → Int32) (ks : Nat → Int32) (wa : Nat → Int32) (ne : Nat → Int32) (mn : Nat → Int32) (tx : Nat → Int32) (th : Nat → Int32) (od : Nat → Int32) (bk : Nat → Int32) (bh : Nat → Int32) (fu : Int32) (fd : Int32) (fi : Int32) (nu : Int32) (nw : Int32) (nf : Int32) (bf : Int32) (bn : Int32) (ts : Int32) (ap : Int32) (fs : Int32) (ln : Int32) (fo : Int32) (fa : Int32) (wr : Int32) (x : Int32) (y : Int32) (z : Int32) (u_ : Int32) (T : Nat → Nat → Int) (Ns : Nat) (Np : Nat) (v : Nat → Int) (M : Int) (hp : TOK T Ns Np ∧ MT T Ns Np fu fd fi zs cl ks ne mn ∧ MR 0 mw v ∧ NOK T Ns Np (fun _ => 2 * M) M v ∧ M ≤ 900000) : MetI l yX8_passed wsX8_passed 5 127 G [.ref m0, .int x, .int y, .int z, .int u_] [(m0, .inr (8, [.ref m1, .ref m2, .ref m3, .ref m4, .ref m5, .ref m6, .ref m7, .ref m8, .ref m9, .int fu, .int fd, .int fi, .int nu, .int nw, .int nf, .int bf, .int bn, .ref m10, .int ts, .int ap, .int fs, .int ln, .int fo, .int fa, .ref m11, .ref m12, .ref m13, .ref m14, .int wr])), aJ G m1 560 mw, aZ G m2 2 ik, aI G m3 20 zs, aI G m4 20 cl, aI G m5 20 hs, aI G m6 20 ks, aI G m7 20 wa, aI G m8 20 ne, aI G m9 4 mn, aI G m10 400 tx, aI G m11 6 th, aI G m12 6 od, aI G m13 30 bk, aI G m14 30 bh] sz (fun (r : Int32) (u : (Nat → Int64) × (Nat → Int32) × (Nat → Int32)) => r.toInt = aPassed T Ns Np v x.toInt y.toInt z.toInt u_.toInt ∧ MF 140 mw u.1) (fun (u : (Nat → Int64) × (Nat → Int32) × (Nat → Int32)) => [(m0, .inr (8, [.ref m1, .ref m2, .ref m3, .ref m4, .ref m5, .ref m6, .ref m7, .ref m8, .ref m9, .int fu, .int fd, .int fi, .int nu, .int nw, .int nf, .int bf, .int bn, .ref m10, .int ts, .int ap, .int fs, .int ln, .int fo, .int fa, .ref m11, .ref m12, .ref m13, .ref m14, .int wr])), aJ G m1 560 u.1, aZ G m2 2 ik, aI G m3 20 zs, aI G m4 20 cl, aI G m5 20 hs, aI G m6 20 ks, aI G m7 20 wa, aI G m8 20 ne, aI G m9 4 mn, aI G m10 400 tx, aI G m11 6 u.2.1, aI G m12 6 u.2.2, aI G m13 30 bk, aI G m14 30 bh]) :=
  c_X8_passed l G m0 m1 m2 m3 m4 m5 m6 m7 m8 m9 m10 m11 m12 m13 m14 sz mw ik zs cl hs ks wa ne mn tx th od bk bh fu fd fi nu nw nf bf bn ts ap fs ln fo fa wr x y z u_ T Ns Np v M (v_X8_passed l G m0 m1 m2 m3 m4 m5 m6 m7 m8 m9 m10 m11 m12 m13 m14 sz mw ik zs cl hs ks wa ne mn tx th od bk bh fu fd fi nu nw nf bf bn ts ap fs ln fo fa wr x y z u_ T Ns Np v M hp)

set_option maxHeartbeats 4000000 in
set_option maxRecDepth 100000 in
theorem c_X8_palms (l : Launch) (G : Gt) (m0 m1 m2 m3 m4 m5 m6 m7 m8 m9 m10 m11 m12 m13 m14 : Nat) (sz : Nat) (mw : Nat → Int64) (ik : Nat → Int32) (zs : Nat → Int32) (cl : Nat → Int32) (hs : Nat → Int32) (ks : Nat → Int32) (wa : Nat → Int32) (ne : Nat → Int32) (mn : Nat → Int32) (tx : Nat → Int32) (th : Nat → Int32) (od : Nat → Int32) (bk : Nat → Int32) (bh : Nat → Int32) (fu : Int32) (fd : Int32) (fi : Int32) (nu : Int32) (nw : Int32) (nf : Int32) (bf : Int32) (bn : Int32) (ts : Int32) (ap : Int32) (fs : Int32) (ln : Int32) (fo : Int32) (fa : Int32) (wr : Int32) (x : Int32) (y : Int32) (z : Int32) (u_ : Int32) (i_ : Int32) (T : Nat → Nat → Int) (Ns : Nat) (Np : Nat) (v : Nat → Int) (M : Int) (hv : (inR x (mn 0) → (¬ (¬ y.toInt64 < 1 ∧ ¬ 60 < y.toInt64) → ((-1000000002) : Int32).toInt = aPalms T Ns Np v x.toInt y.toInt z.toInt u_.toInt i_.toInt ∧ MF 140 mw mw) ∧ (¬ y.toInt64 < 1 ∧ ¬ 60 < y.toInt64 → (¬ (¬ z.toInt64 < 0 ∧ ¬ 9999 < z.toInt64) → ((-1000000002) : Int32).toInt = aPalms T Ns Np v x.toInt y.toInt z.toInt u_.toInt i_.toInt ∧ MF 140 mw mw) ∧ (¬ z.toInt64 < 0 ∧ ¬ 9999 < z.toInt64 → (¬ u_.toInt64 < 0 ∧ ¬ 9999 < u_.toInt64 → ∃ (I57_12 : (Nat → Int64) → Int32 → Int32 → Prop) (μ57_13 : (Nat → Int64) → Int32 → Int32 → Nat), I57_12 mw 0 0 ∧ (∀ (fm1_9 : (Nat → Int64)) (x6_10 : Int32) (x7_11 : Int32), I57_12 fm1_9 x6_10 x7_11 → ((mn 1) ≤ x7_11 → (¬ i_ = (-1) → ((-1) : Int32).toInt = aPalms T Ns Np v x.toInt y.toInt z.toInt u_.toInt i_.toInt ∧ MF 140 mw fm1_9) ∧ (i_ = (-1) → x6_10.toInt = aPalms T Ns Np v x.toInt y.toInt z.toInt u_.toInt i_.toInt ∧ MF 140 mw fm1_9)) ∧ (¬ ((mn 1) ≤ x7_11) → ∃ (I71_21 : (Nat → Int64) → Int32 → Int32 → Prop) (μ71_22 : (Nat → Int64) → Int32 → Int32 → Nat), I71_21 fm1_9 x6_10 1 ∧ (∀ (fm1_18 : (Nat → Int64)) (x6_19 : Int32) (x8_20 : Int32), I71_21 fm1_18 x6_19 x8_20 → (y < x8_20 → I57_12 fm1_18 x6_19 (x7_11 + 1) ∧ μ57_13 fm1_18 x6_19 (x7_11 + 1) < μ57_13 fm1_9 x6_10 x7_11) ∧ (¬ (y < x8_20) → ∃ (gv_26 : Nat → Int), ((MR 0 fm1_18 gv_26) ∧ (∀ (mw2_28 : Nat → Int64), (MR 140 mw2_28 (zUp gv_26) ∧ MF 140 fm1_18 mw2_28) → ((vp_in (160 + x7_11) 560) ∧ (∀ (fm1_29 : (Nat → Int64)), (fm1_29 = (vp_updL mw2_28 ((160 + x7_11).toNatClampNeg) x.toInt64)) → (∃ (I97_32 : (Nat → Int64) → Int32 → Prop) (μ97_33 : (Nat → Int64) → Int32 → Nat), I97_32 fm1_29 0 ∧ (∀ (fm1_30 : (Nat → Int64)) (x9_31 : Int32), I97_32 fm1_30 x9_31 → (y ≤ x9_31 → (vp_in (140 + x) 560) ∧ ((¬ (¬ (fm1_30 (140 + x).toNatClampNeg) < ((z - u_).toInt64) ∧ ¬ ((z + u_).toInt64) < (fm1_30 (140 + x).toNatClampNeg)) → I71_21 fm1_30 x6_19 (x8_20 + 1) ∧ μ71_22 fm1_30 x6_19 (x8_20 + 1) < μ71_22 fm1_18 x6_19 x8_20) ∧ (¬ (fm1_30 (140 + x).toNatClampNeg) < ((z - u_).toInt64) ∧ ¬ ((z + u_).toInt64) < (fm1_30 (140 + x).toNatClampNeg) → (¬ x6_19 = i_ → I71_21 fm1_30 (x6_19 + 1) (x8_20 + 1) ∧ μ71_22 fm1_30 (x6_19 + 1) (x8_20 + 1) < μ71_22 fm1_18 x6_19 x8_20) ∧ (x6_19 = i_ → ((100 * x7_11) + x8_20).toInt = aPalms T Ns Np v x.toInt y.toInt z.toInt u_.toInt i_.toInt ∧ MF 140 mw fm1_30)))) ∧ (¬ (y ≤ x9_31) → (x8_20 ≤ x9_31 → (vp_in (160 + x7_11) 560) ∧ (∀ (fm1_41 : (Nat → Int64)), (fm1_41 = (vp_updL fm1_30 ((160 + x7_11).toNatClampNeg) (-1))) → (∃ (gT_42 : Nat → Nat → Int) (gNs_43 : Nat) (gNp_44 : Nat) (gX_45 : Nat) (gv_46 : Nat → Int) (gM_47 : Int), ((TOK gT_42 gNs_43 gNp_44 ∧ MT gT_42 gNs_43 gNp_44 fu fd fi zs cl ks ne mn ∧ (140 : Int32) = nI gX_45 ∧ gX_45 + 140 ≤ 560 ∧ MR gX_45 fm1_41 gv_46 ∧ NOK gT_42 gNs_43 gNp_44 (fun _ => 2 * gM_47) gM_47 gv_46 ∧ gM_47 ≤ 1000000) ∧ (∀ (r_48 : Int32) (mw2_49 : Nat → Int64), (r_48 = nI (zCs gT_42 (zPass gT_42 gNs_43 gNp_44 gv_46) gNp_44) ∧ MR gX_45 mw2_49 (zPass gT_42 gNs_43 gNp_44 gv_46) ∧ MF gX_45 fm1_41 mw2_49) → (I97_32 mw2_49 (x9_31 + 1) ∧ μ97_33 mw2_49 (x9_31 + 1) < μ97_33 fm1_30 x9_31)))))) ∧ (¬ (x8_20 ≤ x9_31) → (vp_in (160 + x7_11) 560) ∧ (∀ (fm1_50 : (Nat → Int64)), (fm1_50 = (vp_updL fm1_30 ((160 + x7_11).toNatClampNeg) x.toInt64)) → (∃ (gT_51 : Nat → Nat → Int) (gNs_52 : Nat) (gNp_53 : Nat) (gX_54 : Nat) (gv_55 : Nat → Int) (gM_56 : Int), ((TOK gT_51 gNs_52 gNp_53 ∧ MT gT_51 gNs_52 gNp_53 fu fd fi zs cl ks ne mn ∧ (140 : Int32) = nI gX_54 ∧ gX_54 + 140 ≤ 560 ∧ MR gX_54 fm1_50 gv_55 ∧ NOK gT_51 gNs_52 gNp_53 (fun _ => 2 * gM_56) gM_56 gv_55 ∧ gM_56 ≤ 1000000) ∧ (∀ (r_57 : Int32) (mw2_58 : Nat → Int64), (r_57 = nI (zCs gT_51 (zPass gT_51 gNs_52 gNp_53 gv_55) gNp_53) ∧ MR gX_54 mw2_58 (zPass gT_51 gNs_52 gNp_53 gv_55) ∧ MF gX_54 fm1_50 mw2_58) → (I97_32 mw2_58 (x9_31 + 1) ∧ μ97_33 mw2_58 (x9_31 + 1) < μ97_33 fm1_30 x9_31)))))))))))))))))) ∧ (¬ (¬ u_.toInt64 < 0 ∧ ¬ 9999 < u_.toInt64) → ((-1000000002) : Int32).toInt = aPalms T Ns Np v x.toInt y.toInt z.toInt u_.toInt i_.toInt ∧ MF 140 mw mw)))) ∧ (¬ (inR x (mn 0)) → ((-1000000001) : Int32).toInt = aPalms T Ns Np v x.toInt y.toInt z.toInt u_.toInt i_.toInt ∧ MF 140 mw mw)) : MetI l yX8_palms wsX8_palms 4 101 G [.ref m0, .int x, .int y, .int z, .int u_, .int i_] [(m0, .inr (8, [.ref m1, .ref m2, .ref m3, .ref m4, .ref m5, .ref m6, .ref m7, .ref m8, .ref m9, .int fu, .int fd, .int fi, .int nu, .int nw, .int nf, .int bf, .int bn, .ref m10, .int ts, .int ap, .int fs, .int ln, .int fo, .int fa, .ref m11, .ref m12, .ref m13, .ref m14, .int wr])), aJ G m1 560 mw, aZ G m2 2 ik, aI G m3 20 zs, aI G m4 20 cl, aI G m5 20 hs, aI G m6 20 ks, aI G m7 20 wa, aI G m8 20 ne, aI G m9 4 mn, aI G m10 400 tx, aI G m11 6 th, aI G m12 6 od, aI G m13 30 bk, aI G m14 30 bh] sz (fun (r : Int32) (u : (Nat → Int64)) => r.toInt = aPalms T Ns Np v x.toInt y.toInt z.toInt u_.toInt i_.toInt ∧ MF 140 mw u) (fun (u : (Nat → Int64)) => [(m0, .inr (8, [.ref m1, .ref m2, .ref m3, .ref m4, .ref m5, .ref m6, .ref m7, .ref m8, .ref m9, .int fu, .int fd, .int fi, .int nu, .int nw, .int nf, .int bf, .int bn, .ref m10, .int ts, .int ap, .int fs, .int ln, .int fo, .int fa, .ref m11, .ref m12, .ref m13, .ref m14, .int wr])), aJ G m1 560 u, aZ G m2 2 ik, aI G m3 20 zs, aI G m4 20 cl, aI G m5 20 hs, aI G m6 20 ks, aI G m7 20 wa, aI G m8 20 ne, aI G m9 4 mn, aI G m10 400 tx, aI G m11 6 th, aI G m12 6 od, aI G m13 30 bk, aI G m14 30 bh]) := by
  refine x_startI (cc := cX8_palms) (maxL := 11) (ret := (some .int)) (by decide) rfl (Nat.le_of_ble_eq_true rfl) ?_
  intro p e s m args below meth c A R Q ls hRf hRl hQ C hP hD hS hA hSS hl
  obtain ⟨hx, hb, hr, hml, hown, hts, hlocks, hKK⟩ := C
  have hown : s.vm.findClass RX8 = some m.cls := hown
  have hl : lv_has ls 11 [(0, .ref m0), (1, .int x), (2, .int y), (3, .int z), (4, .int u_), (5, .int i_)] := hl
  have hinX8 : ∀ w ∈ u_ws RX8 TX8 29, w ∈ wsX8_palms := by decide +kernel
  have kl152 := hts (.constantLong RX8 152 (-1)) (by decide +kernel)
  have kl164 := hts (.constant RX8 164 (-1000000001)) (by decide +kernel)
  have kl222 := hts (.constantLong RX8 222 (9999)) (by decide +kernel)
  have kl234 := hts (.constantLong RX8 234 (60)) (by decide +kernel)
  have kl36 := hts (.fieldLink RX8 36 "WarmStonesModel" "many" "[I") (by decide +kernel)
  have kl7 := hts (.fieldLink RX8 7 "WarmStonesModel" "w" "[J") (by decide +kernel)
  have kl73 := hts (.constant RX8 73 (-1000000002)) (by decide +kernel)
  refine lv_aload_n hx hb dX8_palms_0 rfl (lv_at hl 0 rfl) ?_
  refine lv_iload_n hx hb dX8_palms_1 rfl (lv_at hl 1 rfl) ?_
  refine x_calliR (x_runV (As := [.int x]) (rest := []) (n := 1) (C := RX8) (ci := 8) ⟨hx, hb, hml, hown, hts⟩ (k_X8_isStone l G m0 m1 m2 m3 m4 m5 m6 m7 m8 m9 m10 m11 m12 m13 m14 _ mw ik zs cl hs ks wa ne mn tx th od bk bh fu fd fi nu nw nf bf bn ts ap fs ln fo fa wr x) gX8_palms_X8_isStone rfl (by decide +kernel) ⟨Nat.le_trans (Nat.le_of_ble_eq_true rfl) hRf, Nat.le_trans (Nat.le_of_ble_eq_true rfl) hRl⟩ hKK hSS hS hA hP hD [0, 1, 2, 3, 4, 5, 6, 7, 8, 9, 10, 11, 12, 13, 14] (by decide) rfl rfl rfl 0 rfl rfl hl.1 rfl (Nat.le_of_ble_eq_true rfl) dX8_palms_2) hP hD hS hA [0, 1, 2, 3, 4, 5, 6, 7, 8, 9, 10, 11, 12, 13, 14] rfl (fun r_1 _ H locs hw hP hS => ?_)
  replace hw := hw.symm; subst hw
  refine lv_if_ne (tgt := 11) hx hb dX8_palms_5 (by decide) (fun hc_2 => ?_) (fun hc_2 => ?_)
  · have hv := hv.1 (tv_eqn.mp hc_2)
    refine lv_iload_n hx hb dX8_palms_11 rfl (lv_at hl 2 rfl) ?_
    refine lv_i2l hx hb dX8_palms_12 rfl ?_
    refine lv_lconst (v := 1) hx hb dX8_palms_13 (by decide) ?_
    refine lv_ldc2 (v := 60) hx hb hown kl234 dX8_palms_14 ?_
    refine x_calliR (x_runS (As := [.long y.toInt64, .long 1, .long 60]) (rest := []) (n := 3) ⟨hx, hb, hml, hown, hts⟩ (k_X8_in l G  _ y.toInt64 1 60) gX8_palms_X8_in rfl (by decide +kernel) ⟨Nat.le_trans (Nat.le_of_ble_eq_true rfl) hRf, Nat.le_trans (Nat.le_of_ble_eq_true rfl) hRl⟩ hKK hSS hS hA hP hD [] (by decide) rfl rfl hl.1 rfl (Nat.le_of_ble_eq_true rfl) dX8_palms_17) hP hD hS hA [] rfl (fun r_3 _ H locs hw hP hS => ?_)
    replace hw := hw.symm; subst hw
    refine lv_if_eq (tgt := 48) hx hb dX8_palms_20 (by decide) (fun hc_4 => ?_) (fun hc_4 => ?_)
    · have hv := hv.1 (tv_eq.mp hc_4)
      refine lv_ldc (v := (-1000000002)) hx hb hown kl73 dX8_palms_48 ?_
      exact x_iret (v := (-1000000002)) mw hQ hx hb hr hlocks hS dX8_palms_50 hv hP hD
    · have hv := hv.2 (tv_eqn.mp hc_4)
      refine lv_iload_n hx hb dX8_palms_23 rfl (lv_at hl 3 rfl) ?_
      refine lv_i2l hx hb dX8_palms_24 rfl ?_
      refine lv_lconst (v := 0) hx hb dX8_palms_25 (by decide) ?_
      refine lv_ldc2 (v := 9999) hx hb hown kl222 dX8_palms_26 ?_
      refine x_calliR (x_runS (As := [.long z.toInt64, .long 0, .long 9999]) (rest := []) (n := 3) ⟨hx, hb, hml, hown, hts⟩ (k_X8_in l G  _ z.toInt64 0 9999) gX8_palms_X8_in rfl (by decide +kernel) ⟨Nat.le_trans (Nat.le_of_ble_eq_true rfl) hRf, Nat.le_trans (Nat.le_of_ble_eq_true rfl) hRl⟩ hKK hSS hS hA hP hD [] (by decide) rfl rfl hl.1 rfl (Nat.le_of_ble_eq_true rfl) dX8_palms_29) hP hD hS hA [] rfl (fun r_5 _ H locs hw hP hS => ?_)
      replace hw := hw.symm; subst hw
      refine lv_if_eq (tgt := 48) hx hb dX8_palms_32 (by decide) (fun hc_6 => ?_) (fun hc_6 => ?_)
      · have hv := hv.1 (tv_eq.mp hc_6)
        refine lv_ldc (v := (-1000000002)) hx hb hown kl73 dX8_palms_48 ?_
        exact x_iret (v := (-1000000002)) mw hQ hx hb hr hlocks hS dX8_palms_50 hv hP hD
      · have hv := hv.2 (tv_eqn.mp hc_6)
        refine lv_iload hx hb dX8_palms_35 (lv_at hl 4 rfl) ?_
        refine lv_i2l hx hb dX8_palms_37 rfl ?_
        refine lv_lconst (v := 0) hx hb dX8_palms_38 (by decide) ?_
        refine lv_ldc2 (v := 9999) hx hb hown kl222 dX8_palms_39 ?_
        refine x_calliR (x_runS (As := [.long u_.toInt64, .long 0, .long 9999]) (rest := []) (n := 3) ⟨hx, hb, hml, hown, hts⟩ (k_X8_in l G  _ u_.toInt64 0 9999) gX8_palms_X8_in rfl (by decide +kernel) ⟨Nat.le_trans (Nat.le_of_ble_eq_true rfl) hRf, Nat.le_trans (Nat.le_of_ble_eq_true rfl) hRl⟩ hKK hSS hS hA hP hD [] (by decide) rfl rfl hl.1 rfl (Nat.le_of_ble_eq_true rfl) dX8_palms_42) hP hD hS hA [] rfl (fun r_7 _ H locs hw hP hS => ?_)
        replace hw := hw.symm; subst hw
        refine lv_if_ne (tgt := 51) hx hb dX8_palms_45 (by decide) (fun hc_8 => ?_) (fun hc_8 => ?_)
        · have hv := hv.1 (tv_eqn.mp hc_8)
          refine lv_iconst (v := 0) hx hb dX8_palms_51 (by decide) ?_
          refine lv_istore (lv' := [(6, .int 0), (0, .ref m0), (1, .int x), (2, .int y), (3, .int z), (4, .int u_), (5, .int i_)]) hx hb dX8_palms_52 hl (by decide) rfl (fun ls hl => ?_)
          refine lv_iconst (v := 0) hx hb dX8_palms_54 (by decide) ?_
          refine lv_istore (lv' := [(7, .int 0), (6, .int 0), (0, .ref m0), (1, .int x), (2, .int y), (3, .int z), (4, .int u_), (5, .int i_)]) hx hb dX8_palms_55 hl (by decide) rfl (fun ls hl => ?_)
          obtain ⟨I57_12, μ57_13, hi0, hs_65⟩ := hv
          have Lm_67 : ∀ (n_66 : Nat) (fm1_9 : (Nat → Int64)) (x6_10 : Int32) (x7_11 : Int32) (H : Heap) (locs : List Loc) (ls : Array Slot), μ57_13 fm1_9 x6_10 x7_11 < n_66 → I57_12 fm1_9 x6_10 x7_11 → va_P G.1 vwCl [(m0, .inr (8, [.ref m1, .ref m2, .ref m3, .ref m4, .ref m5, .ref m6, .ref m7, .ref m8, .ref m9, .int fu, .int fd, .int fi, .int nu, .int nw, .int nf, .int bf, .int bn, .ref m10, .int ts, .int ap, .int fs, .int ln, .int fo, .int fa, .ref m11, .ref m12, .ref m13, .ref m14, .int wr])), aJ G m1 560 fm1_9, aZ G m2 2 ik, aI G m3 20 zs, aI G m4 20 cl, aI G m5 20 hs, aI G m6 20 ks, aI G m7 20 wa, aI G m8 20 ne, aI G m9 4 mn, aI G m10 400 tx, aI G m11 6 th, aI G m12 6 od, aI G m13 30 bk, aI G m14 30 bh] H → va_D A [(m0, .inr (8, [.ref m1, .ref m2, .ref m3, .ref m4, .ref m5, .ref m6, .ref m7, .ref m8, .ref m9, .int fu, .int fd, .int fi, .int nu, .int nw, .int nf, .int bf, .int bn, .ref m10, .int ts, .int ap, .int fs, .int ln, .int fo, .int fa, .ref m11, .ref m12, .ref m13, .ref m14, .int wr])), aJ G m1 560 fm1_9, aZ G m2 2 ik, aI G m3 20 zs, aI G m4 20 cl, aI G m5 20 hs, aI G m6 20 ks, aI G m7 20 wa, aI G m8 20 ne, aI G m9 4 mn, aI G m10 400 tx, aI G m11 6 th, aI G m12 6 od, aI G m13 30 bk, aI G m14 30 bh] → va_S A s.heap H locs → lv_has ls 11 [(7, .int x7_11), (6, .int x6_10), (0, .ref m0), (1, .int x), (2, .int y), (3, .int z), (4, .int u_), (5, .int i_)] → W p l e R s m args below meth c H locs 0 0 Q (F0 m 57 ls []) := by
            intro n_66
            induction n_66 with
            | zero => intro fm1_9 x6_10 x7_11 H locs ls hm; exact absurd hm (Nat.not_lt_zero _)
            | succ n_66 ih_14 =>
              intro fm1_9 x6_10 x7_11 H locs ls hI_15 hi hP hD hS hl
              have hv := hs_65 fm1_9 x6_10 x7_11 hi
              refine lv_iload hx hb dX8_palms_57 (lv_at hl 0 rfl) ?_
              refine lv_aload_n hx hb dX8_palms_59 rfl (lv_at hl 2 rfl) ?_
              refine va_get (D := G.1) (ci := 8) (v := .ref m9) (C := RX8) (T := TX8) (N := 29) hx hb hts hinX8 hown hKK.1 hP 0 rfl rfl 8 (by decide) kl36 (fun _ h9 => h9) rfl dX8_palms_60 ?_
              refine lv_iconst (v := 1) hx hb dX8_palms_63 (by decide) ?_
              refine va_iald hx hb hKK.1 hP 9 0 rfl rfl (by unfold vp_in; decide) dX8_palms_64 ?_
              refine lv_icmp_ge (tgt := 201) hx hb dX8_palms_65 (by decide) (fun hc_16 => ?_) (fun hc_16 => ?_)
              · have hv := hv.1 hc_16
                refine lv_iload hx hb dX8_palms_201 (lv_at hl 7 rfl) ?_
                refine lv_iconst (v := (-1)) hx hb dX8_palms_203 (by decide) ?_
                refine lv_icmp_ne (tgt := 212) hx hb dX8_palms_204 (by decide) (fun hc_17 => ?_) (fun hc_17 => ?_)
                · have hv := hv.1 hc_17
                  refine lv_iconst (v := (-1)) hx hb dX8_palms_212 (by decide) ?_
                  exact x_iret (v := (-1)) fm1_9 hQ hx hb hr hlocks hS dX8_palms_213 hv hP hD
                · have hv := hv.2 hc_17
                  refine lv_iload hx hb dX8_palms_207 (lv_at hl 1 rfl) ?_
                  refine lv_goto (tgt := 213) hx hb dX8_palms_209 (by decide) ?_
                  exact x_iret (v := x6_10) fm1_9 hQ hx hb hr hlocks hS dX8_palms_213 hv hP hD
              · have hv := hv.2 hc_16
                refine lv_iconst (v := 1) hx hb dX8_palms_68 (by decide) ?_
                refine lv_istore (lv' := [(8, .int 1), (7, .int x7_11), (6, .int x6_10), (0, .ref m0), (1, .int x), (2, .int y), (3, .int z), (4, .int u_), (5, .int i_)]) hx hb dX8_palms_69 hl (by decide) rfl (fun ls hl => ?_)
                obtain ⟨I71_21, μ71_22, hi0, hs_62⟩ := hv
                have Lm_64 : ∀ (n_63 : Nat) (fm1_18 : (Nat → Int64)) (x6_19 : Int32) (x8_20 : Int32) (H : Heap) (locs : List Loc) (ls : Array Slot), μ71_22 fm1_18 x6_19 x8_20 < n_63 → I71_21 fm1_18 x6_19 x8_20 → va_P G.1 vwCl [(m0, .inr (8, [.ref m1, .ref m2, .ref m3, .ref m4, .ref m5, .ref m6, .ref m7, .ref m8, .ref m9, .int fu, .int fd, .int fi, .int nu, .int nw, .int nf, .int bf, .int bn, .ref m10, .int ts, .int ap, .int fs, .int ln, .int fo, .int fa, .ref m11, .ref m12, .ref m13, .ref m14, .int wr])), aJ G m1 560 fm1_18, aZ G m2 2 ik, aI G m3 20 zs, aI G m4 20 cl, aI G m5 20 hs, aI G m6 20 ks, aI G m7 20 wa, aI G m8 20 ne, aI G m9 4 mn, aI G m10 400 tx, aI G m11 6 th, aI G m12 6 od, aI G m13 30 bk, aI G m14 30 bh] H → va_D A [(m0, .inr (8, [.ref m1, .ref m2, .ref m3, .ref m4, .ref m5, .ref m6, .ref m7, .ref m8, .ref m9, .int fu, .int fd, .int fi, .int nu, .int nw, .int nf, .int bf, .int bn, .ref m10, .int ts, .int ap, .int fs, .int ln, .int fo, .int fa, .ref m11, .ref m12, .ref m13, .ref m14, .int wr])), aJ G m1 560 fm1_18, aZ G m2 2 ik, aI G m3 20 zs, aI G m4 20 cl, aI G m5 20 hs, aI G m6 20 ks, aI G m7 20 wa, aI G m8 20 ne, aI G m9 4 mn, aI G m10 400 tx, aI G m11 6 th, aI G m12 6 od, aI G m13 30 bk, aI G m14 30 bh] → va_S A s.heap H locs → lv_has ls 11 [(8, .int x8_20), (7, .int x7_11), (6, .int x6_19), (0, .ref m0), (1, .int x), (2, .int y), (3, .int z), (4, .int u_), (5, .int i_)] → W p l e R s m args below meth c H locs 0 0 Q (F0 m 71 ls []) := by
                  intro n_63
                  induction n_63 with
                  | zero => intro fm1_18 x6_19 x8_20 H locs ls hm; exact absurd hm (Nat.not_lt_zero _)
                  | succ n_63 ih_23 =>
                    intro fm1_18 x6_19 x8_20 H locs ls hI_24 hi hP hD hS hl
                    have hv := hs_62 fm1_18 x6_19 x8_20 hi
                    refine lv_iload hx hb dX8_palms_71 (lv_at hl 0 rfl) ?_
                    refine lv_iload_n hx hb dX8_palms_73 rfl (lv_at hl 5 rfl) ?_
                    refine lv_icmp_gt (tgt := 195) hx hb dX8_palms_74 (by decide) (fun hc_25 => ?_) (fun hc_25 => ?_)
                    · have hv := hv.1 hc_25
                      refine lv_iinc (v := (x7_11 + 1)) (lv' := [(7, .int (x7_11 + 1)), (8, .int x8_20), (6, .int x6_19), (0, .ref m0), (1, .int x), (2, .int y), (3, .int z), (4, .int u_), (5, .int i_)]) hx hb dX8_palms_195 hl (k := 1) rfl rfl (by decide) rfl (fun ls hl => ?_)
                      refine lv_goto (tgt := 57) hx hb dX8_palms_198 (by decide) ?_
                      exact ih_14 _ _ _ _ _ _ (Nat.lt_of_lt_of_le hv.2 (Nat.le_of_lt_succ hI_15)) hv.1 hP hD hS (lv_sub hl [0, 2, 3, 4, 5, 6, 7, 8] rfl)
                    · have hv := hv.2 hc_25
                      refine lv_aload_n hx hb dX8_palms_77 rfl (lv_at hl 3 rfl) ?_
                      obtain ⟨gv_26, hv⟩ := hv
                      obtain ⟨hp, hv⟩ := hv
                      refine x_callv (wr := []) (w' := fun (u : (Nat → Int64)) => [(m0, .inr (8, [.ref m1, .ref m2, .ref m3, .ref m4, .ref m5, .ref m6, .ref m7, .ref m8, .ref m9, .int fu, .int fd, .int fi, .int nu, .int nw, .int nf, .int bf, .int bn, .ref m10, .int ts, .int ap, .int fs, .int ln, .int fo, .int fa, .ref m11, .ref m12, .ref m13, .ref m14, .int wr])), aJ G m1 560 u, aZ G m2 2 ik, aI G m3 20 zs, aI G m4 20 cl, aI G m5 20 hs, aI G m6 20 ks, aI G m7 20 wa, aI G m8 20 ne, aI G m9 4 mn, aI G m10 400 tx, aI G m11 6 th, aI G m12 6 od, aI G m13 30 bk, aI G m14 30 bh]) (x_runV (As := []) (rest := []) (n := 0) (C := RX8) (ci := 8) ⟨hx, hb, hml, hown, hts⟩ (k_X8_tryAllUp l G m0 m1 m2 m3 m4 m5 m6 m7 m8 m9 m10 m11 m12 m13 m14 _ fm1_18 ik zs cl hs ks wa ne mn tx th od bk bh fu fd fi nu nw nf bf bn ts ap fs ln fo fa wr gv_26 hp) gX8_palms_X8_tryAllUp rfl (by decide +kernel) ⟨Nat.le_trans (Nat.le_of_ble_eq_true rfl) hRf, Nat.le_trans (Nat.le_of_ble_eq_true rfl) hRl⟩ hKK hSS hS hA hP hD [0, 1, 2, 3, 4, 5, 6, 7, 8, 9, 10, 11, 12, 13, 14] (by decide) rfl rfl rfl 0 rfl rfl hl.1 rfl (Nat.le_of_ble_eq_true rfl) dX8_palms_78) hP hD hS hA [0, 1, 2, 3, 4, 5, 6, 7, 8, 9, 10, 11, 12, 13, 14] [] [0, 1, 2, 3, 4, 5, 6, 7, 8, 9, 10, 11, 12, 13, 14] rfl rfl (by decide) (by decide) (by decide) (fun _ => rfl) (fun  u H locs hw hP hD hS => ?_)
                      obtain ⟨mw2_28, rfl⟩ : ∃ z9_, z9_ = u := ⟨_, rfl⟩
                      have hP : va_P G.1 vwCl [(m0, .inr (8, [.ref m1, .ref m2, .ref m3, .ref m4, .ref m5, .ref m6, .ref m7, .ref m8, .ref m9, .int fu, .int fd, .int fi, .int nu, .int nw, .int nf, .int bf, .int bn, .ref m10, .int ts, .int ap, .int fs, .int ln, .int fo, .int fa, .ref m11, .ref m12, .ref m13, .ref m14, .int wr])), aJ G m1 560 mw2_28, aZ G m2 2 ik, aI G m3 20 zs, aI G m4 20 cl, aI G m5 20 hs, aI G m6 20 ks, aI G m7 20 wa, aI G m8 20 ne, aI G m9 4 mn, aI G m10 400 tx, aI G m11 6 th, aI G m12 6 od, aI G m13 30 bk, aI G m14 30 bh] H := hP
                      have hD : va_D A [(m0, .inr (8, [.ref m1, .ref m2, .ref m3, .ref m4, .ref m5, .ref m6, .ref m7, .ref m8, .ref m9, .int fu, .int fd, .int fi, .int nu, .int nw, .int nf, .int bf, .int bn, .ref m10, .int ts, .int ap, .int fs, .int ln, .int fo, .int fa, .ref m11, .ref m12, .ref m13, .ref m14, .int wr])), aJ G m1 560 mw2_28, aZ G m2 2 ik, aI G m3 20 zs, aI G m4 20 cl, aI G m5 20 hs, aI G m6 20 ks, aI G m7 20 wa, aI G m8 20 ne, aI G m9 4 mn, aI G m10 400 tx, aI G m11 6 th, aI G m12 6 od, aI G m13 30 bk, aI G m14 30 bh] := hD
                      have hv := hv mw2_28 hw
                      refine lv_aload_n hx hb dX8_palms_81 rfl (lv_at hl 3 rfl) ?_
                      refine va_get (D := G.1) (ci := 8) (v := .ref m1) (C := RX8) (T := TX8) (N := 29) hx hb hts hinX8 hown hKK.1 hP 0 rfl rfl 0 (by decide) kl7 (fun _ h9 => h9) rfl dX8_palms_82 ?_
                      refine lv_sipush (v := 160) hx hb dX8_palms_85 (by decide) ?_
                      refine lv_iload hx hb dX8_palms_88 (lv_at hl 1 rfl) ?_
                      refine lv_iadd hx hb dX8_palms_90 ?_
                      refine lv_iload_n hx hb dX8_palms_91 rfl (lv_at hl 4 rfl) ?_
                      refine lv_i2l hx hb dX8_palms_92 rfl ?_
                      obtain ⟨hin, hv⟩ := hv
                      refine va_last hx hb hKK.1 hP hD hS 1 2 rfl rfl hin dX8_palms_93 (fun H locs hP hD hS => ?_)
                      obtain ⟨fm1_29, ef⟩ : ∃ z9_, z9_ = (vp_updL mw2_28 ((160 + x7_11).toNatClampNeg) x.toInt64) := ⟨_, rfl⟩
                      have hP : va_P G.1 vwCl [(m0, .inr (8, [.ref m1, .ref m2, .ref m3, .ref m4, .ref m5, .ref m6, .ref m7, .ref m8, .ref m9, .int fu, .int fd, .int fi, .int nu, .int nw, .int nf, .int bf, .int bn, .ref m10, .int ts, .int ap, .int fs, .int ln, .int fo, .int fa, .ref m11, .ref m12, .ref m13, .ref m14, .int wr])), aJ G m1 560 fm1_29, aZ G m2 2 ik, aI G m3 20 zs, aI G m4 20 cl, aI G m5 20 hs, aI G m6 20 ks, aI G m7 20 wa, aI G m8 20 ne, aI G m9 4 mn, aI G m10 400 tx, aI G m11 6 th, aI G m12 6 od, aI G m13 30 bk, aI G m14 30 bh] H := by rw [ef]; exact hP
                      have hD : va_D A [(m0, .inr (8, [.ref m1, .ref m2, .ref m3, .ref m4, .ref m5, .ref m6, .ref m7, .ref m8, .ref m9, .int fu, .int fd, .int fi, .int nu, .int nw, .int nf, .int bf, .int bn, .ref m10, .int ts, .int ap, .int fs, .int ln, .int fo, .int fa, .ref m11, .ref m12, .ref m13, .ref m14, .int wr])), aJ G m1 560 fm1_29, aZ G m2 2 ik, aI G m3 20 zs, aI G m4 20 cl, aI G m5 20 hs, aI G m6 20 ks, aI G m7 20 wa, aI G m8 20 ne, aI G m9 4 mn, aI G m10 400 tx, aI G m11 6 th, aI G m12 6 od, aI G m13 30 bk, aI G m14 30 bh] := by rw [ef]; exact hD
                      have hv := hv fm1_29 ef
                      refine lv_iconst (v := 0) hx hb dX8_palms_94 (by decide) ?_
                      refine lv_istore (lv' := [(9, .int 0), (8, .int x8_20), (7, .int x7_11), (6, .int x6_19), (0, .ref m0), (1, .int x), (2, .int y), (3, .int z), (4, .int u_), (5, .int i_)]) hx hb dX8_palms_95 hl (by decide) rfl (fun ls hl => ?_)
                      obtain ⟨I97_32, μ97_33, hi0, hs_59⟩ := hv
                      have Lm_61 : ∀ (n_60 : Nat) (fm1_30 : (Nat → Int64)) (x9_31 : Int32) (H : Heap) (locs : List Loc) (ls : Array Slot), μ97_33 fm1_30 x9_31 < n_60 → I97_32 fm1_30 x9_31 → va_P G.1 vwCl [(m0, .inr (8, [.ref m1, .ref m2, .ref m3, .ref m4, .ref m5, .ref m6, .ref m7, .ref m8, .ref m9, .int fu, .int fd, .int fi, .int nu, .int nw, .int nf, .int bf, .int bn, .ref m10, .int ts, .int ap, .int fs, .int ln, .int fo, .int fa, .ref m11, .ref m12, .ref m13, .ref m14, .int wr])), aJ G m1 560 fm1_30, aZ G m2 2 ik, aI G m3 20 zs, aI G m4 20 cl, aI G m5 20 hs, aI G m6 20 ks, aI G m7 20 wa, aI G m8 20 ne, aI G m9 4 mn, aI G m10 400 tx, aI G m11 6 th, aI G m12 6 od, aI G m13 30 bk, aI G m14 30 bh] H → va_D A [(m0, .inr (8, [.ref m1, .ref m2, .ref m3, .ref m4, .ref m5, .ref m6, .ref m7, .ref m8, .ref m9, .int fu, .int fd, .int fi, .int nu, .int nw, .int nf, .int bf, .int bn, .ref m10, .int ts, .int ap, .int fs, .int ln, .int fo, .int fa, .ref m11, .ref m12, .ref m13, .ref m14, .int wr])), aJ G m1 560 fm1_30, aZ G m2 2 ik, aI G m3 20 zs, aI G m4 20 cl, aI G m5 20 hs, aI G m6 20 ks, aI G m7 20 wa, aI G m8 20 ne, aI G m9 4 mn, aI G m10 400 tx, aI G m11 6 th, aI G m12 6 od, aI G m13 30 bk, aI G m14 30 bh] → va_S A s.heap H locs → lv_has ls 11 [(9, .int x9_31), (8, .int x8_20), (7, .int x7_11), (6, .int x6_19), (0, .ref m0), (1, .int x), (2, .int y), (3, .int z), (4, .int u_), (5, .int i_)] → W p l e R s m args below meth c H locs 0 0 Q (F0 m 97 ls []) := by
                        intro n_60
                        induction n_60 with
                        | zero => intro fm1_30 x9_31 H locs ls hm; exact absurd hm (Nat.not_lt_zero _)
                        | succ n_60 ih_34 =>
                          intro fm1_30 x9_31 H locs ls hI_35 hi hP hD hS hl
                          have hv := hs_59 fm1_30 x9_31 hi
                          refine lv_iload hx hb dX8_palms_97 (lv_at hl 0 rfl) ?_
                          refine lv_iload_n hx hb dX8_palms_99 rfl (lv_at hl 6 rfl) ?_
                          refine lv_icmp_ge (tgt := 144) hx hb dX8_palms_100 (by decide) (fun hc_36 => ?_) (fun hc_36 => ?_)
                          · have hv := hv.1 hc_36
                            refine lv_aload_n hx hb dX8_palms_144 rfl (lv_at hl 4 rfl) ?_
                            refine va_get (D := G.1) (ci := 8) (v := .ref m1) (C := RX8) (T := TX8) (N := 29) hx hb hts hinX8 hown hKK.1 hP 0 rfl rfl 0 (by decide) kl7 (fun _ h9 => h9) rfl dX8_palms_145 ?_
                            refine lv_sipush (v := 140) hx hb dX8_palms_148 (by decide) ?_
                            refine lv_iload_n hx hb dX8_palms_151 rfl (lv_at hl 5 rfl) ?_
                            refine lv_iadd hx hb dX8_palms_152 ?_
                            obtain ⟨hin, hv⟩ := hv
                            refine va_lald hx hb hKK.1 hP 1 2 rfl rfl hin dX8_palms_153 ?_
                            refine lv_iload_n hx hb dX8_palms_154 rfl (lv_at hl 7 rfl) ?_
                            refine lv_iload hx hb dX8_palms_155 (lv_at hl 8 rfl) ?_
                            refine lv_isub hx hb dX8_palms_157 ?_
                            refine lv_i2l hx hb dX8_palms_158 rfl ?_
                            refine lv_iload_n hx hb dX8_palms_159 rfl (lv_at hl 7 rfl) ?_
                            refine lv_iload hx hb dX8_palms_160 (lv_at hl 8 rfl) ?_
                            refine lv_iadd hx hb dX8_palms_162 ?_
                            refine lv_i2l hx hb dX8_palms_163 rfl ?_
                            refine x_calliR (x_runS (As := [.long (fm1_30 (140 + x).toNatClampNeg), .long ((z - u_).toInt64), .long ((z + u_).toInt64)]) (rest := []) (n := 3) ⟨hx, hb, hml, hown, hts⟩ (k_X8_in l G  _ (fm1_30 (140 + x).toNatClampNeg) ((z - u_).toInt64) ((z + u_).toInt64)) gX8_palms_X8_in rfl (by decide +kernel) ⟨Nat.le_trans (Nat.le_of_ble_eq_true rfl) hRf, Nat.le_trans (Nat.le_of_ble_eq_true rfl) hRl⟩ hKK hSS hS hA hP hD [] (by decide) rfl rfl hl.1 rfl (Nat.le_of_ble_eq_true rfl) dX8_palms_164) hP hD hS hA [] rfl (fun r_37 _ H locs hw hP hS => ?_)
                            replace hw := hw.symm; subst hw
                            refine lv_if_eq (tgt := 189) hx hb dX8_palms_167 (by decide) (fun hc_38 => ?_) (fun hc_38 => ?_)
                            · have hv := hv.1 (tv_eq.mp hc_38)
                              refine lv_iinc (v := (x8_20 + 1)) (lv' := [(8, .int (x8_20 + 1)), (9, .int x9_31), (7, .int x7_11), (6, .int x6_19), (0, .ref m0), (1, .int x), (2, .int y), (3, .int z), (4, .int u_), (5, .int i_)]) hx hb dX8_palms_189 hl (k := 1) rfl rfl (by decide) rfl (fun ls hl => ?_)
                              refine lv_goto (tgt := 71) hx hb dX8_palms_192 (by decide) ?_
                              exact ih_23 _ _ _ _ _ _ (Nat.lt_of_lt_of_le hv.2 (Nat.le_of_lt_succ hI_24)) hv.1 hP hD hS (lv_sub hl [0, 2, 3, 4, 5, 6, 7, 8, 9] rfl)
                            · have hv := hv.2 (tv_eqn.mp hc_38)
                              refine lv_iload hx hb dX8_palms_170 (lv_at hl 3 rfl) ?_
                              refine lv_iload hx hb dX8_palms_172 (lv_at hl 9 rfl) ?_
                              refine lv_icmp_ne (tgt := 186) hx hb dX8_palms_174 (by decide) (fun hc_39 => ?_) (fun hc_39 => ?_)
                              · have hv := hv.1 hc_39
                                refine lv_iinc (v := (x6_19 + 1)) (lv' := [(6, .int (x6_19 + 1)), (9, .int x9_31), (8, .int x8_20), (7, .int x7_11), (0, .ref m0), (1, .int x), (2, .int y), (3, .int z), (4, .int u_), (5, .int i_)]) hx hb dX8_palms_186 hl (k := 3) rfl rfl (by decide) rfl (fun ls hl => ?_)
                                refine lv_iinc (v := (x8_20 + 1)) (lv' := [(8, .int (x8_20 + 1)), (6, .int (x6_19 + 1)), (9, .int x9_31), (7, .int x7_11), (0, .ref m0), (1, .int x), (2, .int y), (3, .int z), (4, .int u_), (5, .int i_)]) hx hb dX8_palms_189 hl (k := 2) rfl rfl (by decide) rfl (fun ls hl => ?_)
                                refine lv_goto (tgt := 71) hx hb dX8_palms_192 (by decide) ?_
                                exact ih_23 _ _ _ _ _ _ (Nat.lt_of_lt_of_le hv.2 (Nat.le_of_lt_succ hI_24)) hv.1 hP hD hS (lv_sub hl [0, 3, 1, 4, 5, 6, 7, 8, 9] rfl)
                              · have hv := hv.2 hc_39
                                refine lv_bipush (v := 100) hx hb dX8_palms_177 (by decide) ?_
                                refine lv_iload hx hb dX8_palms_179 (lv_at hl 2 rfl) ?_
                                refine lv_imul hx hb dX8_palms_181 ?_
                                refine lv_iload hx hb dX8_palms_182 (lv_at hl 1 rfl) ?_
                                refine lv_iadd hx hb dX8_palms_184 ?_
                                exact x_iret (v := ((100 * x7_11) + x8_20)) fm1_30 hQ hx hb hr hlocks hS dX8_palms_185 hv hP hD
                          · have hv := hv.2 hc_36
                            refine lv_aload_n hx hb dX8_palms_103 rfl (lv_at hl 4 rfl) ?_
                            refine va_get (D := G.1) (ci := 8) (v := .ref m1) (C := RX8) (T := TX8) (N := 29) hx hb hts hinX8 hown hKK.1 hP 0 rfl rfl 0 (by decide) kl7 (fun _ h9 => h9) rfl dX8_palms_104 ?_
                            refine lv_sipush (v := 160) hx hb dX8_palms_107 (by decide) ?_
                            refine lv_iload hx hb dX8_palms_110 (lv_at hl 2 rfl) ?_
                            refine lv_iadd hx hb dX8_palms_112 ?_
                            refine lv_iload hx hb dX8_palms_113 (lv_at hl 0 rfl) ?_
                            refine lv_iload hx hb dX8_palms_115 (lv_at hl 1 rfl) ?_
                            refine lv_icmp_ge (tgt := 125) hx hb dX8_palms_117 (by decide) (fun hc_40 => ?_) (fun hc_40 => ?_)
                            · have hv := hv.1 hc_40
                              refine lv_ldc2 (v := (-1)) hx hb hown kl152 dX8_palms_125 ?_
                              obtain ⟨hin, hv⟩ := hv
                              refine va_last hx hb hKK.1 hP hD hS 1 2 rfl rfl hin dX8_palms_128 (fun H locs hP hD hS => ?_)
                              obtain ⟨fm1_41, ef⟩ : ∃ z9_, z9_ = (vp_updL fm1_30 ((160 + x7_11).toNatClampNeg) (-1)) := ⟨_, rfl⟩
                              have hP : va_P G.1 vwCl [(m0, .inr (8, [.ref m1, .ref m2, .ref m3, .ref m4, .ref m5, .ref m6, .ref m7, .ref m8, .ref m9, .int fu, .int fd, .int fi, .int nu, .int nw, .int nf, .int bf, .int bn, .ref m10, .int ts, .int ap, .int fs, .int ln, .int fo, .int fa, .ref m11, .ref m12, .ref m13, .ref m14, .int wr])), aJ G m1 560 fm1_41, aZ G m2 2 ik, aI G m3 20 zs, aI G m4 20 cl, aI G m5 20 hs, aI G m6 20 ks, aI G m7 20 wa, aI G m8 20 ne, aI G m9 4 mn, aI G m10 400 tx, aI G m11 6 th, aI G m12 6 od, aI G m13 30 bk, aI G m14 30 bh] H := by rw [ef]; exact hP
                              have hD : va_D A [(m0, .inr (8, [.ref m1, .ref m2, .ref m3, .ref m4, .ref m5, .ref m6, .ref m7, .ref m8, .ref m9, .int fu, .int fd, .int fi, .int nu, .int nw, .int nf, .int bf, .int bn, .ref m10, .int ts, .int ap, .int fs, .int ln, .int fo, .int fa, .ref m11, .ref m12, .ref m13, .ref m14, .int wr])), aJ G m1 560 fm1_41, aZ G m2 2 ik, aI G m3 20 zs, aI G m4 20 cl, aI G m5 20 hs, aI G m6 20 ks, aI G m7 20 wa, aI G m8 20 ne, aI G m9 4 mn, aI G m10 400 tx, aI G m11 6 th, aI G m12 6 od, aI G m13 30 bk, aI G m14 30 bh] := by rw [ef]; exact hD
                              have hv := hv fm1_41 ef
                              refine lv_aload_n hx hb dX8_palms_129 rfl (lv_at hl 4 rfl) ?_
                              refine lv_sipush (v := 140) hx hb dX8_palms_130 (by decide) ?_
                              obtain ⟨gT_42, gNs_43, gNp_44, gX_45, gv_46, gM_47, hv⟩ := hv
                              obtain ⟨hp, hv⟩ := hv
                              refine x_calli (wr := []) (w' := fun (u : (Nat → Int64)) => [(m0, .inr (8, [.ref m1, .ref m2, .ref m3, .ref m4, .ref m5, .ref m6, .ref m7, .ref m8, .ref m9, .int fu, .int fd, .int fi, .int nu, .int nw, .int nf, .int bf, .int bn, .ref m10, .int ts, .int ap, .int fs, .int ln, .int fo, .int fa, .ref m11, .ref m12, .ref m13, .ref m14, .int wr])), aJ G m1 560 u, aZ G m2 2 ik, aI G m3 20 zs, aI G m4 20 cl, aI G m5 20 hs, aI G m6 20 ks, aI G m7 20 wa, aI G m8 20 ne, aI G m9 4 mn, aI G m10 400 tx, aI G m11 6 th, aI G m12 6 od, aI G m13 30 bk, aI G m14 30 bh]) (x_runV (As := [.int 140]) (rest := []) (n := 1) (C := RX8) (ci := 8) ⟨hx, hb, hml, hown, hts⟩ (k_X8_pass l G m0 m1 m2 m3 m4 m5 m6 m7 m8 m9 m10 m11 m12 m13 m14 _ fm1_41 ik zs cl hs ks wa ne mn tx th od bk bh fu fd fi nu nw nf bf bn ts ap fs ln fo fa wr 140 gT_42 gNs_43 gNp_44 gX_45 gv_46 gM_47 hp) gX8_palms_X8_pass rfl (by decide +kernel) ⟨Nat.le_trans (Nat.le_of_ble_eq_true rfl) hRf, Nat.le_trans (Nat.le_of_ble_eq_true rfl) hRl⟩ hKK hSS hS hA hP hD [0, 1, 2, 3, 4, 5, 6, 7, 8, 9, 10, 11, 12, 13, 14] (by decide) rfl rfl rfl 0 rfl rfl hl.1 rfl (Nat.le_of_ble_eq_true rfl) dX8_palms_133) hP hD hS hA [0, 1, 2, 3, 4, 5, 6, 7, 8, 9, 10, 11, 12, 13, 14] [] [0, 1, 2, 3, 4, 5, 6, 7, 8, 9, 10, 11, 12, 13, 14] rfl rfl (by decide) (by decide) (by decide) (fun _ => rfl) (fun r_48 u H locs hw hP hD hS => ?_)
                              obtain ⟨mw2_49, rfl⟩ : ∃ z9_, z9_ = u := ⟨_, rfl⟩
                              have hP : va_P G.1 vwCl [(m0, .inr (8, [.ref m1, .ref m2, .ref m3, .ref m4, .ref m5, .ref m6, .ref m7, .ref m8, .ref m9, .int fu, .int fd, .int fi, .int nu, .int nw, .int nf, .int bf, .int bn, .ref m10, .int ts, .int ap, .int fs, .int ln, .int fo, .int fa, .ref m11, .ref m12, .ref m13, .ref m14, .int wr])), aJ G m1 560 mw2_49, aZ G m2 2 ik, aI G m3 20 zs, aI G m4 20 cl, aI G m5 20 hs, aI G m6 20 ks, aI G m7 20 wa, aI G m8 20 ne, aI G m9 4 mn, aI G m10 400 tx, aI G m11 6 th, aI G m12 6 od, aI G m13 30 bk, aI G m14 30 bh] H := hP
                              have hD : va_D A [(m0, .inr (8, [.ref m1, .ref m2, .ref m3, .ref m4, .ref m5, .ref m6, .ref m7, .ref m8, .ref m9, .int fu, .int fd, .int fi, .int nu, .int nw, .int nf, .int bf, .int bn, .ref m10, .int ts, .int ap, .int fs, .int ln, .int fo, .int fa, .ref m11, .ref m12, .ref m13, .ref m14, .int wr])), aJ G m1 560 mw2_49, aZ G m2 2 ik, aI G m3 20 zs, aI G m4 20 cl, aI G m5 20 hs, aI G m6 20 ks, aI G m7 20 wa, aI G m8 20 ne, aI G m9 4 mn, aI G m10 400 tx, aI G m11 6 th, aI G m12 6 od, aI G m13 30 bk, aI G m14 30 bh] := hD
                              have hv := hv r_48 mw2_49 hw
                              refine lv_istore (lv' := [(10, .int r_48), (9, .int x9_31), (8, .int x8_20), (7, .int x7_11), (6, .int x6_19), (0, .ref m0), (1, .int x), (2, .int y), (3, .int z), (4, .int u_), (5, .int i_)]) hx hb dX8_palms_136 hl (by decide) rfl (fun ls hl => ?_)
                              refine lv_iinc (v := (x9_31 + 1)) (lv' := [(9, .int (x9_31 + 1)), (10, .int r_48), (8, .int x8_20), (7, .int x7_11), (6, .int x6_19), (0, .ref m0), (1, .int x), (2, .int y), (3, .int z), (4, .int u_), (5, .int i_)]) hx hb dX8_palms_138 hl (k := 1) rfl rfl (by decide) rfl (fun ls hl => ?_)
                              refine lv_goto (tgt := 97) hx hb dX8_palms_141 (by decide) ?_
                              exact ih_34 _ _ _ _ _ (Nat.lt_of_lt_of_le hv.2 (Nat.le_of_lt_succ hI_35)) hv.1 hP hD hS (lv_sub hl [0, 2, 3, 4, 5, 6, 7, 8, 9, 10] rfl)
                            · have hv := hv.2 hc_40
                              refine lv_iload_n hx hb dX8_palms_120 rfl (lv_at hl 5 rfl) ?_
                              refine lv_i2l hx hb dX8_palms_121 rfl ?_
                              refine lv_goto (tgt := 128) hx hb dX8_palms_122 (by decide) ?_
                              obtain ⟨hin, hv⟩ := hv
                              refine va_last hx hb hKK.1 hP hD hS 1 2 rfl rfl hin dX8_palms_128 (fun H locs hP hD hS => ?_)
                              obtain ⟨fm1_50, ef⟩ : ∃ z9_, z9_ = (vp_updL fm1_30 ((160 + x7_11).toNatClampNeg) x.toInt64) := ⟨_, rfl⟩
                              have hP : va_P G.1 vwCl [(m0, .inr (8, [.ref m1, .ref m2, .ref m3, .ref m4, .ref m5, .ref m6, .ref m7, .ref m8, .ref m9, .int fu, .int fd, .int fi, .int nu, .int nw, .int nf, .int bf, .int bn, .ref m10, .int ts, .int ap, .int fs, .int ln, .int fo, .int fa, .ref m11, .ref m12, .ref m13, .ref m14, .int wr])), aJ G m1 560 fm1_50, aZ G m2 2 ik, aI G m3 20 zs, aI G m4 20 cl, aI G m5 20 hs, aI G m6 20 ks, aI G m7 20 wa, aI G m8 20 ne, aI G m9 4 mn, aI G m10 400 tx, aI G m11 6 th, aI G m12 6 od, aI G m13 30 bk, aI G m14 30 bh] H := by rw [ef]; exact hP
                              have hD : va_D A [(m0, .inr (8, [.ref m1, .ref m2, .ref m3, .ref m4, .ref m5, .ref m6, .ref m7, .ref m8, .ref m9, .int fu, .int fd, .int fi, .int nu, .int nw, .int nf, .int bf, .int bn, .ref m10, .int ts, .int ap, .int fs, .int ln, .int fo, .int fa, .ref m11, .ref m12, .ref m13, .ref m14, .int wr])), aJ G m1 560 fm1_50, aZ G m2 2 ik, aI G m3 20 zs, aI G m4 20 cl, aI G m5 20 hs, aI G m6 20 ks, aI G m7 20 wa, aI G m8 20 ne, aI G m9 4 mn, aI G m10 400 tx, aI G m11 6 th, aI G m12 6 od, aI G m13 30 bk, aI G m14 30 bh] := by rw [ef]; exact hD
                              have hv := hv fm1_50 ef
                              refine lv_aload_n hx hb dX8_palms_129 rfl (lv_at hl 4 rfl) ?_
                              refine lv_sipush (v := 140) hx hb dX8_palms_130 (by decide) ?_
                              obtain ⟨gT_51, gNs_52, gNp_53, gX_54, gv_55, gM_56, hv⟩ := hv
                              obtain ⟨hp, hv⟩ := hv
                              refine x_calli (wr := []) (w' := fun (u : (Nat → Int64)) => [(m0, .inr (8, [.ref m1, .ref m2, .ref m3, .ref m4, .ref m5, .ref m6, .ref m7, .ref m8, .ref m9, .int fu, .int fd, .int fi, .int nu, .int nw, .int nf, .int bf, .int bn, .ref m10, .int ts, .int ap, .int fs, .int ln, .int fo, .int fa, .ref m11, .ref m12, .ref m13, .ref m14, .int wr])), aJ G m1 560 u, aZ G m2 2 ik, aI G m3 20 zs, aI G m4 20 cl, aI G m5 20 hs, aI G m6 20 ks, aI G m7 20 wa, aI G m8 20 ne, aI G m9 4 mn, aI G m10 400 tx, aI G m11 6 th, aI G m12 6 od, aI G m13 30 bk, aI G m14 30 bh]) (x_runV (As := [.int 140]) (rest := []) (n := 1) (C := RX8) (ci := 8) ⟨hx, hb, hml, hown, hts⟩ (k_X8_pass l G m0 m1 m2 m3 m4 m5 m6 m7 m8 m9 m10 m11 m12 m13 m14 _ fm1_50 ik zs cl hs ks wa ne mn tx th od bk bh fu fd fi nu nw nf bf bn ts ap fs ln fo fa wr 140 gT_51 gNs_52 gNp_53 gX_54 gv_55 gM_56 hp) gX8_palms_X8_pass rfl (by decide +kernel) ⟨Nat.le_trans (Nat.le_of_ble_eq_true rfl) hRf, Nat.le_trans (Nat.le_of_ble_eq_true rfl) hRl⟩ hKK hSS hS hA hP hD [0, 1, 2, 3, 4, 5, 6, 7, 8, 9, 10, 11, 12, 13, 14] (by decide) rfl rfl rfl 0 rfl rfl hl.1 rfl (Nat.le_of_ble_eq_true rfl) dX8_palms_133) hP hD hS hA [0, 1, 2, 3, 4, 5, 6, 7, 8, 9, 10, 11, 12, 13, 14] [] [0, 1, 2, 3, 4, 5, 6, 7, 8, 9, 10, 11, 12, 13, 14] rfl rfl (by decide) (by decide) (by decide) (fun _ => rfl) (fun r_57 u H locs hw hP hD hS => ?_)
                              obtain ⟨mw2_58, rfl⟩ : ∃ z9_, z9_ = u := ⟨_, rfl⟩
                              have hP : va_P G.1 vwCl [(m0, .inr (8, [.ref m1, .ref m2, .ref m3, .ref m4, .ref m5, .ref m6, .ref m7, .ref m8, .ref m9, .int fu, .int fd, .int fi, .int nu, .int nw, .int nf, .int bf, .int bn, .ref m10, .int ts, .int ap, .int fs, .int ln, .int fo, .int fa, .ref m11, .ref m12, .ref m13, .ref m14, .int wr])), aJ G m1 560 mw2_58, aZ G m2 2 ik, aI G m3 20 zs, aI G m4 20 cl, aI G m5 20 hs, aI G m6 20 ks, aI G m7 20 wa, aI G m8 20 ne, aI G m9 4 mn, aI G m10 400 tx, aI G m11 6 th, aI G m12 6 od, aI G m13 30 bk, aI G m14 30 bh] H := hP
                              have hD : va_D A [(m0, .inr (8, [.ref m1, .ref m2, .ref m3, .ref m4, .ref m5, .ref m6, .ref m7, .ref m8, .ref m9, .int fu, .int fd, .int fi, .int nu, .int nw, .int nf, .int bf, .int bn, .ref m10, .int ts, .int ap, .int fs, .int ln, .int fo, .int fa, .ref m11, .ref m12, .ref m13, .ref m14, .int wr])), aJ G m1 560 mw2_58, aZ G m2 2 ik, aI G m3 20 zs, aI G m4 20 cl, aI G m5 20 hs, aI G m6 20 ks, aI G m7 20 wa, aI G m8 20 ne, aI G m9 4 mn, aI G m10 400 tx, aI G m11 6 th, aI G m12 6 od, aI G m13 30 bk, aI G m14 30 bh] := hD
                              have hv := hv r_57 mw2_58 hw
                              refine lv_istore (lv' := [(10, .int r_57), (9, .int x9_31), (8, .int x8_20), (7, .int x7_11), (6, .int x6_19), (0, .ref m0), (1, .int x), (2, .int y), (3, .int z), (4, .int u_), (5, .int i_)]) hx hb dX8_palms_136 hl (by decide) rfl (fun ls hl => ?_)
                              refine lv_iinc (v := (x9_31 + 1)) (lv' := [(9, .int (x9_31 + 1)), (10, .int r_57), (8, .int x8_20), (7, .int x7_11), (6, .int x6_19), (0, .ref m0), (1, .int x), (2, .int y), (3, .int z), (4, .int u_), (5, .int i_)]) hx hb dX8_palms_138 hl (k := 1) rfl rfl (by decide) rfl (fun ls hl => ?_)
                              refine lv_goto (tgt := 97) hx hb dX8_palms_141 (by decide) ?_
                              exact ih_34 _ _ _ _ _ (Nat.lt_of_lt_of_le hv.2 (Nat.le_of_lt_succ hI_35)) hv.1 hP hD hS (lv_sub hl [0, 2, 3, 4, 5, 6, 7, 8, 9, 10] rfl)
                      exact Lm_61 _ _ _ _ _ _ (Nat.lt_succ_self _) hi0 hP hD hS hl
                exact Lm_64 _ _ _ _ _ _ _ (Nat.lt_succ_self _) hi0 hP hD hS hl
          exact Lm_67 _ _ _ _ _ _ _ (Nat.lt_succ_self _) hi0 hP hD hS hl
        · have hv := hv.2 (tv_eq.mp hc_8)
          refine lv_ldc (v := (-1000000002)) hx hb hown kl73 dX8_palms_48 ?_
          exact x_iret (v := (-1000000002)) mw hQ hx hb hr hlocks hS dX8_palms_50 hv hP hD
  · have hv := hv.2 (tv_eq.mp hc_2)
    refine lv_ldc (v := (-1000000001)) hx hb hown kl164 dX8_palms_8 ?_
    exact x_iret (v := (-1000000001)) mw hQ hx hb hr hlocks hS dX8_palms_10 hv hP hD
theorem v_X8_palms (l : Launch) (G : Gt) (m0 m1 m2 m3 m4 m5 m6 m7 m8 m9 m10 m11 m12 m13 m14 : Nat) (sz : Nat) (mw : Nat → Int64) (ik : Nat → Int32) (zs : Nat → Int32) (cl : Nat → Int32) (hs : Nat → Int32) (ks : Nat → Int32) (wa : Nat → Int32) (ne : Nat → Int32) (mn : Nat → Int32) (tx : Nat → Int32) (th : Nat → Int32) (od : Nat → Int32) (bk : Nat → Int32) (bh : Nat → Int32) (fu : Int32) (fd : Int32) (fi : Int32) (nu : Int32) (nw : Int32) (nf : Int32) (bf : Int32) (bn : Int32) (ts : Int32) (ap : Int32) (fs : Int32) (ln : Int32) (fo : Int32) (fa : Int32) (wr : Int32) (x : Int32) (y : Int32) (z : Int32) (u_ : Int32) (i_ : Int32) (T : Nat → Nat → Int) (Ns : Nat) (Np : Nat) (v : Nat → Int) (M : Int) (hp : TOK T Ns Np ∧ MT T Ns Np fu fd fi zs cl ks ne mn ∧ MR 0 mw v ∧ NOK T Ns Np (fun _ => 2 * M) M v ∧ M ≤ 900000) : (inR x (mn 0) → (¬ (¬ y.toInt64 < 1 ∧ ¬ 60 < y.toInt64) → ((-1000000002) : Int32).toInt = aPalms T Ns Np v x.toInt y.toInt z.toInt u_.toInt i_.toInt ∧ MF 140 mw mw) ∧ (¬ y.toInt64 < 1 ∧ ¬ 60 < y.toInt64 → (¬ (¬ z.toInt64 < 0 ∧ ¬ 9999 < z.toInt64) → ((-1000000002) : Int32).toInt = aPalms T Ns Np v x.toInt y.toInt z.toInt u_.toInt i_.toInt ∧ MF 140 mw mw) ∧ (¬ z.toInt64 < 0 ∧ ¬ 9999 < z.toInt64 → (¬ u_.toInt64 < 0 ∧ ¬ 9999 < u_.toInt64 → ∃ (I57_12 : (Nat → Int64) → Int32 → Int32 → Prop) (μ57_13 : (Nat → Int64) → Int32 → Int32 → Nat), I57_12 mw 0 0 ∧ (∀ (fm1_9 : (Nat → Int64)) (x6_10 : Int32) (x7_11 : Int32), I57_12 fm1_9 x6_10 x7_11 → ((mn 1) ≤ x7_11 → (¬ i_ = (-1) → ((-1) : Int32).toInt = aPalms T Ns Np v x.toInt y.toInt z.toInt u_.toInt i_.toInt ∧ MF 140 mw fm1_9) ∧ (i_ = (-1) → x6_10.toInt = aPalms T Ns Np v x.toInt y.toInt z.toInt u_.toInt i_.toInt ∧ MF 140 mw fm1_9)) ∧ (¬ ((mn 1) ≤ x7_11) → ∃ (I71_21 : (Nat → Int64) → Int32 → Int32 → Prop) (μ71_22 : (Nat → Int64) → Int32 → Int32 → Nat), I71_21 fm1_9 x6_10 1 ∧ (∀ (fm1_18 : (Nat → Int64)) (x6_19 : Int32) (x8_20 : Int32), I71_21 fm1_18 x6_19 x8_20 → (y < x8_20 → I57_12 fm1_18 x6_19 (x7_11 + 1) ∧ μ57_13 fm1_18 x6_19 (x7_11 + 1) < μ57_13 fm1_9 x6_10 x7_11) ∧ (¬ (y < x8_20) → ∃ (gv_26 : Nat → Int), ((MR 0 fm1_18 gv_26) ∧ (∀ (mw2_28 : Nat → Int64), (MR 140 mw2_28 (zUp gv_26) ∧ MF 140 fm1_18 mw2_28) → ((vp_in (160 + x7_11) 560) ∧ (∀ (fm1_29 : (Nat → Int64)), (fm1_29 = (vp_updL mw2_28 ((160 + x7_11).toNatClampNeg) x.toInt64)) → (∃ (I97_32 : (Nat → Int64) → Int32 → Prop) (μ97_33 : (Nat → Int64) → Int32 → Nat), I97_32 fm1_29 0 ∧ (∀ (fm1_30 : (Nat → Int64)) (x9_31 : Int32), I97_32 fm1_30 x9_31 → (y ≤ x9_31 → (vp_in (140 + x) 560) ∧ ((¬ (¬ (fm1_30 (140 + x).toNatClampNeg) < ((z - u_).toInt64) ∧ ¬ ((z + u_).toInt64) < (fm1_30 (140 + x).toNatClampNeg)) → I71_21 fm1_30 x6_19 (x8_20 + 1) ∧ μ71_22 fm1_30 x6_19 (x8_20 + 1) < μ71_22 fm1_18 x6_19 x8_20) ∧ (¬ (fm1_30 (140 + x).toNatClampNeg) < ((z - u_).toInt64) ∧ ¬ ((z + u_).toInt64) < (fm1_30 (140 + x).toNatClampNeg) → (¬ x6_19 = i_ → I71_21 fm1_30 (x6_19 + 1) (x8_20 + 1) ∧ μ71_22 fm1_30 (x6_19 + 1) (x8_20 + 1) < μ71_22 fm1_18 x6_19 x8_20) ∧ (x6_19 = i_ → ((100 * x7_11) + x8_20).toInt = aPalms T Ns Np v x.toInt y.toInt z.toInt u_.toInt i_.toInt ∧ MF 140 mw fm1_30)))) ∧ (¬ (y ≤ x9_31) → (x8_20 ≤ x9_31 → (vp_in (160 + x7_11) 560) ∧ (∀ (fm1_41 : (Nat → Int64)), (fm1_41 = (vp_updL fm1_30 ((160 + x7_11).toNatClampNeg) (-1))) → (∃ (gT_42 : Nat → Nat → Int) (gNs_43 : Nat) (gNp_44 : Nat) (gX_45 : Nat) (gv_46 : Nat → Int) (gM_47 : Int), ((TOK gT_42 gNs_43 gNp_44 ∧ MT gT_42 gNs_43 gNp_44 fu fd fi zs cl ks ne mn ∧ (140 : Int32) = nI gX_45 ∧ gX_45 + 140 ≤ 560 ∧ MR gX_45 fm1_41 gv_46 ∧ NOK gT_42 gNs_43 gNp_44 (fun _ => 2 * gM_47) gM_47 gv_46 ∧ gM_47 ≤ 1000000) ∧ (∀ (r_48 : Int32) (mw2_49 : Nat → Int64), (r_48 = nI (zCs gT_42 (zPass gT_42 gNs_43 gNp_44 gv_46) gNp_44) ∧ MR gX_45 mw2_49 (zPass gT_42 gNs_43 gNp_44 gv_46) ∧ MF gX_45 fm1_41 mw2_49) → (I97_32 mw2_49 (x9_31 + 1) ∧ μ97_33 mw2_49 (x9_31 + 1) < μ97_33 fm1_30 x9_31)))))) ∧ (¬ (x8_20 ≤ x9_31) → (vp_in (160 + x7_11) 560) ∧ (∀ (fm1_50 : (Nat → Int64)), (fm1_50 = (vp_updL fm1_30 ((160 + x7_11).toNatClampNeg) x.toInt64)) → (∃ (gT_51 : Nat → Nat → Int) (gNs_52 : Nat) (gNp_53 : Nat) (gX_54 : Nat) (gv_55 : Nat → Int) (gM_56 : Int), ((TOK gT_51 gNs_52 gNp_53 ∧ MT gT_51 gNs_52 gNp_53 fu fd fi zs cl ks ne mn ∧ (140 : Int32) = nI gX_54 ∧ gX_54 + 140 ≤ 560 ∧ MR gX_54 fm1_50 gv_55 ∧ NOK gT_51 gNs_52 gNp_53 (fun _ => 2 * gM_56) gM_56 gv_55 ∧ gM_56 ≤ 1000000) ∧ (∀ (r_57 : Int32) (mw2_58 : Nat → Int64), (r_57 = nI (zCs gT_51 (zPass gT_51 gNs_52 gNp_53 gv_55) gNp_53) ∧ MR gX_54 mw2_58 (zPass gT_51 gNs_52 gNp_53 gv_55) ∧ MF gX_54 fm1_50 mw2_58) → (I97_32 mw2_58 (x9_31 + 1) ∧ μ97_33 mw2_58 (x9_31 + 1) < μ97_33 fm1_30 x9_31)))))))))))))))))) ∧ (¬ (¬ u_.toInt64 < 0 ∧ ¬ 9999 < u_.toInt64) → ((-1000000002) : Int32).toInt = aPalms T Ns Np v x.toInt y.toInt z.toInt u_.toInt i_.toInt ∧ MF 140 mw mw)))) ∧ (¬ (inR x (mn 0)) → ((-1000000001) : Int32).toInt = aPalms T Ns Np v x.toInt y.toInt z.toInt u_.toInt i_.toInt ∧ MF 140 mw mw) := by
  obtain ⟨hT, hC, hR, hO, hM⟩ := hp
  have t1 := hT.1
  have t2 := hT.2.1
  have hnp := hC.2.1
  have hs_ := inR_iff (x := x) hC.1 (by omega)
  have ey : y.toInt64.toInt = y.toInt := i_l rfl
  have hy_ : (¬ y.toInt64 < 1 ∧ ¬ 60 < y.toInt64) ↔ (1 ≤ y.toInt ∧ y.toInt ≤ 60) := by
    rw [l_lt ey (show (1 : Int64).toInt = 1 from rfl), l_lt (show (60 : Int64).toInt = 60 from rfl) ey]
    omega
  have ez : z.toInt64.toInt = z.toInt := i_l rfl
  have hz_ : (¬ z.toInt64 < 0 ∧ ¬ 9999 < z.toInt64) ↔ (0 ≤ z.toInt ∧ z.toInt ≤ 9999) := by
    rw [l_lt ez (show (0 : Int64).toInt = 0 from rfl), l_lt (show (9999 : Int64).toInt = 9999 from rfl) ez]
    omega
  have eu : u_.toInt64.toInt = u_.toInt := i_l rfl
  have hu_ : (¬ u_.toInt64 < 0 ∧ ¬ 9999 < u_.toInt64) ↔ (0 ≤ u_.toInt ∧ u_.toInt ≤ 9999) := by
    rw [l_lt eu (show (0 : Int64).toInt = 0 from rfl), l_lt (show (9999 : Int64).toInt = 9999 from rfl) eu]
    omega
  simp only [hs_, hy_, hz_, hu_]
  refine ⟨fun hx => ⟨fun h => by rw [aPalms, if_pos hx, if_neg (fun z => h z.1)]; exact ⟨rfl, MF.rf 140 mw⟩, fun hy => ⟨fun h => by rw [aPalms, if_pos hx, if_neg (fun z => h z.2.1)]; exact ⟨rfl, MF.rf 140 mw⟩, fun hw0 => ⟨fun hw1 => ?_, fun h => by rw [aPalms, if_pos hx, if_neg (fun z => h z.2.2)]; exact ⟨rfl, MF.rf 140 mw⟩⟩⟩⟩, fun h => by rw [aPalms, if_neg h]; exact ⟨rfl, MF.rf 140 mw⟩⟩
  rw [aPalms, if_pos hx, if_pos ⟨hy, hw0, hw1⟩]
  obtain ⟨b, hb, rfl, hxi, hxt⟩ := in_nat hx (by omega)
  obtain ⟨m, hm, rfl, hyi, hyt⟩ := in_nat (x := y) (n := 61) (by omega) (by omega)
  rw [hxt, hyt]
  have eb : 140 + nI b = nI (140 + b) := ix1 140 b
  have cb : (nI (140 + b)).toNatClampNeg = 140 + b := nI_clamp (by omega)
  have vb : vp_in (nI (140 + b)) 560 := vp_in_nI (by omega) (by omega)
  have elb : (nI b).toInt64.toInt = (b : Int) := i_l hxi
  generalize hmt : pMt T v b m z.toInt u_.toInt = mt
  refine ⟨fun w c q => ∃ p, p ≤ Np ∧ q = nI p ∧ (pOut mt i_.toInt m p).2 = none ∧ c.toInt = (pOut mt i_.toInt m p).1 ∧ 0 ≤ c.toInt ∧ c.toInt ≤ p * 60 ∧ MF 140 mw w, fun _ _ z => 9 - z.toNatClampNeg, ⟨0, by omega, rfl, rfl, rfl, by decide, by decide, MF.rf 140 mw⟩, ?_⟩
  rintro w c q ⟨p, hp, rfl, hn0, hc0, hc1, hc2, hF⟩
  have ep : (nI p).toNatClampNeg = p := nI_clamp (by omega)
  have ep1 : nI p + 1 = nI (p + 1) := nI_1 p
  have ep2 : (nI (p + 1)).toNatClampNeg = p + 1 := nI_clamp (by omega)
  have e160 : 160 + nI p = nI (160 + p) := ix1 160 p
  have c160 : (nI (160 + p)).toNatClampNeg = 140 + (20 + p) := by rw [nI_clamp (by omega)]; omega
  have v160 : vp_in (nI (160 + p)) 560 := vp_in_nI (by omega) (by omega)
  simp only [ep, ep1, ep2, e160, c160, eb, cb, hnp]
  refine ⟨fun h => ?_, fun h => ?_⟩
  · have e : Np = p := by have := (nI_leI (a := Np) (b := p) (by omega) (by omega)).mp h; omega
    subst e
    have hw2 : i_ = -1 ↔ i_.toInt = -1 := i_eq rfl rfl
    refine ⟨fun q => ⟨?_, hF⟩, fun q => ⟨?_, hF⟩⟩
    · rw [pAns, hn0]; dsimp only; rw [if_neg (fun z => q (hw2.mpr z))]; rfl
    · rw [pAns, hn0]; dsimp only; rw [if_pos (hw2.mp q)]; exact hc0
  have hlt : p < Np := by
    rcases Nat.lt_or_ge p Np with q | q
    · exact q
    · exact absurd ((nI_leI (by omega) (by omega)).mpr q) h
  refine ⟨fun w c q => ∃ j, j ≤ m ∧ q = nI (j + 1) ∧ (pIn mt i_.toInt p (pOut mt i_.toInt m p) j).2 = none ∧ c.toInt = (pIn mt i_.toInt p (pOut mt i_.toInt m p) j).1 ∧ 0 ≤ c.toInt ∧ c.toInt ≤ p * 60 + j ∧ MF 140 mw w, fun _ _ z => 61 - z.toNatClampNeg, ⟨0, by omega, rfl, hn0, hc0, hc1, by omega, hF⟩, ?_⟩
  rintro w c q ⟨j, hj, rfl, hn, hc, hc3, hc4, hF⟩
  have ej : (nI (j + 1)).toNatClampNeg = j + 1 := nI_clamp (by omega)
  have ej1 : nI (j + 1) + 1 = nI (j + 1 + 1) := nI_1 (j + 1)
  have ej2 : (nI (j + 1 + 1)).toNatClampNeg = j + 1 + 1 := nI_clamp (by omega)
  simp only [ej1, ej2, ej]
  have hlm : nI m < nI (j + 1) ↔ m < j + 1 := by
    rw [i_lt (nI_toInt (by omega)) (nI_toInt (by omega))]; omega
  rw [hlm]
  refine ⟨fun q => ?_, fun q => ?_⟩
  · have e : j = m := by omega
    subst e
    exact ⟨⟨p + 1, by omega, rfl, hn, hc, hc3, by omega, hF⟩, by omega⟩
  have hR0 : MR 0 w v := fun i hi => by rw [hF _ (by omega)]; exact hR i hi
  refine ⟨v, hR0, fun w1 hw1_ => ⟨v160, fun w2 ew2 => ?_⟩⟩
  have hR2 : MR 140 w2 (uz (zUp v) (20 + p) (b : Int)) := by rw [ew2]; exact hw1_.1.up elb
  have hF2 : MF 140 mw w2 := by rw [ew2]; exact (hF.tr hw1_.2).up (by omega)
  refine ⟨fun w q => ∃ t, t ≤ m ∧ q = nI t ∧ MR 140 w (pRow T Ns Np v p b (j + 1) t) ∧ MF 140 mw w, fun _ z => 61 - z.toNatClampNeg, ⟨0, by omega, rfl, by unfold pRow; rw [if_pos (Nat.zero_le _), zGo]; exact hR2, hF2⟩, ?_⟩
  rintro w3 q ⟨t, ht, rfl, hR3, hF3⟩
  have et : (nI t).toNatClampNeg = t := nI_clamp (by omega)
  have et1 : nI t + 1 = nI (t + 1) := nI_1 t
  have et2 : (nI (t + 1)).toNatClampNeg = t + 1 := nI_clamp (by omega)
  simp only [et, et1, et2]
  have hmt1 : nI m ≤ nI t ↔ m ≤ t := nI_leI (by omega) (by omega)
  have hjt : nI (j + 1) ≤ nI t ↔ j + 1 ≤ t := nI_leI (by omega) (by omega)
  rw [hmt1, hjt]
  have hOt := pRow_ok hT hO hlt hb (j + 1) t
  refine ⟨fun q1 => ⟨vb, ?_⟩, fun q1 => ⟨fun q2 => ⟨v160, fun w4 ew4 => ?_⟩, fun q2 => ⟨v160, fun w4 ew4 => ?_⟩⟩⟩
  · have e : t = m := by omega
    subst e
    have ef : (w3 (140 + b)).toInt = pFelt T v b t p (j + 1) := by rw [hR3 b (by omega)]; exact pRow_felt hT hO hlt hb (by omega)
    have hmt2 : mt p (j + 1) = true ↔ (z.toInt - u_.toInt ≤ pFelt T v b t p (j + 1) ∧ pFelt T v b t p (j + 1) ≤ z.toInt + u_.toInt) := by rw [← hmt]; exact decide_eq_true_iff
    generalize pFelt T v b t p (j + 1) = fe at ef hmt2
    have hcmp : (¬ w3 (140 + b) < (z - u_).toInt64 ∧ ¬ (z + u_).toInt64 < w3 (140 + b)) ↔ mt p (j + 1) = true := by
      rw [l_lt ef (i_l (i_sub (show z.toInt = z.toInt from rfl) (show u_.toInt = u_.toInt from rfl) (by omega) (by omega))), l_lt (i_l (i_add (show z.toInt = z.toInt from rfl) (show u_.toInt = u_.toInt from rfl) (by omega) (by omega))) ef, hmt2]
      omega
    simp only [hcmp]
    have hcw : c = i_ ↔ (pIn mt i_.toInt p (pOut mt i_.toInt t p) j).1 = i_.toInt := i_eq hc rfl
    refine ⟨fun q1 => ⟨⟨j + 1, by omega, rfl, ?_, ?_, hc3, by omega, hF3⟩, by omega⟩, fun q1 => ⟨fun q2 => ⟨⟨j + 1, by omega, rfl, ?_, ?_, ?_, ?_, hF3⟩, by omega⟩, fun q2 => ⟨?_, hF3⟩⟩⟩
    · rw [pIn, pStep_no q1]; exact hn
    · rw [pIn, pStep_no q1]; exact hc
    · rw [pIn, pStep_more hn q1 (fun z => q2 (hcw.mpr z))]
    · rw [pIn, pStep_more hn q1 (fun z => q2 (hcw.mpr z))]
      exact i_add hc i32_1 (by omega) (by omega)
    · rw [i_add (show c.toInt = c.toInt from rfl) i32_1 (by omega) (by omega)]; omega
    · rw [i_add (show c.toInt = c.toInt from rfl) i32_1 (by omega) (by omega)]; omega
    · have h3 := pStep_hit hn q1 (hcw.mp q2)
      rw [pAns_in (p := p) (j := j + 1) hlt (by omega) (by rw [pIn, h3])]
      rw [i_add (i_mul (show (100 : Int32).toInt = 100 from rfl) (nI_toInt (by omega)) (by omega) (by omega)) (nI_toInt (by omega)) (by omega) (by omega)]
  · have hR4 : MR 140 w4 (uz (pRow T Ns Np v p b (j + 1) t) (20 + p) (-1)) := by rw [ew4]; exact hR3.up rfl
    have hF4 : MF 140 mw w4 := by rw [ew4]; exact hF3.up (by omega)
    refine ⟨T, Ns, Np, 140, _, M + t, ⟨hT, hC, rfl, by omega, hR4, NOK_seat hT hOt hlt (Or.inl rfl), by omega⟩, fun r w5 hw5 => ⟨⟨t + 1, by omega, rfl, ?_, hF4.tr hw5.2.2⟩, by omega⟩⟩
    rw [← pRow_up hT hO hlt hb q2]; exact hw5.2.1
  · have hR4 : MR 140 w4 (uz (pRow T Ns Np v p b (j + 1) t) (20 + p) (b : Int)) := by rw [ew4]; exact hR3.up elb
    have hF4 : MF 140 mw w4 := by rw [ew4]; exact hF3.up (by omega)
    have e0 : pRow T Ns Np v p b (j + 1) t (20 + p) = (b : Int) := by
      unfold pRow
      rw [if_pos (by omega), (zGo_split hT (pR0_ok hT hO hlt hb) t).1 p hlt, uz_eq]
    refine ⟨T, Ns, Np, 140, _, M + t, ⟨hT, hC, rfl, by omega, hR4, by rw [uz_same e0.symm]; exact hOt, by omega⟩, fun r w5 hw5 => ⟨⟨t + 1, by omega, rfl, ?_, hF4.tr hw5.2.2⟩, by omega⟩⟩
    rw [← pRow_sit hT hO hlt hb (show t < j + 1 by omega)]; exact hw5.2.1
theorem k_X8_palms (l : Launch) (G : Gt) (m0 m1 m2 m3 m4 m5 m6 m7 m8 m9 m10 m11 m12 m13 m14 : Nat) (sz : Nat) (mw : Nat → Int64) (ik : Nat → Int32) (zs : Nat → Int32) (cl : Nat → Int32) (hs : Nat → Int32) (ks : Nat → Int32) (wa : Nat → Int32) (ne : Nat → Int32) (mn : Nat → Int32) (tx : Nat → Int32) (th : Nat → Int32) (od : Nat → Int32) (bk : Nat → Int32) (bh : Nat → Int32) (fu : Int32) (fd : Int32) (fi : Int32) (nu : Int32) (nw : Int32) (nf : Int32) (bf : Int32) (bn : Int32) (ts : Int32) (ap : Int32) (fs : Int32) (ln : Int32) (fo : Int32) (fa : Int32) (wr : Int32) (x : Int32) (y : Int32) (z : Int32) (u_ : Int32) (i_ : Int32) (T : Nat → Nat → Int) (Ns : Nat) (Np : Nat) (v : Nat → Int) (M : Int) (hp : TOK T Ns Np ∧ MT T Ns Np fu fd fi zs cl ks ne mn ∧ MR 0 mw v ∧ NOK T Ns Np (fun _ => 2 * M) M v ∧ M ≤ 900000) : MetI l yX8_palms wsX8_palms 4 101 G [.ref m0, .int x, .int y, .int z, .int u_, .int i_] [(m0, .inr (8, [.ref m1, .ref m2, .ref m3, .ref m4, .ref m5, .ref m6, .ref m7, .ref m8, .ref m9, .int fu, .int fd, .int fi, .int nu, .int nw, .int nf, .int bf, .int bn, .ref m10, .int ts, .int ap, .int fs, .int ln, .int fo, .int fa, .ref m11, .ref m12, .ref m13, .ref m14, .int wr])), aJ G m1 560 mw, aZ G m2 2 ik, aI G m3 20 zs, aI G m4 20 cl, aI G m5 20 hs, aI G m6 20 ks, aI G m7 20 wa, aI G m8 20 ne, aI G m9 4 mn, aI G m10 400 tx, aI G m11 6 th, aI G m12 6 od, aI G m13 30 bk, aI G m14 30 bh] sz (fun (r : Int32) (u : (Nat → Int64)) => r.toInt = aPalms T Ns Np v x.toInt y.toInt z.toInt u_.toInt i_.toInt ∧ MF 140 mw u) (fun (u : (Nat → Int64)) => [(m0, .inr (8, [.ref m1, .ref m2, .ref m3, .ref m4, .ref m5, .ref m6, .ref m7, .ref m8, .ref m9, .int fu, .int fd, .int fi, .int nu, .int nw, .int nf, .int bf, .int bn, .ref m10, .int ts, .int ap, .int fs, .int ln, .int fo, .int fa, .ref m11, .ref m12, .ref m13, .ref m14, .int wr])), aJ G m1 560 u, aZ G m2 2 ik, aI G m3 20 zs, aI G m4 20 cl, aI G m5 20 hs, aI G m6 20 ks, aI G m7 20 wa, aI G m8 20 ne, aI G m9 4 mn, aI G m10 400 tx, aI G m11 6 th, aI G m12 6 od, aI G m13 30 bk, aI G m14 30 bh]) :=
  c_X8_palms l G m0 m1 m2 m3 m4 m5 m6 m7 m8 m9 m10 m11 m12 m13 m14 sz mw ik zs cl hs ks wa ne mn tx th od bk bh fu fd fi nu nw nf bf bn ts ap fs ln fo fa wr x y z u_ i_ T Ns Np v M (v_X8_palms l G m0 m1 m2 m3 m4 m5 m6 m7 m8 m9 m10 m11 m12 m13 m14 sz mw ik zs cl hs ks wa ne mn tx th od bk bh fu fd fi nu nw nf bf bn ts ap fs ln fo fa wr x y z u_ i_ T Ns Np v M hp)
