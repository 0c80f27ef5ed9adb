set_option maxHeartbeats 4000000 in
set_option maxRecDepth 100000 in
theorem c_X8_fault (l : Launch) (G : Gt) (m0 m1 m2 m3 m4 m5 m6 m7 m8 m9 m10 m11 m12 m13 m14 : Nat) (sz : Nat) (mw : Nat → Int64) (ik : Nat → Int32) (zs : Nat → Int32) (cl : Nat → Int32) (hs : Nat → Int32) (ks : Nat → Int32) (wa : Nat → Int32) (ne : Nat → Int32) (mn : Nat → Int32) (tx : Nat → Int32) (th : Nat → Int32) (od : Nat → Int32) (bk : Nat → Int32) (bh : Nat → Int32) (fu : Int32) (fd : Int32) (fi : Int32) (nu : Int32) (nw : Int32) (nf : Int32) (bf : Int32) (bn : Int32) (ts : Int32) (ap : Int32) (fs : Int32) (ln : Int32) (fo : Int32) (fa : Int32) (wr : Int32) (hv : (fa : Int32) = fa) : MetI l yX8_fault wsX8_fault 0 0 G [.ref m0] [(m0, .inr (8, [.ref m1, .ref m2, .ref m3, .ref m4, .ref m5, .ref m6, .ref m7, .ref m8, .ref m9, .int fu, .int fd, .int fi, .int nu, .int nw, .int nf, .int bf, .int bn, .ref m10, .int ts, .int ap, .int fs, .int ln, .int fo, .int fa, .ref m11, .ref m12, .ref m13, .ref m14, .int wr])), aJ G m1 560 mw, aZ G m2 2 ik, aI G m3 20 zs, aI G m4 20 cl, aI G m5 20 hs, aI G m6 20 ks, aI G m7 20 wa, aI G m8 20 ne, aI G m9 4 mn, aI G m10 400 tx, aI G m11 6 th, aI G m12 6 od, aI G m13 30 bk, aI G m14 30 bh] sz (fun (r : Int32) (_ : Unit) => (r : Int32) = fa) (fun (_ : Unit) => [(m0, .inr (8, [.ref m1, .ref m2, .ref m3, .ref m4, .ref m5, .ref m6, .ref m7, .ref m8, .ref m9, .int fu, .int fd, .int fi, .int nu, .int nw, .int nf, .int bf, .int bn, .ref m10, .int ts, .int ap, .int fs, .int ln, .int fo, .int fa, .ref m11, .ref m12, .ref m13, .ref m14, .int wr])), aJ G m1 560 mw, aZ G m2 2 ik, aI G m3 20 zs, aI G m4 20 cl, aI G m5 20 hs, aI G m6 20 ks, aI G m7 20 wa, aI G m8 20 ne, aI G m9 4 mn, aI G m10 400 tx, aI G m11 6 th, aI G m12 6 od, aI G m13 30 bk, aI G m14 30 bh]) := by
  refine x_startI (cc := cX8_fault) (maxL := 1) (ret := (some .int)) (by decide) rfl (Nat.le_of_ble_eq_true rfl) ?_
  intro p e s m args below meth c A R Q ls hRf hRl hQ C hP hD hS hA hSS hl
  obtain ⟨hx, hb, hr, hml, hown, hts, hlocks, hKK⟩ := C
  have hown : s.vm.findClass RX8 = some m.cls := hown
  have hl : lv_has ls 1 [(0, .ref m0)] := hl
  have hinX8 : ∀ w ∈ u_ws RX8 TX8 29, w ∈ wsX8_fault := by decide +kernel
  have kl49 := hts (.fieldLink RX8 49 "WarmStonesModel" "fault" "I") (by decide +kernel)
  refine lv_aload_n hx hb dX8_fault_0 rfl (lv_at hl 0 rfl) ?_
  refine va_get (D := G.1) (ci := 8) (v := .int fa) (C := RX8) (T := TX8) (N := 29) hx hb hts hinX8 hown hKK.1 hP 0 rfl rfl 23 (by decide) kl49 (fun _ h9 => h9) rfl dX8_fault_1 ?_
  exact x_iret (v := fa) () hQ hx hb hr hlocks hS dX8_fault_4 hv hP hD
theorem v_X8_fault (l : Launch) (G : Gt) (m0 m1 m2 m3 m4 m5 m6 m7 m8 m9 m10 m11 m12 m13 m14 : Nat) (sz : Nat) (mw : Nat → Int64) (ik : Nat → Int32) (zs : Nat → Int32) (cl : Nat → Int32) (hs : Nat → Int32) (ks : Nat → Int32) (wa : Nat → Int32) (ne : Nat → Int32) (mn : Nat → Int32) (tx : Nat → Int32) (th : Nat → Int32) (od : Nat → Int32) (bk : Nat → Int32) (bh : Nat → Int32) (fu : Int32) (fd : Int32) (fi : Int32) (nu : Int32) (nw : Int32) (nf : Int32) (bf : Int32) (bn : Int32) (ts : Int32) (ap : Int32) (fs : Int32) (ln : Int32) (fo : Int32) (fa : Int32) (wr : Int32) : (fa : Int32) = fa := by
  rfl
theorem k_X8_fault (l : Launch) (G : Gt) (m0 m1 m2 m3 m4 m5 m6 m7 m8 m9 m10 m11 m12 m13 m14 : Nat) (sz : Nat) (mw : Nat → Int64) (ik : Nat → Int32) (zs : Nat → Int32) (cl : Nat → Int32) (hs : Nat → Int32) (ks : Nat → Int32) (wa : Nat → Int32) (ne : Nat → Int32) (mn : Nat → Int32) (tx : Nat → Int32) (th : Nat → Int32) (od : Nat → Int32) (bk : Nat → Int32) (bh : Nat → Int32) (fu : Int32) (fd : Int32) (fi : Int32) (nu : Int32) (nw : Int32) (nf : Int32) (bf : Int32) (bn : Int32) (ts : Int32) (ap : Int32) (fs : Int32) (ln : Int32) (fo : Int32) (fa : Int32) (wr : Int32) : MetI l yX8_fault wsX8_fault 0 0 G [.ref m0] [(m0, .inr (8, [.ref m1, .ref m2, .ref m3, .ref m4, .ref m5, .ref m6, .ref m7, .ref m8, .ref m9, .int fu, .int fd, .int fi, .int nu, .int nw, .int nf, .int bf, .int bn, .ref m10, .int ts, .int ap, .int fs, .int ln, .int fo, .int fa, .ref m11, .ref m12, .ref m13, .ref m14, .int wr])), aJ G m1 560 mw, aZ G m2 2 ik, aI G m3 20 zs, aI G m4 20 cl, aI G m5 20 hs, aI G m6 20 ks, aI G m7 20 wa, aI G m8 20 ne, aI G m9 4 mn, aI G m10 400 tx, aI G m11 6 th, aI G m12 6 od, aI G m13 30 bk, aI G m14 30 bh] sz (fun (r : Int32) (_ : Unit) => (r : Int32) = fa) (fun (_ : Unit) => [(m0, .inr (8, [.ref m1, .ref m2, .ref m3, .ref m4, .ref m5, .ref m6, .ref m7, .ref m8, .ref m9, .int fu, .int fd, .int fi, .int nu, .int nw, .int nf, .int bf, .int bn, .ref m10, .int ts, .int ap, .int fs, .int ln, .int fo, .int fa, .ref m11, .ref m12, .ref m13, .ref m14, .int wr])), aJ G m1 560 mw, aZ G m2 2 ik, aI G m3 20 zs, aI G m4 20 cl, aI G m5 20 hs, aI G m6 20 ks, aI G m7 20 wa, aI G m8 20 ne, aI G m9 4 mn, aI G m10 400 tx, aI G m11 6 th, aI G m12 6 od, aI G m13 30 bk, aI G m14 30 bh]) :=
  c_X8_fault l G m0 m1 m2 m3 m4 m5 m6 m7 m8 m9 m10 m11 m12 m13 m14 sz mw ik zs cl hs ks wa ne mn tx th od bk bh fu fd fi nu nw nf bf bn ts ap fs ln fo fa wr (v_X8_fault l G m0 m1 m2 m3 m4 m5 m6 m7 m8 m9 m10 m11 m12 m13 m14 sz mw ik zs cl hs ks wa ne mn tx th od bk bh fu fd fi nu nw nf bf bn ts ap fs ln fo fa wr)

set_option maxHeartbeats 4000000 in
set_option maxRecDepth 100000 in
theorem c_X8_coldMinutes (l : Launch) (G : Gt) (m0 m1 m2 m3 m4 m5 m6 m7 m8 m9 m10 m11 m12 m13 m14 : Nat) (sz : Nat) (mw : Nat → Int64) (ik : Nat → Int32) (zs : Nat → Int32) (cl : Nat → Int32) (hs : Nat → Int32) (ks : Nat → Int32) (wa : Nat → Int32) (ne : Nat → Int32) (mn : Nat → Int32) (tx : Nat → Int32) (th : Nat → Int32) (od : Nat → Int32) (bk : Nat → Int32) (bh : Nat → Int32) (fu : Int32) (fd : Int32) (fi : Int32) (nu : Int32) (nw : Int32) (nf : Int32) (bf : Int32) (bn : Int32) (ts : Int32) (ap : Int32) (fs : Int32) (ln : Int32) (fo : Int32) (fa : Int32) (wr : Int32) (x : Int32) (T : Nat → Nat → Int) (Ns : Nat) (Np : Nat) (X : Nat) (v : Nat → Int) (M : Int) (hv : ∃ (I5_3 : Int64 → Int32 → Prop) (μ5_4 : Int64 → Int32 → Nat), I5_3 0 0 ∧ (∀ (x2_1 : Int64) (x4_2 : Int32), I5_3 x2_1 x4_2 → ((mn 1) ≤ x4_2 → x2_1.toInt = zSum v 30 Np) ∧ (¬ ((mn 1) ≤ x4_2) → (vp_in ((x + 30) + x4_2) 560) ∧ (∀ (y_8 : Int64), (y_8 = (x2_1 + (mw ((x + 30) + x4_2).toNatClampNeg))) → (I5_3 y_8 (x4_2 + 1) ∧ μ5_4 y_8 (x4_2 + 1) < μ5_4 x2_1 x4_2))))) : MetL l yX8_coldMinutes wsX8_coldMinutes 0 0 G [.ref m0, .int x] [(m0, .inr (8, [.ref m1, .ref m2, .ref m3, .ref m4, .ref m5, .ref m6, .ref m7, .ref m8, .ref m9, .int fu, .int fd, .int fi, .int nu, .int nw, .int nf, .int bf, .int bn, .ref m10, .int ts, .int ap, .int fs, .int ln, .int fo, .int fa, .ref m11, .ref m12, .ref m13, .ref m14, .int wr])), aJ G m1 560 mw, aZ G m2 2 ik, aI G m3 20 zs, aI G m4 20 cl, aI G m5 20 hs, aI G m6 20 ks, aI G m7 20 wa, aI G m8 20 ne, aI G m9 4 mn, aI G m10 400 tx, aI G m11 6 th, aI G m12 6 od, aI G m13 30 bk, aI G m14 30 bh] sz (fun (r : Int64) (_ : Unit) => r.toInt = zSum v 30 Np) (fun (_ : Unit) => [(m0, .inr (8, [.ref m1, .ref m2, .ref m3, .ref m4, .ref m5, .ref m6, .ref m7, .ref m8, .ref m9, .int fu, .int fd, .int fi, .int nu, .int nw, .int nf, .int bf, .int bn, .ref m10, .int ts, .int ap, .int fs, .int ln, .int fo, .int fa, .ref m11, .ref m12, .ref m13, .ref m14, .int wr])), aJ G m1 560 mw, aZ G m2 2 ik, aI G m3 20 zs, aI G m4 20 cl, aI G m5 20 hs, aI G m6 20 ks, aI G m7 20 wa, aI G m8 20 ne, aI G m9 4 mn, aI G m10 400 tx, aI G m11 6 th, aI G m12 6 od, aI G m13 30 bk, aI G m14 30 bh]) := by
  refine x_startL (cc := cX8_coldMinutes) (maxL := 5) (ret := (some .long)) (by decide) rfl (Nat.le_of_ble_eq_true rfl) ?_
  intro p e s m args below meth c A R Q ls hRf hRl hQ C hP hD hS hA hSS hl
  obtain ⟨hx, hb, hr, hml, hown, hts, hlocks, hKK⟩ := C
  have hown : s.vm.findClass RX8 = some m.cls := hown
  have hl : lv_has ls 5 [(0, .ref m0), (1, .int x)] := hl
  have hinX8 : ∀ w ∈ u_ws RX8 TX8 29, w ∈ wsX8_coldMinutes := by decide +kernel
  have kl36 := hts (.fieldLink RX8 36 "WarmStonesModel" "many" "[I") (by decide +kernel)
  have kl7 := hts (.fieldLink RX8 7 "WarmStonesModel" "w" "[J") (by decide +kernel)
  refine lv_lconst (v := 0) hx hb dX8_coldMinutes_0 (by decide) ?_
  refine lv_lstore_n (lv' := [(2, .long 0), (0, .ref m0), (1, .int x)]) hx hb dX8_coldMinutes_1 rfl hl (by decide) rfl (fun ls hl => ?_)
  refine lv_iconst (v := 0) hx hb dX8_coldMinutes_2 (by decide) ?_
  refine lv_istore (lv' := [(4, .int 0), (2, .long 0), (0, .ref m0), (1, .int x)]) hx hb dX8_coldMinutes_3 hl (by decide) rfl (fun ls hl => ?_)
  obtain ⟨I5_3, μ5_4, hi0, hs_9⟩ := hv
  have Lm_11 : ∀ (n_10 : Nat) (x2_1 : Int64) (x4_2 : Int32) (H : Heap) (locs : List Loc) (ls : Array Slot), μ5_4 x2_1 x4_2 < n_10 → I5_3 x2_1 x4_2 → va_P G.1 vwCl [(m0, .inr (8, [.ref m1, .ref m2, .ref m3, .ref m4, .ref m5, .ref m6, .ref m7, .ref m8, .ref m9, .int fu, .int fd, .int fi, .int nu, .int nw, .int nf, .int bf, .int bn, .ref m10, .int ts, .int ap, .int fs, .int ln, .int fo, .int fa, .ref m11, .ref m12, .ref m13, .ref m14, .int wr])), aJ G m1 560 mw, aZ G m2 2 ik, aI G m3 20 zs, aI G m4 20 cl, aI G m5 20 hs, aI G m6 20 ks, aI G m7 20 wa, aI G m8 20 ne, aI G m9 4 mn, aI G m10 400 tx, aI G m11 6 th, aI G m12 6 od, aI G m13 30 bk, aI G m14 30 bh] H → va_D A [(m0, .inr (8, [.ref m1, .ref m2, .ref m3, .ref m4, .ref m5, .ref m6, .ref m7, .ref m8, .ref m9, .int fu, .int fd, .int fi, .int nu, .int nw, .int nf, .int bf, .int bn, .ref m10, .int ts, .int ap, .int fs, .int ln, .int fo, .int fa, .ref m11, .ref m12, .ref m13, .ref m14, .int wr])), aJ G m1 560 mw, aZ G m2 2 ik, aI G m3 20 zs, aI G m4 20 cl, aI G m5 20 hs, aI G m6 20 ks, aI G m7 20 wa, aI G m8 20 ne, aI G m9 4 mn, aI G m10 400 tx, aI G m11 6 th, aI G m12 6 od, aI G m13 30 bk, aI G m14 30 bh] → va_S A s.heap H locs → lv_has ls 5 [(4, .int x4_2), (2, .long x2_1), (0, .ref m0), (1, .int x)] → W p l e R s m args below meth c H locs 0 0 Q (F0 m 5 ls []) := by
    intro n_10
    induction n_10 with
    | zero => intro x2_1 x4_2 H locs ls hm; exact absurd hm (Nat.not_lt_zero _)
    | succ n_10 ih_5 =>
      intro x2_1 x4_2 H locs ls hI_6 hi hP hD hS hl
      have hv := hs_9 x2_1 x4_2 hi
      refine lv_iload hx hb dX8_coldMinutes_5 (lv_at hl 0 rfl) ?_
      refine lv_aload_n hx hb dX8_coldMinutes_7 rfl (lv_at hl 2 rfl) ?_
      refine va_get (D := G.1) (ci := 8) (v := .ref m9) (C := RX8) (T := TX8) (N := 29) hx hb hts hinX8 hown hKK.1 hP 0 rfl rfl 8 (by decide) kl36 (fun _ h9 => h9) rfl dX8_coldMinutes_8 ?_
      refine lv_iconst (v := 1) hx hb dX8_coldMinutes_11 (by decide) ?_
      refine va_iald hx hb hKK.1 hP 9 0 rfl rfl (by unfold vp_in; decide) dX8_coldMinutes_12 ?_
      refine lv_icmp_ge (tgt := 37) hx hb dX8_coldMinutes_13 (by decide) (fun hc_7 => ?_) (fun hc_7 => ?_)
      · have hv := hv.1 hc_7
        refine lv_lload_n hx hb dX8_coldMinutes_37 rfl (lv_at hl 1 rfl) ?_
        exact x_lret (v := x2_1) () hQ hx hb hr hlocks hS dX8_coldMinutes_38 hv hP hD
      · have hv := hv.2 hc_7
        refine lv_lload_n hx hb dX8_coldMinutes_16 rfl (lv_at hl 1 rfl) ?_
        refine lv_aload_n hx hb dX8_coldMinutes_17 rfl (lv_at hl 2 rfl) ?_
        refine va_get (D := G.1) (ci := 8) (v := .ref m1) (C := RX8) (T := TX8) (N := 29) hx hb hts hinX8 hown hKK.1 hP 0 rfl rfl 0 (by decide) kl7 (fun _ h9 => h9) rfl dX8_coldMinutes_18 ?_
        refine lv_iload_n hx hb dX8_coldMinutes_21 rfl (lv_at hl 3 rfl) ?_
        refine lv_bipush (v := 30) hx hb dX8_coldMinutes_22 (by decide) ?_
        refine lv_iadd hx hb dX8_coldMinutes_24 ?_
        refine lv_iload hx hb dX8_coldMinutes_25 (lv_at hl 0 rfl) ?_
        refine lv_iadd hx hb dX8_coldMinutes_27 ?_
        obtain ⟨hin, hv⟩ := hv
        refine va_lald hx hb hKK.1 hP 1 2 rfl rfl hin dX8_coldMinutes_28 ?_
        refine lv_ladd hx hb dX8_coldMinutes_29 ?_
        refine lv_topl (fun y_8 ey => ?_)
        have hv := hv y_8 ey
        refine lv_lstore_n (lv' := [(2, .long y_8), (4, .int x4_2), (0, .ref m0), (1, .int x)]) hx hb dX8_coldMinutes_30 rfl hl (by decide) rfl (fun ls hl => ?_)
        refine lv_iinc (v := (x4_2 + 1)) (lv' := [(4, .int (x4_2 + 1)), (2, .long y_8), (0, .ref m0), (1, .int x)]) hx hb dX8_coldMinutes_31 hl (k := 1) rfl rfl (by decide) rfl (fun ls hl => ?_)
        refine lv_goto (tgt := 5) hx hb dX8_coldMinutes_34 (by decide) ?_
        exact ih_5 _ _ _ _ _ (Nat.lt_of_lt_of_le hv.2 (Nat.le_of_lt_succ hI_6)) hv.1 hP hD hS hl
  exact Lm_11 _ _ _ _ _ _ (Nat.lt_succ_self _) hi0 hP hD hS hl
theorem v_X8_coldMinutes (l : Launch) (G : Gt) (m0 m1 m2 m3 m4 m5 m6 m7 m8 m9 m10 m11 m12 m13 m14 : Nat) (sz : Nat) (mw : Nat → Int64) (ik : Nat → Int32) (zs : Nat → Int32) (cl : Nat → Int32) (hs : Nat → Int32) (ks : Nat → Int32) (wa : Nat → Int32) (ne : Nat → Int32) (mn : Nat → Int32) (tx : Nat → Int32) (th : Nat → Int32) (od : Nat → Int32) (bk : Nat → Int32) (bh : Nat → Int32) (fu : Int32) (fd : Int32) (fi : Int32) (nu : Int32) (nw : Int32) (nf : Int32) (bf : Int32) (bn : Int32) (ts : Int32) (ap : Int32) (fs : Int32) (ln : Int32) (fo : Int32) (fa : Int32) (wr : Int32) (x : Int32) (T : Nat → Nat → Int) (Ns : Nat) (Np : Nat) (X : Nat) (v : Nat → Int) (M : Int) (hp : TOK T Ns Np ∧ MT T Ns Np fu fd fi zs cl ks ne mn ∧ x = nI X ∧ X + 140 ≤ 560 ∧ MR X mw v ∧ NOK T Ns Np (fun _ => 2 * M) M v ∧ M ≤ 1000000) : ∃ (I5_3 : Int64 → Int32 → Prop) (μ5_4 : Int64 → Int32 → Nat), I5_3 0 0 ∧ (∀ (x2_1 : Int64) (x4_2 : Int32), I5_3 x2_1 x4_2 → ((mn 1) ≤ x4_2 → x2_1.toInt = zSum v 30 Np) ∧ (¬ ((mn 1) ≤ x4_2) → (vp_in ((x + 30) + x4_2) 560) ∧ (∀ (y_8 : Int64), (y_8 = (x2_1 + (mw ((x + 30) + x4_2).toNatClampNeg))) → (I5_3 y_8 (x4_2 + 1) ∧ μ5_4 y_8 (x4_2 + 1) < μ5_4 x2_1 x4_2)))) := by
  obtain ⟨hT, hC, rfl, hX, hR, hO, hM⟩ := hp
  have t2 := hT.2.1
  have hnp := hC.2.1
  refine ⟨fun s z => ∃ i, i ≤ Np ∧ z = nI i ∧ s.toInt = zSum v 30 i, fun _ z => 9 - z.toNatClampNeg, ⟨0, by omega, rfl, rfl⟩, ?_⟩
  rintro s z ⟨i, hi, rfl, hs⟩
  have ei : (nI i).toNatClampNeg = i := nI_clamp (by omega)
  have ei1 : nI i + 1 = nI (i + 1) := nI_1 i
  have ej : (nI (i + 1)).toNatClampNeg = i + 1 := nI_clamp (by omega)
  have e30 : nI X + 30 + nI i = nI (X + (30 + i)) := ix2 X 30 i
  have c30 : (nI (X + (30 + i))).toNatClampNeg = X + (30 + i) := nI_clamp (by omega)
  simp only [ei, ei1, ej, e30, c30, hnp]
  refine ⟨fun h => ?_, fun h => ?_⟩
  · have e : Np = i := by have := (nI_leI (a := Np) (b := i) (by omega) (by omega)).mp h; omega
    subst e; exact hs
  · have hlt : i < Np := by
      rcases Nat.lt_or_ge i Np with q | q
      · exact q
      · exact absurd ((nI_leI (by omega) (by omega)).mpr q) h
    have b1 := zSum_nn (v := v) (o := 30) (n := i) (fun j hj => (hO.2.1 j (by omega)).2.2.1.1)
    have b2 := zSum_le (v := v) (o := 30) (n := i) (c := 2000000) (fun j hj => by have := (nok_p hO (p := j) (by omega)).2.2.1.2; omega)
    have b3 := (nok_p hO hlt).2.2.1
    refine ⟨vp_in_nI (by omega) (by omega), fun y ey => ⟨⟨i + 1, by omega, rfl, ?_⟩, by omega⟩⟩
    rw [ey, zSum]
    exact l_add hs (hR (30 + i) (by omega)) (by omega) (by omega)
theorem k_X8_coldMinutes (l : Launch) (G : Gt) (m0 m1 m2 m3 m4 m5 m6 m7 m8 m9 m10 m11 m12 m13 m14 : Nat) (sz : Nat) (mw : Nat → Int64) (ik : Nat → Int32) (zs : Nat → Int32) (cl : Nat → Int32) (hs : Nat → Int32) (ks : Nat → Int32) (wa : Nat → Int32) (ne : Nat → Int32) (mn : Nat → Int32) (tx : Nat → Int32) (th : Nat → Int32) (od : Nat → Int32) (bk : Nat → Int32) (bh : Nat → Int32) (fu : Int32) (fd : Int32) (fi : Int32) (nu : Int32) (nw : Int32) (nf : Int32) (bf : Int32) (bn : Int32) (ts : Int32) (ap : Int32) (fs : Int32) (ln : Int32) (fo : Int32) (fa : Int32) (wr : Int32) (x : Int32) (T : Nat → Nat → Int) (Ns : Nat) (Np : Nat) (X : Nat) (v : Nat → Int) (M : Int) (hp : TOK T Ns Np ∧ MT T Ns Np fu fd fi zs cl ks ne mn ∧ x = nI X ∧ X + 140 ≤ 560 ∧ MR X mw v ∧ NOK T Ns Np (fun _ => 2 * M) M v ∧ M ≤ 1000000) : MetL l yX8_coldMinutes wsX8_coldMinutes 0 0 G [.ref m0, .int x] [(m0, .inr (8, [.ref m1, .ref m2, .ref m3, .ref m4, .ref m5, .ref m6, .ref m7, .ref m8, .ref m9, .int fu, .int fd, .int fi, .int nu, .int nw, .int nf, .int bf, .int bn, .ref m10, .int ts, .int ap, .int fs, .int ln, .int fo, .int fa, .ref m11, .ref m12, .ref m13, .ref m14, .int wr])), aJ G m1 560 mw, aZ G m2 2 ik, aI G m3 20 zs, aI G m4 20 cl, aI G m5 20 hs, aI G m6 20 ks, aI G m7 20 wa, aI G m8 20 ne, aI G m9 4 mn, aI G m10 400 tx, aI G m11 6 th, aI G m12 6 od, aI G m13 30 bk, aI G m14 30 bh] sz (fun (r : Int64) (_ : Unit) => r.toInt = zSum v 30 Np) (fun (_ : Unit) => [(m0, .inr (8, [.ref m1, .ref m2, .ref m3, .ref m4, .ref m5, .ref m6, .ref m7, .ref m8, .ref m9, .int fu, .int fd, .int fi, .int nu, .int nw, .int nf, .int bf, .int bn, .ref m10, .int ts, .int ap, .int fs, .int ln, .int fo, .int fa, .ref m11, .ref m12, .ref m13, .ref m14, .int wr])), aJ G m1 560 mw, aZ G m2 2 ik, aI G m3 20 zs, aI G m4 20 cl, aI G m5 20 hs, aI G m6 20 ks, aI G m7 20 wa, aI G m8 20 ne, aI G m9 4 mn, aI G m10 400 tx, aI G m11 6 th, aI G m12 6 od, aI G m13 30 bk, aI G m14 30 bh]) :=
  c_X8_coldMinutes l G m0 m1 m2 m3 m4 m5 m6 m7 m8 m9 m10 m11 m12 m13 m14 sz mw ik zs cl hs ks wa ne mn tx th od bk bh fu fd fi nu nw nf bf bn ts ap fs ln fo fa wr x T Ns Np X v M (v_X8_coldMinutes l G m0 m1 m2 m3 m4 m5 m6 m7 m8 m9 m10 m11 m12 m13 m14 sz mw ik zs cl hs ks wa ne mn tx th od bk bh fu fd fi nu nw nf bf bn ts ap fs ln fo fa wr x T Ns Np X v M hp)

set_option maxHeartbeats 4000000 in
set_option maxRecDepth 100000 in
theorem c_X8_told (l : Launch) (G : Gt) (m0 m1 m2 m3 m4 m5 m6 m7 m8 m9 m10 m11 m12 m13 m14 : Nat) (sz : Nat) (mw : Nat → Int64) (ik : Nat → Int32) (zs : Nat → Int32) (cl : Nat → Int32) (hs : Nat → Int32) (ks : Nat → Int32) (wa : Nat → Int32) (ne : Nat → Int32) (mn : Nat → Int32) (tx : Nat → Int32) (th : Nat → Int32) (od : Nat → Int32) (bk : Nat → Int32) (bh : Nat → Int32) (fu : Int32) (fd : Int32) (fi : Int32) (nu : Int32) (nw : Int32) (nf : Int32) (bf : Int32) (bn : Int32) (ts : Int32) (ap : Int32) (fs : Int32) (ln : Int32) (fo : Int32) (fa : Int32) (wr : Int32) (x : Int32) (T : Nat → Nat → Int) (Ns : Nat) (Np : Nat) (v : Nat → Int) (M : Int) (hv : ∃ (I5_3 : Int64 → Int32 → Prop) (μ5_4 : Int64 → Int32 → Nat), I5_3 0 0 ∧ (∀ (x2_1 : Int64) (x4_2 : Int32), I5_3 x2_1 x4_2 → ((mn 0) ≤ x4_2 → ∃ (I35_10 : Int64 → Int32 → Prop) (μ35_11 : Int64 → Int32 → Nat), I35_10 x2_1 0 ∧ (∀ (x2_8 : Int64) (x4_9 : Int32), I35_10 x2_8 x4_9 → ((mn 1) ≤ x4_9 → (x = 0 → ((mn 0).toInt64).toInt = aTold T Ns Np v ts.toInt wr.toInt x.toInt) ∧ (x = 1 → ((mn 1).toInt64).toInt = aTold T Ns Np v ts.toInt wr.toInt x.toInt) ∧ (x = 2 → ts.toInt64.toInt = aTold T Ns Np v ts.toInt wr.toInt x.toInt) ∧ (x = 3 → (mw 132).toInt = aTold T Ns Np v ts.toInt wr.toInt x.toInt) ∧ (x = 4 → (mw 134).toInt = aTold T Ns Np v ts.toInt wr.toInt x.toInt) ∧ (x = 5 → fu.toInt64.toInt = aTold T Ns Np v ts.toInt wr.toInt x.toInt) ∧ (x = 6 → fd.toInt64.toInt = aTold T Ns Np v ts.toInt wr.toInt x.toInt) ∧ (x = 7 → fi.toInt64.toInt = aTold T Ns Np v ts.toInt wr.toInt x.toInt) ∧ (x = 8 → wr.toInt64.toInt = aTold T Ns Np v ts.toInt wr.toInt x.toInt) ∧ (x = 9 → ∃ (gT_16 : Nat → Nat → Int) (gNs_17 : Nat) (gNp_18 : Nat) (gX_19 : Nat) (gv_20 : Nat → Int) (gM_21 : Int), ((TOK gT_16 gNs_17 gNp_18 ∧ MT gT_16 gNs_17 gNp_18 fu fd fi zs cl ks ne mn ∧ (0 : Int32) = nI gX_19 ∧ gX_19 + 140 ≤ 560 ∧ MR gX_19 mw gv_20 ∧ NOK gT_16 gNs_17 gNp_18 (fun _ => 2 * gM_21) gM_21 gv_20 ∧ gM_21 ≤ 1000000) ∧ (∀ (r_22 : Int64), (r_22.toInt = zSum gv_20 30 gNp_18) → (r_22.toInt = aTold T Ns Np v ts.toInt wr.toInt x.toInt)))) ∧ (x = 10 → x2_8.toInt = aTold T Ns Np v ts.toInt wr.toInt x.toInt) ∧ (¬ x = 0 ∧ ¬ x = 1 ∧ ¬ x = 2 ∧ ¬ x = 3 ∧ ¬ x = 4 ∧ ¬ x = 5 ∧ ¬ x = 6 ∧ ¬ x = 7 ∧ ¬ x = 8 ∧ ¬ x = 9 ∧ ¬ x = 10 → ((-1000000002) : Int64).toInt = aTold T Ns Np v ts.toInt wr.toInt x.toInt)) ∧ (¬ ((mn 1) ≤ x4_9) → (vp_in (10 + x4_9) 560) ∧ (∀ (y_23 : Int64), (y_23 = (x2_8 + (mw (10 + x4_9).toNatClampNeg))) → (I35_10 y_23 (x4_9 + 1) ∧ μ35_11 y_23 (x4_9 + 1) < μ35_11 x2_8 x4_9))))) ∧ (¬ ((mn 0) ≤ x4_2) → (vp_in x4_2 560) ∧ (∀ (y_27 : Int64), (y_27 = (x2_1 + (mw x4_2.toNatClampNeg))) → (I5_3 y_27 (x4_2 + 1) ∧ μ5_4 y_27 (x4_2 + 1) < μ5_4 x2_1 x4_2))))) : MetL l yX8_told wsX8_told 1 24 G [.ref m0, .int x] [(m0, .inr (8, [.ref m1, .ref m2, .ref m3, .ref m4, .ref m5, .ref m6, .ref m7, .ref m8, .ref m9, .int fu, .int fd, .int fi, .int nu, .int nw, .int nf, .int bf, .int bn, .ref m10, .int ts, .int ap, .int fs, .int ln, .int fo, .int fa, .ref m11, .ref m12, .ref m13, .ref m14, .int wr])), aJ G m1 560 mw, aZ G m2 2 ik, aI G m3 20 zs, aI G m4 20 cl, aI G m5 20 hs, aI G m6 20 ks, aI G m7 20 wa, aI G m8 20 ne, aI G m9 4 mn, aI G m10 400 tx, aI G m11 6 th, aI G m12 6 od, aI G m13 30 bk, aI G m14 30 bh] sz (fun (r : Int64) (_ : Unit) => r.toInt = aTold T Ns Np v ts.toInt wr.toInt x.toInt) (fun (_ : Unit) => [(m0, .inr (8, [.ref m1, .ref m2, .ref m3, .ref m4, .ref m5, .ref m6, .ref m7, .ref m8, .ref m9, .int fu, .int fd, .int fi, .int nu, .int nw, .int nf, .int bf, .int bn, .ref m10, .int ts, .int ap, .int fs, .int ln, .int fo, .int fa, .ref m11, .ref m12, .ref m13, .ref m14, .int wr])), aJ G m1 560 mw, aZ G m2 2 ik, aI G m3 20 zs, aI G m4 20 cl, aI G m5 20 hs, aI G m6 20 ks, aI G m7 20 wa, aI G m8 20 ne, aI G m9 4 mn, aI G m10 400 tx, aI G m11 6 th, aI G m12 6 od, aI G m13 30 bk, aI G m14 30 bh]) := by
  refine x_startL (cc := cX8_told) (maxL := 5) (ret := (some .long)) (by decide) rfl (Nat.le_of_ble_eq_true rfl) ?_
  intro p e s m args below meth c A R Q ls hRf hRl hQ C hP hD hS hA hSS hl
  obtain ⟨hx, hb, hr, hml, hown, hts, hlocks, hKK⟩ := C
  have hown : s.vm.findClass RX8 = some m.cls := hown
  have hl : lv_has ls 5 [(0, .ref m0), (1, .int x)] := hl
  have hinX8 : ∀ w ∈ u_ws RX8 TX8 29, w ∈ wsX8_told := by decide +kernel
  have kl146 := hts (.fieldLink RX8 146 "WarmStonesModel" "fine" "I") (by decide +kernel)
  have kl149 := hts (.fieldLink RX8 149 "WarmStonesModel" "written" "I") (by decide +kernel)
  have kl158 := hts (.constantLong RX8 158 (-1000000002)) (by decide +kernel)
  have kl36 := hts (.fieldLink RX8 36 "WarmStonesModel" "many" "[I") (by decide +kernel)
  have kl39 := hts (.fieldLink RX8 39 "WarmStonesModel" "frostUp" "I") (by decide +kernel)
  have kl43 := hts (.fieldLink RX8 43 "WarmStonesModel" "frostDown" "I") (by decide +kernel)
  have kl7 := hts (.fieldLink RX8 7 "WarmStonesModel" "w" "[J") (by decide +kernel)
  have kl74 := hts (.fieldLink RX8 74 "WarmStonesModel" "textSize" "I") (by decide +kernel)
  refine lv_lconst (v := 0) hx hb dX8_told_0 (by decide) ?_
  refine lv_lstore_n (lv' := [(2, .long 0), (0, .ref m0), (1, .int x)]) hx hb dX8_told_1 rfl hl (by decide) rfl (fun ls hl => ?_)
  refine lv_iconst (v := 0) hx hb dX8_told_2 (by decide) ?_
  refine lv_istore (lv' := [(4, .int 0), (2, .long 0), (0, .ref m0), (1, .int x)]) hx hb dX8_told_3 hl (by decide) rfl (fun ls hl => ?_)
  obtain ⟨I5_3, μ5_4, hi0, hs_28⟩ := hv
  have Lm_30 : ∀ (n_29 : Nat) (x2_1 : Int64) (x4_2 : Int32) (H : Heap) (locs : List Loc) (ls : Array Slot), μ5_4 x2_1 x4_2 < n_29 → I5_3 x2_1 x4_2 → va_P G.1 vwCl [(m0, .inr (8, [.ref m1, .ref m2, .ref m3, .ref m4, .ref m5, .ref m6, .ref m7, .ref m8, .ref m9, .int fu, .int fd, .int fi, .int nu, .int nw, .int nf, .int bf, .int bn, .ref m10, .int ts, .int ap, .int fs, .int ln, .int fo, .int fa, .ref m11, .ref m12, .ref m13, .ref m14, .int wr])), aJ G m1 560 mw, aZ G m2 2 ik, aI G m3 20 zs, aI G m4 20 cl, aI G m5 20 hs, aI G m6 20 ks, aI G m7 20 wa, aI G m8 20 ne, aI G m9 4 mn, aI G m10 400 tx, aI G m11 6 th, aI G m12 6 od, aI G m13 30 bk, aI G m14 30 bh] H → va_D A [(m0, .inr (8, [.ref m1, .ref m2, .ref m3, .ref m4, .ref m5, .ref m6, .ref m7, .ref m8, .ref m9, .int fu, .int fd, .int fi, .int nu, .int nw, .int nf, .int bf, .int bn, .ref m10, .int ts, .int ap, .int fs, .int ln, .int fo, .int fa, .ref m11, .ref m12, .ref m13, .ref m14, .int wr])), aJ G m1 560 mw, aZ G m2 2 ik, aI G m3 20 zs, aI G m4 20 cl, aI G m5 20 hs, aI G m6 20 ks, aI G m7 20 wa, aI G m8 20 ne, aI G m9 4 mn, aI G m10 400 tx, aI G m11 6 th, aI G m12 6 od, aI G m13 30 bk, aI G m14 30 bh] → va_S A s.heap H locs → lv_has ls 5 [(4, .int x4_2), (2, .long x2_1), (0, .ref m0), (1, .int x)] → W p l e R s m args below meth c H locs 0 0 Q (F0 m 5 ls []) := by
    intro n_29
    induction n_29 with
    | zero => intro x2_1 x4_2 H locs ls hm; exact absurd hm (Nat.not_lt_zero _)
    | succ n_29 ih_5 =>
      intro x2_1 x4_2 H locs ls hI_6 hi hP hD hS hl
      have hv := hs_28 x2_1 x4_2 hi
      refine lv_iload hx hb dX8_told_5 (lv_at hl 0 rfl) ?_
      refine lv_aload_n hx hb dX8_told_7 rfl (lv_at hl 2 rfl) ?_
      refine va_get (D := G.1) (ci := 8) (v := .ref m9) (C := RX8) (T := TX8) (N := 29) hx hb hts hinX8 hown hKK.1 hP 0 rfl rfl 8 (by decide) kl36 (fun _ h9 => h9) rfl dX8_told_8 ?_
      refine lv_iconst (v := 0) hx hb dX8_told_11 (by decide) ?_
      refine va_iald hx hb hKK.1 hP 9 0 rfl rfl (by unfold vp_in; decide) dX8_told_12 ?_
      refine lv_icmp_ge (tgt := 32) hx hb dX8_told_13 (by decide) (fun hc_7 => ?_) (fun hc_7 => ?_)
      · have hv := hv.1 hc_7
        refine lv_iconst (v := 0) hx hb dX8_told_32 (by decide) ?_
        refine lv_istore (lv' := [(4, .int 0), (2, .long x2_1), (0, .ref m0), (1, .int x)]) hx hb dX8_told_33 hl (by decide) rfl (fun ls hl => ?_)
        obtain ⟨I35_10, μ35_11, hi0, hs_24⟩ := hv
        have Lm_26 : ∀ (n_25 : Nat) (x2_8 : Int64) (x4_9 : Int32) (H : Heap) (locs : List Loc) (ls : Array Slot), μ35_11 x2_8 x4_9 < n_25 → I35_10 x2_8 x4_9 → va_P G.1 vwCl [(m0, .inr (8, [.ref m1, .ref m2, .ref m3, .ref m4, .ref m5, .ref m6, .ref m7, .ref m8, .ref m9, .int fu, .int fd, .int fi, .int nu, .int nw, .int nf, .int bf, .int bn, .ref m10, .int ts, .int ap, .int fs, .int ln, .int fo, .int fa, .ref m11, .ref m12, .ref m13, .ref m14, .int wr])), aJ G m1 560 mw, aZ G m2 2 ik, aI G m3 20 zs, aI G m4 20 cl, aI G m5 20 hs, aI G m6 20 ks, aI G m7 20 wa, aI G m8 20 ne, aI G m9 4 mn, aI G m10 400 tx, aI G m11 6 th, aI G m12 6 od, aI G m13 30 bk, aI G m14 30 bh] H → va_D A [(m0, .inr (8, [.ref m1, .ref m2, .ref m3, .ref m4, .ref m5, .ref m6, .ref m7, .ref m8, .ref m9, .int fu, .int fd, .int fi, .int nu, .int nw, .int nf, .int bf, .int bn, .ref m10, .int ts, .int ap, .int fs, .int ln, .int fo, .int fa, .ref m11, .ref m12, .ref m13, .ref m14, .int wr])), aJ G m1 560 mw, aZ G m2 2 ik, aI G m3 20 zs, aI G m4 20 cl, aI G m5 20 hs, aI G m6 20 ks, aI G m7 20 wa, aI G m8 20 ne, aI G m9 4 mn, aI G m10 400 tx, aI G m11 6 th, aI G m12 6 od, aI G m13 30 bk, aI G m14 30 bh] → va_S A s.heap H locs → lv_has ls 5 [(4, .int x4_9), (2, .long x2_8), (0, .ref m0), (1, .int x)] → W p l e R s m args below meth c H locs 0 0 Q (F0 m 35 ls []) := by
          intro n_25
          induction n_25 with
          | zero => intro x2_8 x4_9 H locs ls hm; exact absurd hm (Nat.not_lt_zero _)
          | succ n_25 ih_12 =>
            intro x2_8 x4_9 H locs ls hI_13 hi hP hD hS hl
            have hv := hs_24 x2_8 x4_9 hi
            refine lv_iload hx hb dX8_told_35 (lv_at hl 0 rfl) ?_
            refine lv_aload_n hx hb dX8_told_37 rfl (lv_at hl 2 rfl) ?_
            refine va_get (D := G.1) (ci := 8) (v := .ref m9) (C := RX8) (T := TX8) (N := 29) hx hb hts hinX8 hown hKK.1 hP 0 rfl rfl 8 (by decide) kl36 (fun _ h9 => h9) rfl dX8_told_38 ?_
            refine lv_iconst (v := 1) hx hb dX8_told_41 (by decide) ?_
            refine va_iald hx hb hKK.1 hP 9 0 rfl rfl (by unfold vp_in; decide) dX8_told_42 ?_
            refine lv_icmp_ge (tgt := 65) hx hb dX8_told_43 (by decide) (fun hc_14 => ?_) (fun hc_14 => ?_)
            · have hv := hv.1 hc_14
              refine lv_iload_n hx hb dX8_told_65 rfl (lv_at hl 3 rfl) ?_
              by_cases hk_150 : x = 0
              · have hv := hv.1 hk_150
                refine lv_tableIn (off := 58) (tgt := 124) hx hb dX8_told_66 (by rw [hk_150]; decide) (by rw [hk_150]; decide) (by rw [hk_150]; decide) (by decide) ?_
                refine lv_aload_n hx hb dX8_told_124 rfl (lv_at hl 2 rfl) ?_
                refine va_get (D := G.1) (ci := 8) (v := .ref m9) (C := RX8) (T := TX8) (N := 29) hx hb hts hinX8 hown hKK.1 hP 0 rfl rfl 8 (by decide) kl36 (fun _ h9 => h9) rfl dX8_told_125 ?_
                refine lv_iconst (v := 0) hx hb dX8_told_128 (by decide) ?_
                refine va_iald hx hb hKK.1 hP 9 0 rfl rfl (by unfold vp_in; decide) dX8_told_129 ?_
                refine lv_i2l hx hb dX8_told_130 rfl ?_
                exact x_lret (v := (mn 0).toInt64) () hQ hx hb hr hlocks hS dX8_told_131 hv hP hD
              replace hv := hv.2
              by_cases hk_151 : x = 1
              · have hv := hv.1 hk_151
                refine lv_tableIn (off := 66) (tgt := 132) hx hb dX8_told_66 (by rw [hk_151]; decide) (by rw [hk_151]; decide) (by rw [hk_151]; decide) (by decide) ?_
                refine lv_aload_n hx hb dX8_told_132 rfl (lv_at hl 2 rfl) ?_
                refine va_get (D := G.1) (ci := 8) (v := .ref m9) (C := RX8) (T := TX8) (N := 29) hx hb hts hinX8 hown hKK.1 hP 0 rfl rfl 8 (by decide) kl36 (fun _ h9 => h9) rfl dX8_told_133 ?_
                refine lv_iconst (v := 1) hx hb dX8_told_136 (by decide) ?_
                refine va_iald hx hb hKK.1 hP 9 0 rfl rfl (by unfold vp_in; decide) dX8_told_137 ?_
                refine lv_i2l hx hb dX8_told_138 rfl ?_
                exact x_lret (v := (mn 1).toInt64) () hQ hx hb hr hlocks hS dX8_told_139 hv hP hD
              replace hv := hv.2
              by_cases hk_152 : x = 2
              · have hv := hv.1 hk_152
                refine lv_tableIn (off := 74) (tgt := 140) hx hb dX8_told_66 (by rw [hk_152]; decide) (by rw [hk_152]; decide) (by rw [hk_152]; decide) (by decide) ?_
                refine lv_aload_n hx hb dX8_told_140 rfl (lv_at hl 2 rfl) ?_
                refine va_get (D := G.1) (ci := 8) (v := .int ts) (C := RX8) (T := TX8) (N := 29) hx hb hts hinX8 hown hKK.1 hP 0 rfl rfl 18 (by decide) kl74 (fun _ h9 => h9) rfl dX8_told_141 ?_
                refine lv_i2l hx hb dX8_told_144 rfl ?_
                exact x_lret (v := ts.toInt64) () hQ hx hb hr hlocks hS dX8_told_145 hv hP hD
              replace hv := hv.2
              by_cases hk_153 : x = 3
              · have hv := hv.1 hk_153
                refine lv_tableIn (off := 80) (tgt := 146) hx hb dX8_told_66 (by rw [hk_153]; decide) (by rw [hk_153]; decide) (by rw [hk_153]; decide) (by decide) ?_
                refine lv_aload_n hx hb dX8_told_146 rfl (lv_at hl 2 rfl) ?_
                refine va_get (D := G.1) (ci := 8) (v := .ref m1) (C := RX8) (T := TX8) (N := 29) hx hb hts hinX8 hown hKK.1 hP 0 rfl rfl 0 (by decide) kl7 (fun _ h9 => h9) rfl dX8_told_147 ?_
                refine lv_sipush (v := 132) hx hb dX8_told_150 (by decide) ?_
                refine va_lald hx hb hKK.1 hP 1 2 rfl rfl (by unfold vp_in; decide) dX8_told_153 ?_
                exact x_lret (v := (mw 132)) () hQ hx hb hr hlocks hS dX8_told_154 hv hP hD
              replace hv := hv.2
              by_cases hk_154 : x = 4
              · have hv := hv.1 hk_154
                refine lv_tableIn (off := 89) (tgt := 155) hx hb dX8_told_66 (by rw [hk_154]; decide) (by rw [hk_154]; decide) (by rw [hk_154]; decide) (by decide) ?_
                refine lv_aload_n hx hb dX8_told_155 rfl (lv_at hl 2 rfl) ?_
                refine va_get (D := G.1) (ci := 8) (v := .ref m1) (C := RX8) (T := TX8) (N := 29) hx hb hts hinX8 hown hKK.1 hP 0 rfl rfl 0 (by decide) kl7 (fun _ h9 => h9) rfl dX8_told_156 ?_
                refine lv_sipush (v := 134) hx hb dX8_told_159 (by decide) ?_
                refine va_lald hx hb hKK.1 hP 1 2 rfl rfl (by unfold vp_in; decide) dX8_told_162 ?_
                exact x_lret (v := (mw 134)) () hQ hx hb hr hlocks hS dX8_told_163 hv hP hD
              replace hv := hv.2
              by_cases hk_155 : x = 5
              · have hv := hv.1 hk_155
                refine lv_tableIn (off := 98) (tgt := 164) hx hb dX8_told_66 (by rw [hk_155]; decide) (by rw [hk_155]; decide) (by rw [hk_155]; decide) (by decide) ?_
                refine lv_aload_n hx hb dX8_told_164 rfl (lv_at hl 2 rfl) ?_
                refine va_get (D := G.1) (ci := 8) (v := .int fu) (C := RX8) (T := TX8) (N := 29) hx hb hts hinX8 hown hKK.1 hP 0 rfl rfl 9 (by decide) kl39 (fun _ h9 => h9) rfl dX8_told_165 ?_
                refine lv_i2l hx hb dX8_told_168 rfl ?_
                exact x_lret (v := fu.toInt64) () hQ hx hb hr hlocks hS dX8_told_169 hv hP hD
              replace hv := hv.2
              by_cases hk_156 : x = 6
              · have hv := hv.1 hk_156
                refine lv_tableIn (off := 104) (tgt := 170) hx hb dX8_told_66 (by rw [hk_156]; decide) (by rw [hk_156]; decide) (by rw [hk_156]; decide) (by decide) ?_
                refine lv_aload_n hx hb dX8_told_170 rfl (lv_at hl 2 rfl) ?_
                refine va_get (D := G.1) (ci := 8) (v := .int fd) (C := RX8) (T := TX8) (N := 29) hx hb hts hinX8 hown hKK.1 hP 0 rfl rfl 10 (by decide) kl43 (fun _ h9 => h9) rfl dX8_told_171 ?_
                refine lv_i2l hx hb dX8_told_174 rfl ?_
                exact x_lret (v := fd.toInt64) () hQ hx hb hr hlocks hS dX8_told_175 hv hP hD
              replace hv := hv.2
              by_cases hk_157 : x = 7
              · have hv := hv.1 hk_157
                refine lv_tableIn (off := 110) (tgt := 176) hx hb dX8_told_66 (by rw [hk_157]; decide) (by rw [hk_157]; decide) (by rw [hk_157]; decide) (by decide) ?_
                refine lv_aload_n hx hb dX8_told_176 rfl (lv_at hl 2 rfl) ?_
                refine va_get (D := G.1) (ci := 8) (v := .int fi) (C := RX8) (T := TX8) (N := 29) hx hb hts hinX8 hown hKK.1 hP 0 rfl rfl 11 (by decide) kl146 (fun _ h9 => h9) rfl dX8_told_177 ?_
                refine lv_i2l hx hb dX8_told_180 rfl ?_
                exact x_lret (v := fi.toInt64) () hQ hx hb hr hlocks hS dX8_told_181 hv hP hD
              replace hv := hv.2
              by_cases hk_158 : x = 8
              · have hv := hv.1 hk_158
                refine lv_tableIn (off := 116) (tgt := 182) hx hb dX8_told_66 (by rw [hk_158]; decide) (by rw [hk_158]; decide) (by rw [hk_158]; decide) (by decide) ?_
                refine lv_aload_n hx hb dX8_told_182 rfl (lv_at hl 2 rfl) ?_
                refine va_get (D := G.1) (ci := 8) (v := .int wr) (C := RX8) (T := TX8) (N := 29) hx hb hts hinX8 hown hKK.1 hP 0 rfl rfl 28 (by decide) kl149 (fun _ h9 => h9) rfl dX8_told_183 ?_
                refine lv_i2l hx hb dX8_told_186 rfl ?_
                exact x_lret (v := wr.toInt64) () hQ hx hb hr hlocks hS dX8_told_187 hv hP hD
              replace hv := hv.2
              by_cases hk_159 : x = 9
              · have hv := hv.1 hk_159
                refine lv_tableIn (off := 122) (tgt := 188) hx hb dX8_told_66 (by rw [hk_159]; decide) (by rw [hk_159]; decide) (by rw [hk_159]; decide) (by decide) ?_
                refine lv_aload_n hx hb dX8_told_188 rfl (lv_at hl 2 rfl) ?_
                refine lv_iconst (v := 0) hx hb dX8_told_189 (by decide) ?_
                obtain ⟨gT_16, gNs_17, gNp_18, gX_19, gv_20, gM_21, hv⟩ := hv
                obtain ⟨hp, hv⟩ := hv
                refine x_calllR (x_runV (As := [.int 0]) (rest := []) (n := 1) (C := RX8) (ci := 8) ⟨hx, hb, hml, hown, hts⟩ (k_X8_coldMinutes l G m0 m1 m2 m3 m4 m5 m6 m7 m8 m9 m10 m11 m12 m13 m14 _ mw ik zs cl hs ks wa ne mn tx th od bk bh fu fd fi nu nw nf bf bn ts ap fs ln fo fa wr 0 gT_16 gNs_17 gNp_18 gX_19 gv_20 gM_21 hp) gX8_told_X8_coldMinutes rfl (by decide +kernel) ⟨Nat.le_trans (Nat.le_of_ble_eq_true rfl) hRf, Nat.le_trans (Nat.le_of_ble_eq_true rfl) hRl⟩ hKK hSS hS hA hP hD [0, 1, 2, 3, 4, 5, 6, 7, 8, 9, 10, 11, 12, 13, 14] (by decide) rfl rfl rfl 0 rfl rfl hl.1 rfl (Nat.le_of_ble_eq_true rfl) dX8_told_190) hP hD hS hA [0, 1, 2, 3, 4, 5, 6, 7, 8, 9, 10, 11, 12, 13, 14] rfl (fun r_22 _ H locs hw hP hS => ?_)
                have hv := hv r_22 hw
                exact x_lret (v := r_22) () hQ hx hb hr hlocks hS dX8_told_193 hv hP hD
              replace hv := hv.2
              by_cases hk_1510 : x = 10
              · have hv := hv.1 hk_1510
                refine lv_tableIn (off := 128) (tgt := 194) hx hb dX8_told_66 (by rw [hk_1510]; decide) (by rw [hk_1510]; decide) (by rw [hk_1510]; decide) (by decide) ?_
                refine lv_lload_n hx hb dX8_told_194 rfl (lv_at hl 1 rfl) ?_
                exact x_lret (v := x2_8) () hQ hx hb hr hlocks hS dX8_told_195 hv hP hD
              replace hv := hv.2
              have hv := hv ⟨hk_150, hk_151, hk_152, hk_153, hk_154, hk_155, hk_156, hk_157, hk_158, hk_159, hk_1510⟩
              refine lv_tableOut (tgt := 196) hx hb dX8_told_66 (ts_out 10 (by decide) (ts_ne_all 10 ⟨⟨⟨⟨⟨⟨⟨⟨⟨⟨hk_150, hk_151⟩, hk_152⟩, hk_153⟩, hk_154⟩, hk_155⟩, hk_156⟩, hk_157⟩, hk_158⟩, hk_159⟩, hk_1510⟩)) (by decide) ?_
              refine lv_ldc2 (v := (-1000000002)) hx hb hown kl158 dX8_told_196 ?_
              exact x_lret (v := (-1000000002)) () hQ hx hb hr hlocks hS dX8_told_199 hv hP hD
            · have hv := hv.2 hc_14
              refine lv_lload_n hx hb dX8_told_46 rfl (lv_at hl 1 rfl) ?_
              refine lv_aload_n hx hb dX8_told_47 rfl (lv_at hl 2 rfl) ?_
              refine va_get (D := G.1) (ci := 8) (v := .ref m1) (C := RX8) (T := TX8) (N := 29) hx hb hts hinX8 hown hKK.1 hP 0 rfl rfl 0 (by decide) kl7 (fun _ h9 => h9) rfl dX8_told_48 ?_
              refine lv_bipush (v := 10) hx hb dX8_told_51 (by decide) ?_
              refine lv_iload hx hb dX8_told_53 (lv_at hl 0 rfl) ?_
              refine lv_iadd hx hb dX8_told_55 ?_
              obtain ⟨hin, hv⟩ := hv
              refine va_lald hx hb hKK.1 hP 1 2 rfl rfl hin dX8_told_56 ?_
              refine lv_ladd hx hb dX8_told_57 ?_
              refine lv_topl (fun y_23 ey => ?_)
              have hv := hv y_23 ey
              refine lv_lstore_n (lv' := [(2, .long y_23), (4, .int x4_9), (0, .ref m0), (1, .int x)]) hx hb dX8_told_58 rfl hl (by decide) rfl (fun ls hl => ?_)
              refine lv_iinc (v := (x4_9 + 1)) (lv' := [(4, .int (x4_9 + 1)), (2, .long y_23), (0, .ref m0), (1, .int x)]) hx hb dX8_told_59 hl (k := 1) rfl rfl (by decide) rfl (fun ls hl => ?_)
              refine lv_goto (tgt := 35) hx hb dX8_told_62 (by decide) ?_
              exact ih_12 _ _ _ _ _ (Nat.lt_of_lt_of_le hv.2 (Nat.le_of_lt_succ hI_13)) hv.1 hP hD hS hl
        exact Lm_26 _ _ _ _ _ _ (Nat.lt_succ_self _) hi0 hP hD hS hl
      · have hv := hv.2 hc_7
        refine lv_lload_n hx hb dX8_told_16 rfl (lv_at hl 1 rfl) ?_
        refine lv_aload_n hx hb dX8_told_17 rfl (lv_at hl 2 rfl) ?_
        refine va_get (D := G.1) (ci := 8) (v := .ref m1) (C := RX8) (T := TX8) (N := 29) hx hb hts hinX8 hown hKK.1 hP 0 rfl rfl 0 (by decide) kl7 (fun _ h9 => h9) rfl dX8_told_18 ?_
        refine lv_iload hx hb dX8_told_21 (lv_at hl 0 rfl) ?_
        obtain ⟨hin, hv⟩ := hv
        refine va_lald hx hb hKK.1 hP 1 2 rfl rfl hin dX8_told_23 ?_
        refine lv_ladd hx hb dX8_told_24 ?_
        refine lv_topl (fun y_27 ey => ?_)
        have hv := hv y_27 ey
        refine lv_lstore_n (lv' := [(2, .long y_27), (4, .int x4_2), (0, .ref m0), (1, .int x)]) hx hb dX8_told_25 rfl hl (by decide) rfl (fun ls hl => ?_)
        refine lv_iinc (v := (x4_2 + 1)) (lv' := [(4, .int (x4_2 + 1)), (2, .long y_27), (0, .ref m0), (1, .int x)]) hx hb dX8_told_26 hl (k := 1) rfl rfl (by decide) rfl (fun ls hl => ?_)
        refine lv_goto (tgt := 5) hx hb dX8_told_29 (by decide) ?_
        exact ih_5 _ _ _ _ _ (Nat.lt_of_lt_of_le hv.2 (Nat.le_of_lt_succ hI_6)) hv.1 hP hD hS hl
  exact Lm_30 _ _ _ _ _ _ (Nat.lt_succ_self _) hi0 hP hD hS hl
theorem v_X8_told (l : Launch) (G : Gt) (m0 m1 m2 m3 m4 m5 m6 m7 m8 m9 m10 m11 m12 m13 m14 : Nat) (sz : Nat) (mw : Nat → Int64) (ik : Nat → Int32) (zs : Nat → Int32) (cl : Nat → Int32) (hs : Nat → Int32) (ks : Nat → Int32) (wa : Nat → Int32) (ne : Nat → Int32) (mn : Nat → Int32) (tx : Nat → Int32) (th : Nat → Int32) (od : Nat → Int32) (bk : Nat → Int32) (bh : Nat → Int32) (fu : Int32) (fd : Int32) (fi : Int32) (nu : Int32) (nw : Int32) (nf : Int32) (bf : Int32) (bn : Int32) (ts : Int32) (ap : Int32) (fs : Int32) (ln : Int32) (fo : Int32) (fa : Int32) (wr : Int32) (x : Int32) (T : Nat → Nat → Int) (Ns : Nat) (Np : Nat) (v : Nat → Int) (M : Int) (hp : TOK T Ns Np ∧ MT T Ns Np fu fd fi zs cl ks ne mn ∧ MR 0 mw v ∧ NOK T Ns Np (fun _ => 2 * M) M v ∧ M ≤ 900000) : ∃ (I5_3 : Int64 → Int32 → Prop) (μ5_4 : Int64 → Int32 → Nat), I5_3 0 0 ∧ (∀ (x2_1 : Int64) (x4_2 : Int32), I5_3 x2_1 x4_2 → ((mn 0) ≤ x4_2 → ∃ (I35_10 : Int64 → Int32 → Prop) (μ35_11 : Int64 → Int32 → Nat), I35_10 x2_1 0 ∧ (∀ (x2_8 : Int64) (x4_9 : Int32), I35_10 x2_8 x4_9 → ((mn 1) ≤ x4_9 → (x = 0 → ((mn 0).toInt64).toInt = aTold T Ns Np v ts.toInt wr.toInt x.toInt) ∧ (x = 1 → ((mn 1).toInt64).toInt = aTold T Ns Np v ts.toInt wr.toInt x.toInt) ∧ (x = 2 → ts.toInt64.toInt = aTold T Ns Np v ts.toInt wr.toInt x.toInt) ∧ (x = 3 → (mw 132).toInt = aTold T Ns Np v ts.toInt wr.toInt x.toInt) ∧ (x = 4 → (mw 134).toInt = aTold T Ns Np v ts.toInt wr.toInt x.toInt) ∧ (x = 5 → fu.toInt64.toInt = aTold T Ns Np v ts.toInt wr.toInt x.toInt) ∧ (x = 6 → fd.toInt64.toInt = aTold T Ns Np v ts.toInt wr.toInt x.toInt) ∧ (x = 7 → fi.toInt64.toInt = aTold T Ns Np v ts.toInt wr.toInt x.toInt) ∧ (x = 8 → wr.toInt64.toInt = aTold T Ns Np v ts.toInt wr.toInt x.toInt) ∧ (x = 9 → ∃ (gT_16 : Nat → Nat → Int) (gNs_17 : Nat) (gNp_18 : Nat) (gX_19 : Nat) (gv_20 : Nat → Int) (gM_21 : Int), ((TOK gT_16 gNs_17 gNp_18 ∧ MT gT_16 gNs_17 gNp_18 fu fd fi zs cl ks ne mn ∧ (0 : Int32) = nI gX_19 ∧ gX_19 + 140 ≤ 560 ∧ MR gX_19 mw gv_20 ∧ NOK gT_16 gNs_17 gNp_18 (fun _ => 2 * gM_21) gM_21 gv_20 ∧ gM_21 ≤ 1000000) ∧ (∀ (r_22 : Int64), (r_22.toInt = zSum gv_20 30 gNp_18) → (r_22.toInt = aTold T Ns Np v ts.toInt wr.toInt x.toInt)))) ∧ (x = 10 → x2_8.toInt = aTold T Ns Np v ts.toInt wr.toInt x.toInt) ∧ (¬ x = 0 ∧ ¬ x = 1 ∧ ¬ x = 2 ∧ ¬ x = 3 ∧ ¬ x = 4 ∧ ¬ x = 5 ∧ ¬ x = 6 ∧ ¬ x = 7 ∧ ¬ x = 8 ∧ ¬ x = 9 ∧ ¬ x = 10 → ((-1000000002) : Int64).toInt = aTold T Ns Np v ts.toInt wr.toInt x.toInt)) ∧ (¬ ((mn 1) ≤ x4_9) → (vp_in (10 + x4_9) 560) ∧ (∀ (y_23 : Int64), (y_23 = (x2_8 + (mw (10 + x4_9).toNatClampNeg))) → (I35_10 y_23 (x4_9 + 1) ∧ μ35_11 y_23 (x4_9 + 1) < μ35_11 x2_8 x4_9))))) ∧ (¬ ((mn 0) ≤ x4_2) → (vp_in x4_2 560) ∧ (∀ (y_27 : Int64), (y_27 = (x2_1 + (mw x4_2.toNatClampNeg))) → (I5_3 y_27 (x4_2 + 1) ∧ μ5_4 y_27 (x4_2 + 1) < μ5_4 x2_1 x4_2)))) := by
  obtain ⟨hT, hC, hR, hO, hM⟩ := hp
  have t1 := hT.1
  have t2 := hT.2.1
  have hns := hC.1
  have hnp := hC.2.1
  refine ⟨fun s z => ∃ i, i ≤ Ns ∧ z = nI i ∧ s.toInt = zSum v 0 i, fun _ z => 10 - z.toNatClampNeg, ⟨0, by omega, rfl, rfl⟩, ?_⟩
  rintro s z ⟨i, hi, rfl, hs⟩
  have ei : (nI i).toNatClampNeg = i := nI_clamp (by omega)
  have ei1 : nI i + 1 = nI (i + 1) := nI_1 i
  have ej : (nI (i + 1)).toNatClampNeg = i + 1 := nI_clamp (by omega)
  simp only [ei, ei1, ej, hns]
  have s0 : ∀ n, n ≤ Ns → 0 ≤ zSum v 0 n ∧ zSum v 0 n ≤ n * 9999 := fun n hn => ⟨zSum_nn (fun j hj => by rw [Nat.zero_add]; exact (hO.1 j (by omega)).1), zSum_le (fun j hj => by rw [Nat.zero_add]; have := (hO.1 j (by omega)).2; have := (hT.2.2.1 j (by omega)).2.1; omega)⟩
  have s1 : ∀ n, n ≤ Np → 0 ≤ zSum v 10 n ∧ zSum v 10 n ≤ n * 9999 := fun n hn => ⟨zSum_nn (fun j hj => (hO.2.1 j (by omega)).1.1), zSum_le (fun j hj => (hO.2.1 j (by omega)).1.2)⟩
  refine ⟨fun h => ?_, fun h => ?_⟩
  · have e : Ns = i := by have := (nI_leI (a := Ns) (b := i) (by omega) (by omega)).mp h; omega
    subst e
    refine ⟨fun s z => ∃ i, i ≤ Np ∧ z = nI i ∧ s.toInt = zSum v 0 Ns + zSum v 10 i, fun _ z => 9 - z.toNatClampNeg, ⟨0, by omega, rfl, by rw [hs]; simp [zSum]⟩, ?_⟩
    rintro s2 z ⟨i, hi2, rfl, hs2⟩
    have fi_ : (nI i).toNatClampNeg = i := nI_clamp (by omega)
    have fi_1 : nI i + 1 = nI (i + 1) := nI_1 i
    have fj : (nI (i + 1)).toNatClampNeg = i + 1 := nI_clamp (by omega)
    have e10 : 10 + nI i = nI (10 + i) := ix1 10 i
    have c10 : (nI (10 + i)).toNatClampNeg = 10 + i := nI_clamp (by omega)
    simp only [fi_, fi_1, fj, e10, c10, hnp]
    refine ⟨fun h => ?_, fun h => ?_⟩
    · have e : Np = i := by have := (nI_leI (a := Np) (b := i) (by omega) (by omega)).mp h; omega
      subst e
      refine ⟨?_, ?_, ?_, ?_, ?_, ?_, ?_, ?_, ?_, ?_, ?_, ?_⟩
      · intro hx
        have hz : x.toInt = 0 := by rw [hx]; rfl
        simp only [aTold, hz, reduceIte, Int.reduceEq]
        exact i_l (nI_toInt (by omega))
      · intro hx
        have hz : x.toInt = 1 := by rw [hx]; rfl
        simp only [aTold, hz, reduceIte, Int.reduceEq]
        exact i_l (nI_toInt (by omega))
      · intro hx
        have hz : x.toInt = 2 := by rw [hx]; rfl
        simp only [aTold, hz, reduceIte, Int.reduceEq]
        exact i_l rfl
      · intro hx
        have hz : x.toInt = 3 := by rw [hx]; rfl
        simp only [aTold, hz, reduceIte, Int.reduceEq]
        exact hR.z (by omega)
      · intro hx
        have hz : x.toInt = 4 := by rw [hx]; rfl
        simp only [aTold, hz, reduceIte, Int.reduceEq]
        exact hR.z (by omega)
      · intro hx
        have hz : x.toInt = 5 := by rw [hx]; rfl
        simp only [aTold, hz, reduceIte, Int.reduceEq]
        exact i_l hC.2.2.2.2.1
      · intro hx
        have hz : x.toInt = 6 := by rw [hx]; rfl
        simp only [aTold, hz, reduceIte, Int.reduceEq]
        exact i_l hC.2.2.2.2.2.1
      · intro hx
        have hz : x.toInt = 7 := by rw [hx]; rfl
        simp only [aTold, hz, reduceIte, Int.reduceEq]
        exact i_l hC.2.2.2.2.2.2
      · intro hx
        have hz : x.toInt = 8 := by rw [hx]; rfl
        simp only [aTold, hz, reduceIte, Int.reduceEq]
        exact i_l rfl
      · intro hx
        have hz : x.toInt = 9 := by rw [hx]; rfl
        simp only [aTold, hz, reduceIte, Int.reduceEq]
        exact ⟨T, Ns, Np, 0, v, M, ⟨hT, hC, rfl, by omega, hR, hO, by omega⟩, fun r hr => hr⟩
      · intro hx
        have hz : x.toInt = 10 := by rw [hx]; rfl
        simp only [aTold, hz, reduceIte, Int.reduceEq]
        exact hs2
      · rintro ⟨n0, n1, n2, n3, n4, n5, n6, n7, n8, n9, n10⟩
        unfold aTold
        have N0 : ¬ x.toInt = 0 := ne_z n0; have N1 : ¬ x.toInt = 1 := ne_z n1; have N2 : ¬ x.toInt = 2 := ne_z n2; have N3 : ¬ x.toInt = 3 := ne_z n3; have N4 : ¬ x.toInt = 4 := ne_z n4; have N5 : ¬ x.toInt = 5 := ne_z n5; have N6 : ¬ x.toInt = 6 := ne_z n6; have N7 : ¬ x.toInt = 7 := ne_z n7; have N8 : ¬ x.toInt = 8 := ne_z n8; have N9 : ¬ x.toInt = 9 := ne_z n9; have N10 : ¬ x.toInt = 10 := ne_z n10
        rw [if_neg N0, if_neg N1, if_neg N2, if_neg N3, if_neg N4, if_neg N5, if_neg N6, if_neg N7, if_neg N8, if_neg N9, if_neg N10]
        rfl
    · have hlt : i < Np := by
        rcases Nat.lt_or_ge i Np with q | q
        · exact q
        · exact absurd ((nI_leI (by omega) (by omega)).mpr q) h
      have b1 := s0 Ns (Nat.le_refl _)
      have b2 := s1 i hi2
      have b3 := (hO.2.1 i hlt).1
      refine ⟨vp_in_nI (by omega) (by omega), fun y ey => ⟨⟨i + 1, by omega, rfl, ?_⟩, by omega⟩⟩
      rw [ey, zSum, l_add hs2 (hR.z (i := 10 + i) (by omega)) (by omega) (by omega)]
      omega
  · have hlt : i < Ns := by
      rcases Nat.lt_or_ge i Ns with q | q
      · exact q
      · exact absurd ((nI_leI (by omega) (by omega)).mpr q) h
    have b2 := s0 i hi
    have b3 := hO.1 i hlt
    have b4 := hT.2.2.1 i hlt
    refine ⟨vp_in_nI (by omega) (by omega), fun y ey => ⟨⟨i + 1, by omega, rfl, ?_⟩, by omega⟩⟩
    rw [ey, zSum, Nat.zero_add]
    exact l_add hs (hR.z (by omega)) (by omega) (by omega)
theorem k_X8_told (l : Launch) (G : Gt) (m0 m1 m2 m3 m4 m5 m6 m7 m8 m9 m10 m11 m12 m13 m14 : Nat) (sz : Nat) (mw : Nat → Int64) (ik : Nat → Int32) (zs : Nat → Int32) (cl : Nat → Int32) (hs : Nat → Int32) (ks : Nat → Int32) (wa : Nat → Int32) (ne : Nat → Int32) (mn : Nat → Int32) (tx : Nat → Int32) (th : Nat → Int32) (od : Nat → Int32) (bk : Nat → Int32) (bh : Nat → Int32) (fu : Int32) (fd : Int32) (fi : Int32) (nu : Int32) (nw : Int32) (nf : Int32) (bf : Int32) (bn : Int32) (ts : Int32) (ap : Int32) (fs : Int32) (ln : Int32) (fo : Int32) (fa : Int32) (wr : Int32) (x : Int32) (T : Nat → Nat → Int) (Ns : Nat) (Np : Nat) (v : Nat → Int) (M : Int) (hp : TOK T Ns Np ∧ MT T Ns Np fu fd fi zs cl ks ne mn ∧ MR 0 mw v ∧ NOK T Ns Np (fun _ => 2 * M) M v ∧ M ≤ 900000) : MetL l yX8_told wsX8_told 1 24 G [.ref m0, .int x] [(m0, .inr (8, [.ref m1, .ref m2, .ref m3, .ref m4, .ref m5, .ref m6, .ref m7, .ref m8, .ref m9, .int fu, .int fd, .int fi, .int nu, .int nw, .int nf, .int bf, .int bn, .ref m10, .int ts, .int ap, .int fs, .int ln, .int fo, .int fa, .ref m11, .ref m12, .ref m13, .ref m14, .int wr])), aJ G m1 560 mw, aZ G m2 2 ik, aI G m3 20 zs, aI G m4 20 cl, aI G m5 20 hs, aI G m6 20 ks, aI G m7 20 wa, aI G m8 20 ne, aI G m9 4 mn, aI G m10 400 tx, aI G m11 6 th, aI G m12 6 od, aI G m13 30 bk, aI G m14 30 bh] sz (fun (r : Int64) (_ : Unit) => r.toInt = aTold T Ns Np v ts.toInt wr.toInt x.toInt) (fun (_ : Unit) => [(m0, .inr (8, [.ref m1, .ref m2, .ref m3, .ref m4, .ref m5, .ref m6, .ref m7, .ref m8, .ref m9, .int fu, .int fd, .int fi, .int nu, .int nw, .int nf, .int bf, .int bn, .ref m10, .int ts, .int ap, .int fs, .int ln, .int fo, .int fa, .ref m11, .ref m12, .ref m13, .ref m14, .int wr])), aJ G m1 560 mw, aZ G m2 2 ik, aI G m3 20 zs, aI G m4 20 cl, aI G m5 20 hs, aI G m6 20 ks, aI G m7 20 wa, aI G m8 20 ne, aI G m9 4 mn, aI G m10 400 tx, aI G m11 6 th, aI G m12 6 od, aI G m13 30 bk, aI G m14 30 bh]) :=
  c_X8_told l G m0 m1 m2 m3 m4 m5 m6 m7 m8 m9 m10 m11 m12 m13 m14 sz mw ik zs cl hs ks wa ne mn tx th od bk bh fu fd fi nu nw nf bf bn ts ap fs ln fo fa wr x T Ns Np v M (v_X8_told l G m0 m1 m2 m3 m4 m5 m6 m7 m8 m9 m10 m11 m12 m13 m14 sz mw ik zs cl hs ks wa ne mn tx th od bk bh fu fd fi nu nw nf bf bn ts ap fs ln fo fa wr x T Ns Np v M hp)

set_option maxHeartbeats 4000000 in
set_option maxRecDepth 100000 in
theorem c_X8_stone (l : Launch) (G : Gt) (m0 m1 m2 m3 m4 m5 m6 m7 m8 m9 m10 m11 m12 m13 m14 : Nat) (sz : Nat) (mw : Nat → Int64) (ik : Nat → Int32) (zs : Nat → Int32) (cl : Nat → Int32) (hs : Nat → Int32) (ks : Nat → Int32) (wa : Nat → Int32) (ne : Nat → Int32) (mn : Nat → Int32) (tx : Nat → Int32) (th : Nat → Int32) (od : Nat → Int32) (bk : Nat → Int32) (bh : Nat → Int32) (fu : Int32) (fd : Int32) (fi : Int32) (nu : Int32) (nw : Int32) (nf : Int32) (bf : Int32) (bn : Int32) (ts : Int32) (ap : Int32) (fs : Int32) (ln : Int32) (fo : Int32) (fa : Int32) (wr : Int32) (x : Int32) (y : Int32) (T : Nat → Nat → Int) (Ns : Nat) (Np : Nat) (v : Nat → Int) (M : Int) (hv : (inR x (mn 0) → (¬ y = 0 → (¬ y = 1 → (¬ y = 2 → (¬ y = 3 → ((-1000000002) : Int32).toInt = aStone T Ns Np v x.toInt y.toInt) ∧ (y = 3 → ∃ (gT_7 : Nat → Nat → Int) (gNs_8 : Nat) (gNp_9 : Nat) (gX_10 : Nat) (gv_11 : Nat → Int) (gib_12 : Nat), ((TOK gT_7 gNs_8 gNp_9 ∧ MT gT_7 gNs_8 gNp_9 fu fd fi zs cl ks ne mn ∧ (0 : Int32) = nI gX_10 ∧ gX_10 + 140 ≤ 560 ∧ MR gX_10 mw gv_11 ∧ x = nI gib_12 ∧ gib_12 < 9) ∧ (∀ (r_13 : Int32), ((r_13 < 0 ↔ zEmpty gv_11 gib_12 gNp_9) ∧ r_13 = zSitter gv_11 gib_12 gNp_9) → (r_13.toInt = aStone T Ns Np v x.toInt y.toInt))))) ∧ (y = 2 → (vp_in x 560) ∧ (((mw x.toNatClampNeg).toInt32).toInt = aStone T Ns Np v x.toInt y.toInt))) ∧ (y = 1 → (vp_in x 20) ∧ ((cl x.toNatClampNeg).toInt = aStone T Ns Np v x.toInt y.toInt))) ∧ (y = 0 → (vp_in x 20) ∧ ((zs x.toNatClampNeg).toInt = aStone T Ns Np v x.toInt y.toInt))) ∧ (¬ (inR x (mn 0)) → ((-1000000001) : Int32).toInt = aStone T Ns Np v x.toInt y.toInt)) : MetI l yX8_stone wsX8_stone 2 46 G [.ref m0, .int x, .int y] [(m0, .inr (8, [.ref m1, .ref m2, .ref m3, .ref m4, .ref m5, .ref m6, .ref m7, .ref m8, .ref m9, .int fu, .int fd, .int fi, .int nu, .int nw, .int nf, .int bf, .int bn, .ref m10, .int ts, .int ap, .int fs, .int ln, .int fo, .int fa, .ref m11, .ref m12, .ref m13, .ref m14, .int wr])), aJ G m1 560 mw, aZ G m2 2 ik, aI G m3 20 zs, aI G m4 20 cl, aI G m5 20 hs, aI G m6 20 ks, aI G m7 20 wa, aI G m8 20 ne, aI G m9 4 mn, aI G m10 400 tx, aI G m11 6 th, aI G m12 6 od, aI G m13 30 bk, aI G m14 30 bh] sz (fun (r : Int32) (_ : Unit) => r.toInt = aStone T Ns Np v x.toInt y.toInt) (fun (_ : Unit) => [(m0, .inr (8, [.ref m1, .ref m2, .ref m3, .ref m4, .ref m5, .ref m6, .ref m7, .ref m8, .ref m9, .int fu, .int fd, .int fi, .int nu, .int nw, .int nf, .int bf, .int bn, .ref m10, .int ts, .int ap, .int fs, .int ln, .int fo, .int fa, .ref m11, .ref m12, .ref m13, .ref m14, .int wr])), aJ G m1 560 mw, aZ G m2 2 ik, aI G m3 20 zs, aI G m4 20 cl, aI G m5 20 hs, aI G m6 20 ks, aI G m7 20 wa, aI G m8 20 ne, aI G m9 4 mn, aI G m10 400 tx, aI G m11 6 th, aI G m12 6 od, aI G m13 30 bk, aI G m14 30 bh]) := by
  refine x_startI (cc := cX8_stone) (maxL := 3) (ret := (some .int)) (by decide) rfl (Nat.le_of_ble_eq_true rfl) ?_
  intro p e s m args below meth c A R Q ls hRf hRl hQ C hP hD hS hA hSS hl
  obtain ⟨hx, hb, hr, hml, hown, hts, hlocks, hKK⟩ := C
  have hown : s.vm.findClass RX8 = some m.cls := hown
  have hl : lv_has ls 3 [(0, .ref m0), (1, .int x), (2, .int y)] := hl
  have hinX8 : ∀ w ∈ u_ws RX8 TX8 29, w ∈ wsX8_stone := by decide +kernel
  have kl164 := hts (.constant RX8 164 (-1000000001)) (by decide +kernel)
  have kl17 := hts (.fieldLink RX8 17 "WarmStonesModel" "sizes" "[I") (by decide +kernel)
  have kl21 := hts (.fieldLink RX8 21 "WarmStonesModel" "coolings" "[I") (by decide +kernel)
  have kl7 := hts (.fieldLink RX8 7 "WarmStonesModel" "w" "[J") (by decide +kernel)
  have kl73 := hts (.constant RX8 73 (-1000000002)) (by decide +kernel)
  refine lv_aload_n hx hb dX8_stone_0 rfl (lv_at hl 0 rfl) ?_
  refine lv_iload_n hx hb dX8_stone_1 rfl (lv_at hl 1 rfl) ?_
  refine x_calliR (x_runV (As := [.int x]) (rest := []) (n := 1) (C := RX8) (ci := 8) ⟨hx, hb, hml, hown, hts⟩ (k_X8_isStone l G m0 m1 m2 m3 m4 m5 m6 m7 m8 m9 m10 m11 m12 m13 m14 _ mw ik zs cl hs ks wa ne mn tx th od bk bh fu fd fi nu nw nf bf bn ts ap fs ln fo fa wr x) gX8_stone_X8_isStone rfl (by decide +kernel) ⟨Nat.le_trans (Nat.le_of_ble_eq_true rfl) hRf, Nat.le_trans (Nat.le_of_ble_eq_true rfl) hRl⟩ hKK hSS hS hA hP hD [0, 1, 2, 3, 4, 5, 6, 7, 8, 9, 10, 11, 12, 13, 14] (by decide) rfl rfl rfl 0 rfl rfl hl.1 rfl (Nat.le_of_ble_eq_true rfl) dX8_stone_2) hP hD hS hA [0, 1, 2, 3, 4, 5, 6, 7, 8, 9, 10, 11, 12, 13, 14] rfl (fun r_1 _ H locs hw hP hS => ?_)
  replace hw := hw.symm; subst hw
  refine lv_if_ne (tgt := 11) hx hb dX8_stone_5 (by decide) (fun hc_2 => ?_) (fun hc_2 => ?_)
  · have hv := hv.1 (tv_eqn.mp hc_2)
    refine lv_iload_n hx hb dX8_stone_11 rfl (lv_at hl 2 rfl) ?_
    refine lv_if_ne (tgt := 24) hx hb dX8_stone_12 (by decide) (fun hc_3 => ?_) (fun hc_3 => ?_)
    · have hv := hv.1 hc_3
      refine lv_iload_n hx hb dX8_stone_24 rfl (lv_at hl 2 rfl) ?_
      refine lv_iconst (v := 1) hx hb dX8_stone_25 (by decide) ?_
      refine lv_icmp_ne (tgt := 38) hx hb dX8_stone_26 (by decide) (fun hc_4 => ?_) (fun hc_4 => ?_)
      · have hv := hv.1 hc_4
        refine lv_iload_n hx hb dX8_stone_38 rfl (lv_at hl 2 rfl) ?_
        refine lv_iconst (v := 2) hx hb dX8_stone_39 (by decide) ?_
        refine lv_icmp_ne (tgt := 53) hx hb dX8_stone_40 (by decide) (fun hc_5 => ?_) (fun hc_5 => ?_)
        · have hv := hv.1 hc_5
          refine lv_iload_n hx hb dX8_stone_53 rfl (lv_at hl 2 rfl) ?_
          refine lv_iconst (v := 3) hx hb dX8_stone_54 (by decide) ?_
          refine lv_icmp_ne (tgt := 67) hx hb dX8_stone_55 (by decide) (fun hc_6 => ?_) (fun hc_6 => ?_)
          · have hv := hv.1 hc_6
            refine lv_ldc (v := (-1000000002)) hx hb hown kl73 dX8_stone_67 ?_
            exact x_iret (v := (-1000000002)) () hQ hx hb hr hlocks hS dX8_stone_69 hv hP hD
          · have hv := hv.2 hc_6
            refine lv_aload_n hx hb dX8_stone_58 rfl (lv_at hl 0 rfl) ?_
            refine lv_iconst (v := 0) hx hb dX8_stone_59 (by decide) ?_
            refine lv_iload_n hx hb dX8_stone_60 rfl (lv_at hl 1 rfl) ?_
            obtain ⟨gT_7, gNs_8, gNp_9, gX_10, gv_11, gib_12, hv⟩ := hv
            obtain ⟨hp, hv⟩ := hv
            refine x_calliR (x_runV (As := [.int 0, .int x]) (rest := []) (n := 2) (C := RX8) (ci := 8) ⟨hx, hb, hml, hown, hts⟩ (k_X8_sitter l G m0 m1 m2 m3 m4 m5 m6 m7 m8 m9 m10 m11 m12 m13 m14 _ mw ik zs cl hs ks wa ne mn tx th od bk bh fu fd fi nu nw nf bf bn ts ap fs ln fo fa wr 0 x gT_7 gNs_8 gNp_9 gX_10 gv_11 gib_12 hp) gX8_stone_X8_sitter rfl (by decide +kernel) ⟨Nat.le_trans (Nat.le_of_ble_eq_true rfl) hRf, Nat.le_trans (Nat.le_of_ble_eq_true rfl) hRl⟩ hKK hSS hS hA hP hD [0, 1, 2, 3, 4, 5, 6, 7, 8, 9, 10, 11, 12, 13, 14] (by decide) rfl rfl rfl 0 rfl rfl hl.1 rfl (Nat.le_of_ble_eq_true rfl) dX8_stone_61) hP hD hS hA [0, 1, 2, 3, 4, 5, 6, 7, 8, 9, 10, 11, 12, 13, 14] rfl (fun r_13 _ H locs hw hP hS => ?_)
            have hv := hv r_13 hw
            refine lv_goto (tgt := 69) hx hb dX8_stone_64 (by decide) ?_
            exact x_iret (v := r_13) () hQ hx hb hr hlocks hS dX8_stone_69 hv hP hD
        · have hv := hv.2 hc_5
          refine lv_aload_n hx hb dX8_stone_43 rfl (lv_at hl 0 rfl) ?_
          refine va_get (D := G.1) (ci := 8) (v := .ref m1) (C := RX8) (T := TX8) (N := 29) hx hb hts hinX8 hown hKK.1 hP 0 rfl rfl 0 (by decide) kl7 (fun _ h9 => h9) rfl dX8_stone_44 ?_
          refine lv_iload_n hx hb dX8_stone_47 rfl (lv_at hl 1 rfl) ?_
          obtain ⟨hin, hv⟩ := hv
          refine va_lald hx hb hKK.1 hP 1 2 rfl rfl hin dX8_stone_48 ?_
          refine lv_l2i hx hb dX8_stone_49 rfl ?_
          refine lv_goto (tgt := 69) hx hb dX8_stone_50 (by decide) ?_
          exact x_iret (v := (mw x.toNatClampNeg).toInt32) () hQ hx hb hr hlocks hS dX8_stone_69 hv hP hD
      · have hv := hv.2 hc_4
        refine lv_aload_n hx hb dX8_stone_29 rfl (lv_at hl 0 rfl) ?_
        refine va_get (D := G.1) (ci := 8) (v := .ref m4) (C := RX8) (T := TX8) (N := 29) hx hb hts hinX8 hown hKK.1 hP 0 rfl rfl 3 (by decide) kl21 (fun _ h9 => h9) rfl dX8_stone_30 ?_
        refine lv_iload_n hx hb dX8_stone_33 rfl (lv_at hl 1 rfl) ?_
        obtain ⟨hin, hv⟩ := hv
        refine va_iald hx hb hKK.1 hP 4 0 rfl rfl hin dX8_stone_34 ?_
        refine lv_goto (tgt := 69) hx hb dX8_stone_35 (by decide) ?_
        exact x_iret (v := (cl x.toNatClampNeg)) () hQ hx hb hr hlocks hS dX8_stone_69 hv hP hD
    · have hv := hv.2 hc_3
      refine lv_aload_n hx hb dX8_stone_15 rfl (lv_at hl 0 rfl) ?_
      refine va_get (D := G.1) (ci := 8) (v := .ref m3) (C := RX8) (T := TX8) (N := 29) hx hb hts hinX8 hown hKK.1 hP 0 rfl rfl 2 (by decide) kl17 (fun _ h9 => h9) rfl dX8_stone_16 ?_
      refine lv_iload_n hx hb dX8_stone_19 rfl (lv_at hl 1 rfl) ?_
      obtain ⟨hin, hv⟩ := hv
      refine va_iald hx hb hKK.1 hP 3 0 rfl rfl hin dX8_stone_20 ?_
      refine lv_goto (tgt := 69) hx hb dX8_stone_21 (by decide) ?_
      exact x_iret (v := (zs x.toNatClampNeg)) () hQ hx hb hr hlocks hS dX8_stone_69 hv hP hD
  · have hv := hv.2 (tv_eq.mp hc_2)
    refine lv_ldc (v := (-1000000001)) hx hb hown kl164 dX8_stone_8 ?_
    exact x_iret (v := (-1000000001)) () hQ hx hb hr hlocks hS dX8_stone_10 hv hP hD
theorem v_X8_stone (l : Launch) (G : Gt) (m0 m1 m2 m3 m4 m5 m6 m7 m8 m9 m10 m11 m12 m13 m14 : Nat) (sz : Nat) (mw : Nat → Int64) (ik : Nat → Int32) (zs : Nat → Int32) (cl : Nat → Int32) (hs : Nat → Int32) (ks : Nat → Int32) (wa : Nat → Int32) (ne : Nat → Int32) (mn : Nat → Int32) (tx : Nat → Int32) (th : Nat → Int32) (od : Nat → Int32) (bk : Nat → Int32) (bh : Nat → Int32) (fu : Int32) (fd : Int32) (fi : Int32) (nu : Int32) (nw : Int32) (nf : Int32) (bf : Int32) (bn : Int32) (ts : Int32) (ap : Int32) (fs : Int32) (ln : Int32) (fo : Int32) (fa : Int32) (wr : Int32) (x : Int32) (y : Int32) (T : Nat → Nat → Int) (Ns : Nat) (Np : Nat) (v : Nat → Int) (M : Int) (hp : TOK T Ns Np ∧ MT T Ns Np fu fd fi zs cl ks ne mn ∧ MR 0 mw v ∧ NOK T Ns Np (fun _ => 2 * M) M v ∧ M ≤ 900000) : (inR x (mn 0) → (¬ y = 0 → (¬ y = 1 → (¬ y = 2 → (¬ y = 3 → ((-1000000002) : Int32).toInt = aStone T Ns Np v x.toInt y.toInt) ∧ (y = 3 → ∃ (gT_7 : Nat → Nat → Int) (gNs_8 : Nat) (gNp_9 : Nat) (gX_10 : Nat) (gv_11 : Nat → Int) (gib_12 : Nat), ((TOK gT_7 gNs_8 gNp_9 ∧ MT gT_7 gNs_8 gNp_9 fu fd fi zs cl ks ne mn ∧ (0 : Int32) = nI gX_10 ∧ gX_10 + 140 ≤ 560 ∧ MR gX_10 mw gv_11 ∧ x = nI gib_12 ∧ gib_12 < 9) ∧ (∀ (r_13 : Int32), ((r_13 < 0 ↔ zEmpty gv_11 gib_12 gNp_9) ∧ r_13 = zSitter gv_11 gib_12 gNp_9) → (r_13.toInt = aStone T Ns Np v x.toInt y.toInt))))) ∧ (y = 2 → (vp_in x 560) ∧ (((mw x.toNatClampNeg).toInt32).toInt = aStone T Ns Np v x.toInt y.toInt))) ∧ (y = 1 → (vp_in x 20) ∧ ((cl x.toNatClampNeg).toInt = aStone T Ns Np v x.toInt y.toInt))) ∧ (y = 0 → (vp_in x 20) ∧ ((zs x.toNatClampNeg).toInt = aStone T Ns Np v x.toInt y.toInt))) ∧ (¬ (inR x (mn 0)) → ((-1000000001) : Int32).toInt = aStone T Ns Np v x.toInt y.toInt) := by
  obtain ⟨hT, hC, hR, hO, hM⟩ := hp
  have t1 := hT.1
  have t2 := hT.2.1
  have hs_ := inR_iff (x := x) hC.1 (by omega)
  simp only [hs_]
  refine ⟨fun hq => ?_, fun hq => ?_⟩
  · obtain ⟨i, hi, rfl, hxi, hxt⟩ := in_nat hq (by omega)
    have ei : (nI i).toNatClampNeg = i := nI_clamp (by omega)
    simp only [ei]
    refine ⟨fun y0 => ⟨fun y1 => ⟨fun y2 => ⟨fun y3 => ?_, fun hy => ?_⟩, fun hy => ⟨vp_in_nI (by omega) (by omega), ?_⟩⟩, fun hy => ⟨vp_in_nI (by omega) (by omega), ?_⟩⟩, fun hy => ⟨vp_in_nI (by omega) (by omega), ?_⟩⟩
    · unfold aStone
      have N0 : ¬ y.toInt = 0 := ne_z y0; have N1 : ¬ y.toInt = 1 := ne_z y1; have N2 : ¬ y.toInt = 2 := ne_z y2; have N3 : ¬ y.toInt = 3 := ne_z y3
      rw [if_pos hq, if_neg N0, if_neg N1, if_neg N2, if_neg N3]; rfl
    · have hz : y.toInt = 3 := by rw [hy]; rfl
      simp only [aStone, if_pos hq, hz, reduceIte, Int.reduceEq, hxt]
      exact ⟨T, Ns, Np, 0, v, i, ⟨hT, hC, rfl, by omega, hR, rfl, by omega⟩, fun r2 hr2 => by rw [hr2.2]⟩
    · have hz : y.toInt = 2 := by rw [hy]; rfl
      simp only [aStone, if_pos hq, hz, reduceIte, Int.reduceEq, hxt]
      have b := hO.1 i hi
      have b2 := hT.2.2.1 i hi
      exact l_iZ (hR.z (by omega)) (by omega) (by omega)
    · have hz : y.toInt = 1 := by rw [hy]; rfl
      simp only [aStone, if_pos hq, hz, reduceIte, Int.reduceEq, hxt]
      exact (hC.2.2.1 i hi).2
    · have hz : y.toInt = 0 := by rw [hy]; rfl
      simp only [aStone, if_pos hq, hz, reduceIte, Int.reduceEq, hxt]
      exact (hC.2.2.1 i hi).1
  · unfold aStone
    rw [if_neg hq]; rfl
theorem k_X8_stone (l : Launch) (G : Gt) (m0 m1 m2 m3 m4 m5 m6 m7 m8 m9 m10 m11 m12 m13 m14 : Nat) (sz : Nat) (mw : Nat → Int64) (ik : Nat → Int32) (zs : Nat → Int32) (cl : Nat → Int32) (hs : Nat → Int32) (ks : Nat → Int32) (wa : Nat → Int32) (ne : Nat → Int32) (mn : Nat → Int32) (tx : Nat → Int32) (th : Nat → Int32) (od : Nat → Int32) (bk : Nat → Int32) (bh : Nat → Int32) (fu : Int32) (fd : Int32) (fi : Int32) (nu : Int32) (nw : Int32) (nf : Int32) (bf : Int32) (bn : Int32) (ts : Int32) (ap : Int32) (fs : Int32) (ln : Int32) (fo : Int32) (fa : Int32) (wr : Int32) (x : Int32) (y : Int32) (T : Nat → Nat → Int) (Ns : Nat) (Np : Nat) (v : Nat → Int) (M : Int) (hp : TOK T Ns Np ∧ MT T Ns Np fu fd fi zs cl ks ne mn ∧ MR 0 mw v ∧ NOK T Ns Np (fun _ => 2 * M) M v ∧ M ≤ 900000) : MetI l yX8_stone wsX8_stone 2 46 G [.ref m0, .int x, .int y] [(m0, .inr (8, [.ref m1, .ref m2, .ref m3, .ref m4, .ref m5, .ref m6, .ref m7, .ref m8, .ref m9, .int fu, .int fd, .int fi, .int nu, .int nw, .int nf, .int bf, .int bn, .ref m10, .int ts, .int ap, .int fs, .int ln, .int fo, .int fa, .ref m11, .ref m12, .ref m13, .ref m14, .int wr])), aJ G m1 560 mw, aZ G m2 2 ik, aI G m3 20 zs, aI G m4 20 cl, aI G m5 20 hs, aI G m6 20 ks, aI G m7 20 wa, aI G m8 20 ne, aI G m9 4 mn, aI G m10 400 tx, aI G m11 6 th, aI G m12 6 od, aI G m13 30 bk, aI G m14 30 bh] sz (fun (r : Int32) (_ : Unit) => r.toInt = aStone T Ns Np v x.toInt y.toInt) (fun (_ : Unit) => [(m0, .inr (8, [.ref m1, .ref m2, .ref m3, .ref m4, .ref m5, .ref m6, .ref m7, .ref m8, .ref m9, .int fu, .int fd, .int fi, .int nu, .int nw, .int nf, .int bf, .int bn, .ref m10, .int ts, .int ap, .int fs, .int ln, .int fo, .int fa, .ref m11, .ref m12, .ref m13, .ref m14, .int wr])), aJ G m1 560 mw, aZ G m2 2 ik, aI G m3 20 zs, aI G m4 20 cl, aI G m5 20 hs, aI G m6 20 ks, aI G m7 20 wa, aI G m8 20 ne, aI G m9 4 mn, aI G m10 400 tx, aI G m11 6 th, aI G m12 6 od, aI G m13 30 bk, aI G m14 30 bh]) :=
  c_X8_stone l G m0 m1 m2 m3 m4 m5 m6 m7 m8 m9 m10 m11 m12 m13 m14 sz mw ik zs cl hs ks wa ne mn tx th od bk bh fu fd fi nu nw nf bf bn ts ap fs ln fo fa wr x y T Ns Np v M (v_X8_stone l G m0 m1 m2 m3 m4 m5 m6 m7 m8 m9 m10 m11 m12 m13 m14 sz mw ik zs cl hs ks wa ne mn tx th od bk bh fu fd fi nu nw nf bf bn ts ap fs ln fo fa wr x y T Ns Np v M hp)

set_option maxHeartbeats 4000000 in
set_option maxRecDepth 100000 in
theorem c_X8_person (l : Launch) (G : Gt) (m0 m1 m2 m3 m4 m5 m6 m7 m8 m9 m10 m11 m12 m13 m14 : Nat) (sz : Nat) (mw : Nat → Int64) (ik : Nat → Int32) (zs : Nat → Int32) (cl : Nat → Int32) (hs : Nat → Int32) (ks : Nat → Int32) (wa : Nat → Int32) (ne : Nat → Int32) (mn : Nat → Int32) (tx : Nat → Int32) (th : Nat → Int32) (od : Nat → Int32) (bk : Nat → Int32) (bh : Nat → Int32) (fu : Int32) (fd : Int32) (fi : Int32) (nu : Int32) (nw : Int32) (nf : Int32) (bf : Int32) (bn : Int32) (ts : Int32) (ap : Int32) (fs : Int32) (ln : Int32) (fo : Int32) (fa : Int32) (wr : Int32) (x : Int32) (y : Int32) (T : Nat → Nat → Int) (Ns : Nat) (Np : Nat) (v : Nat → Int) (M : Int) (hv : (inR x (mn 1) → (y = 0 → (vp_in x 20) ∧ ((ks x.toNatClampNeg).toInt = aPerson T Np v x.toInt y.toInt)) ∧ (y = 1 → (vp_in x 20) ∧ ((ne x.toNatClampNeg).toInt = aPerson T Np v x.toInt y.toInt)) ∧ (y = 2 → (vp_in (10 + x) 560) ∧ (((mw (10 + x).toNatClampNeg).toInt32).toInt = aPerson T Np v x.toInt y.toInt)) ∧ (y = 3 → (vp_in (20 + x) 560) ∧ (((mw (20 + x).toNatClampNeg).toInt32).toInt = aPerson T Np v x.toInt y.toInt)) ∧ (y = 4 → (vp_in (30 + x) 560) ∧ (((mw (30 + x).toNatClampNeg).toInt32).toInt = aPerson T Np v x.toInt y.toInt)) ∧ (y = 5 → (vp_in (40 + x) 560) ∧ (((mw (40 + x).toNatClampNeg).toInt32).toInt = aPerson T Np v x.toInt y.toInt)) ∧ (y = 6 → (vp_in (50 + x) 560) ∧ (((mw (50 + x).toNatClampNeg).toInt32).toInt = aPerson T Np v x.toInt y.toInt)) ∧ (¬ y = 0 ∧ ¬ y = 1 ∧ ¬ y = 2 ∧ ¬ y = 3 ∧ ¬ y = 4 ∧ ¬ y = 5 ∧ ¬ y = 6 → ((-1000000002) : Int32).toInt = aPerson T Np v x.toInt y.toInt)) ∧ (¬ (inR x (mn 1)) → ((-1000000001) : Int32).toInt = aPerson T Np v x.toInt y.toInt)) : MetI l yX8_person wsX8_person 2 46 G [.ref m0, .int x, .int y] [(m0, .inr (8, [.ref m1, .ref m2, .ref m3, .ref m4, .ref m5, .ref m6, .ref m7, .ref m8, .ref m9, .int fu, .int fd, .int fi, .int nu, .int nw, .int nf, .int bf, .int bn, .ref m10, .int ts, .int ap, .int fs, .int ln, .int fo, .int fa, .ref m11, .ref m12, .ref m13, .ref m14, .int wr])), aJ G m1 560 mw, aZ G m2 2 ik, aI G m3 20 zs, aI G m4 20 cl, aI G m5 20 hs, aI G m6 20 ks, aI G m7 20 wa, aI G m8 20 ne, aI G m9 4 mn, aI G m10 400 tx, aI G m11 6 th, aI G m12 6 od, aI G m13 30 bk, aI G m14 30 bh] sz (fun (r : Int32) (_ : Unit) => r.toInt = aPerson T Np v x.toInt y.toInt) (fun (_ : Unit) => [(m0, .inr (8, [.ref m1, .ref m2, .ref m3, .ref m4, .ref m5, .ref m6, .ref m7, .ref m8, .ref m9, .int fu, .int fd, .int fi, .int nu, .int nw, .int nf, .int bf, .int bn, .ref m10, .int ts, .int ap, .int fs, .int ln, .int fo, .int fa, .ref m11, .ref m12, .ref m13, .ref m14, .int wr])), aJ G m1 560 mw, aZ G m2 2 ik, aI G m3 20 zs, aI G m4 20 cl, aI G m5 20 hs, aI G m6 20 ks, aI G m7 20 wa, aI G m8 20 ne, aI G m9 4 mn, aI G m10 400 tx, aI G m11 6 th, aI G m12 6 od, aI G m13 30 bk, aI G m14 30 bh]) := by
  refine x_startI (cc := cX8_person) (maxL := 3) (ret := (some .int)) (by decide) rfl (Nat.le_of_ble_eq_true rfl) ?_
  intro p e s m args below meth c A R Q ls hRf hRl hQ C hP hD hS hA hSS hl
  obtain ⟨hx, hb, hr, hml, hown, hts, hlocks, hKK⟩ := C
  have hown : s.vm.findClass RX8 = some m.cls := hown
  have hl : lv_has ls 3 [(0, .ref m0), (1, .int x), (2, .int y)] := hl
  have hinX8 : ∀ w ∈ u_ws RX8 TX8 29, w ∈ wsX8_person := by decide +kernel
  have kl164 := hts (.constant RX8 164 (-1000000001)) (by decide +kernel)
  have kl27 := hts (.fieldLink RX8 27 "WarmStonesModel" "kinds" "[I") (by decide +kernel)
  have kl33 := hts (.fieldLink RX8 33 "WarmStonesModel" "needs" "[I") (by decide +kernel)
  have kl7 := hts (.fieldLink RX8 7 "WarmStonesModel" "w" "[J") (by decide +kernel)
  have kl73 := hts (.constant RX8 73 (-1000000002)) (by decide +kernel)
  refine lv_aload_n hx hb dX8_person_0 rfl (lv_at hl 0 rfl) ?_
  refine lv_iload_n hx hb dX8_person_1 rfl (lv_at hl 1 rfl) ?_
  refine x_calliR (x_runV (As := [.int x]) (rest := []) (n := 1) (C := RX8) (ci := 8) ⟨hx, hb, hml, hown, hts⟩ (k_X8_isPerson l G m0 m1 m2 m3 m4 m5 m6 m7 m8 m9 m10 m11 m12 m13 m14 _ mw ik zs cl hs ks wa ne mn tx th od bk bh fu fd fi nu nw nf bf bn ts ap fs ln fo fa wr x) gX8_person_X8_isPerson rfl (by decide +kernel) ⟨Nat.le_trans (Nat.le_of_ble_eq_true rfl) hRf, Nat.le_trans (Nat.le_of_ble_eq_true rfl) hRl⟩ hKK hSS hS hA hP hD [0, 1, 2, 3, 4, 5, 6, 7, 8, 9, 10, 11, 12, 13, 14] (by decide) rfl rfl rfl 0 rfl rfl hl.1 rfl (Nat.le_of_ble_eq_true rfl) dX8_person_2) hP hD hS hA [0, 1, 2, 3, 4, 5, 6, 7, 8, 9, 10, 11, 12, 13, 14] rfl (fun r_1 _ H locs hw hP hS => ?_)
  replace hw := hw.symm; subst hw
  refine lv_if_ne (tgt := 11) hx hb dX8_person_5 (by decide) (fun hc_2 => ?_) (fun hc_2 => ?_)
  · have hv := hv.1 (tv_eqn.mp hc_2)
    refine lv_iload_n hx hb dX8_person_11 rfl (lv_at hl 2 rfl) ?_
    by_cases hk_30 : y = 0
    · have hv := hv.1 hk_30
      refine lv_tableIn (off := 44) (tgt := 56) hx hb dX8_person_12 (by rw [hk_30]; decide) (by rw [hk_30]; decide) (by rw [hk_30]; decide) (by decide) ?_
      refine lv_aload_n hx hb dX8_person_56 rfl (lv_at hl 0 rfl) ?_
      refine va_get (D := G.1) (ci := 8) (v := .ref m6) (C := RX8) (T := TX8) (N := 29) hx hb hts hinX8 hown hKK.1 hP 0 rfl rfl 5 (by decide) kl27 (fun _ h9 => h9) rfl dX8_person_57 ?_
      refine lv_iload_n hx hb dX8_person_60 rfl (lv_at hl 1 rfl) ?_
      obtain ⟨hin, hv⟩ := hv
      refine va_iald hx hb hKK.1 hP 6 0 rfl rfl hin dX8_person_61 ?_
      exact x_iret (v := (ks x.toNatClampNeg)) () hQ hx hb hr hlocks hS dX8_person_62 hv hP hD
    replace hv := hv.2
    by_cases hk_31 : y = 1
    · have hv := hv.1 hk_31
      refine lv_tableIn (off := 51) (tgt := 63) hx hb dX8_person_12 (by rw [hk_31]; decide) (by rw [hk_31]; decide) (by rw [hk_31]; decide) (by decide) ?_
      refine lv_aload_n hx hb dX8_person_63 rfl (lv_at hl 0 rfl) ?_
      refine va_get (D := G.1) (ci := 8) (v := .ref m8) (C := RX8) (T := TX8) (N := 29) hx hb hts hinX8 hown hKK.1 hP 0 rfl rfl 7 (by decide) kl33 (fun _ h9 => h9) rfl dX8_person_64 ?_
      refine lv_iload_n hx hb dX8_person_67 rfl (lv_at hl 1 rfl) ?_
      obtain ⟨hin, hv⟩ := hv
      refine va_iald hx hb hKK.1 hP 8 0 rfl rfl hin dX8_person_68 ?_
      exact x_iret (v := (ne x.toNatClampNeg)) () hQ hx hb hr hlocks hS dX8_person_69 hv hP hD
    replace hv := hv.2
    by_cases hk_32 : y = 2
    · have hv := hv.1 hk_32
      refine lv_tableIn (off := 58) (tgt := 70) hx hb dX8_person_12 (by rw [hk_32]; decide) (by rw [hk_32]; decide) (by rw [hk_32]; decide) (by decide) ?_
      refine lv_aload_n hx hb dX8_person_70 rfl (lv_at hl 0 rfl) ?_
      refine va_get (D := G.1) (ci := 8) (v := .ref m1) (C := RX8) (T := TX8) (N := 29) hx hb hts hinX8 hown hKK.1 hP 0 rfl rfl 0 (by decide) kl7 (fun _ h9 => h9) rfl dX8_person_71 ?_
      refine lv_bipush (v := 10) hx hb dX8_person_74 (by decide) ?_
      refine lv_iload_n hx hb dX8_person_76 rfl (lv_at hl 1 rfl) ?_
      refine lv_iadd hx hb dX8_person_77 ?_
      obtain ⟨hin, hv⟩ := hv
      refine va_lald hx hb hKK.1 hP 1 2 rfl rfl hin dX8_person_78 ?_
      refine lv_l2i hx hb dX8_person_79 rfl ?_
      exact x_iret (v := (mw (10 + x).toNatClampNeg).toInt32) () hQ hx hb hr hlocks hS dX8_person_80 hv hP hD
    replace hv := hv.2
    by_cases hk_33 : y = 3
    · have hv := hv.1 hk_33
      refine lv_tableIn (off := 69) (tgt := 81) hx hb dX8_person_12 (by rw [hk_33]; decide) (by rw [hk_33]; decide) (by rw [hk_33]; decide) (by decide) ?_
      refine lv_aload_n hx hb dX8_person_81 rfl (lv_at hl 0 rfl) ?_
      refine va_get (D := G.1) (ci := 8) (v := .ref m1) (C := RX8) (T := TX8) (N := 29) hx hb hts hinX8 hown hKK.1 hP 0 rfl rfl 0 (by decide) kl7 (fun _ h9 => h9) rfl dX8_person_82 ?_
      refine lv_bipush (v := 20) hx hb dX8_person_85 (by decide) ?_
      refine lv_iload_n hx hb dX8_person_87 rfl (lv_at hl 1 rfl) ?_
      refine lv_iadd hx hb dX8_person_88 ?_
      obtain ⟨hin, hv⟩ := hv
      refine va_lald hx hb hKK.1 hP 1 2 rfl rfl hin dX8_person_89 ?_
      refine lv_l2i hx hb dX8_person_90 rfl ?_
      exact x_iret (v := (mw (20 + x).toNatClampNeg).toInt32) () hQ hx hb hr hlocks hS dX8_person_91 hv hP hD
    replace hv := hv.2
    by_cases hk_34 : y = 4
    · have hv := hv.1 hk_34
      refine lv_tableIn (off := 80) (tgt := 92) hx hb dX8_person_12 (by rw [hk_34]; decide) (by rw [hk_34]; decide) (by rw [hk_34]; decide) (by decide) ?_
      refine lv_aload_n hx hb dX8_person_92 rfl (lv_at hl 0 rfl) ?_
      refine va_get (D := G.1) (ci := 8) (v := .ref m1) (C := RX8) (T := TX8) (N := 29) hx hb hts hinX8 hown hKK.1 hP 0 rfl rfl 0 (by decide) kl7 (fun _ h9 => h9) rfl dX8_person_93 ?_
      refine lv_bipush (v := 30) hx hb dX8_person_96 (by decide) ?_
      refine lv_iload_n hx hb dX8_person_98 rfl (lv_at hl 1 rfl) ?_
      refine lv_iadd hx hb dX8_person_99 ?_
      obtain ⟨hin, hv⟩ := hv
      refine va_lald hx hb hKK.1 hP 1 2 rfl rfl hin dX8_person_100 ?_
      refine lv_l2i hx hb dX8_person_101 rfl ?_
      exact x_iret (v := (mw (30 + x).toNatClampNeg).toInt32) () hQ hx hb hr hlocks hS dX8_person_102 hv hP hD
    replace hv := hv.2
    by_cases hk_35 : y = 5
    · have hv := hv.1 hk_35
      refine lv_tableIn (off := 91) (tgt := 103) hx hb dX8_person_12 (by rw [hk_35]; decide) (by rw [hk_35]; decide) (by rw [hk_35]; decide) (by decide) ?_
      refine lv_aload_n hx hb dX8_person_103 rfl (lv_at hl 0 rfl) ?_
      refine va_get (D := G.1) (ci := 8) (v := .ref m1) (C := RX8) (T := TX8) (N := 29) hx hb hts hinX8 hown hKK.1 hP 0 rfl rfl 0 (by decide) kl7 (fun _ h9 => h9) rfl dX8_person_104 ?_
      refine lv_bipush (v := 40) hx hb dX8_person_107 (by decide) ?_
      refine lv_iload_n hx hb dX8_person_109 rfl (lv_at hl 1 rfl) ?_
      refine lv_iadd hx hb dX8_person_110 ?_
      obtain ⟨hin, hv⟩ := hv
      refine va_lald hx hb hKK.1 hP 1 2 rfl rfl hin dX8_person_111 ?_
      refine lv_l2i hx hb dX8_person_112 rfl ?_
      exact x_iret (v := (mw (40 + x).toNatClampNeg).toInt32) () hQ hx hb hr hlocks hS dX8_person_113 hv hP hD
    replace hv := hv.2
    by_cases hk_36 : y = 6
    · have hv := hv.1 hk_36
      refine lv_tableIn (off := 102) (tgt := 114) hx hb dX8_person_12 (by rw [hk_36]; decide) (by rw [hk_36]; decide) (by rw [hk_36]; decide) (by decide) ?_
      refine lv_aload_n hx hb dX8_person_114 rfl (lv_at hl 0 rfl) ?_
      refine va_get (D := G.1) (ci := 8) (v := .ref m1) (C := RX8) (T := TX8) (N := 29) hx hb hts hinX8 hown hKK.1 hP 0 rfl rfl 0 (by decide) kl7 (fun _ h9 => h9) rfl dX8_person_115 ?_
      refine lv_bipush (v := 50) hx hb dX8_person_118 (by decide) ?_
      refine lv_iload_n hx hb dX8_person_120 rfl (lv_at hl 1 rfl) ?_
      refine lv_iadd hx hb dX8_person_121 ?_
      obtain ⟨hin, hv⟩ := hv
      refine va_lald hx hb hKK.1 hP 1 2 rfl rfl hin dX8_person_122 ?_
      refine lv_l2i hx hb dX8_person_123 rfl ?_
      exact x_iret (v := (mw (50 + x).toNatClampNeg).toInt32) () hQ hx hb hr hlocks hS dX8_person_124 hv hP hD
    replace hv := hv.2
    have hv := hv ⟨hk_30, hk_31, hk_32, hk_33, hk_34, hk_35, hk_36⟩
    refine lv_tableOut (tgt := 125) hx hb dX8_person_12 (ts_out 6 (by decide) (ts_ne_all 6 ⟨⟨⟨⟨⟨⟨hk_30, hk_31⟩, hk_32⟩, hk_33⟩, hk_34⟩, hk_35⟩, hk_36⟩)) (by decide) ?_
    refine lv_ldc (v := (-1000000002)) hx hb hown kl73 dX8_person_125 ?_
    exact x_iret (v := (-1000000002)) () hQ hx hb hr hlocks hS dX8_person_127 hv hP hD
  · have hv := hv.2 (tv_eq.mp hc_2)
    refine lv_ldc (v := (-1000000001)) hx hb hown kl164 dX8_person_8 ?_
    exact x_iret (v := (-1000000001)) () hQ hx hb hr hlocks hS dX8_person_10 hv hP hD
theorem v_X8_person (l : Launch) (G : Gt) (m0 m1 m2 m3 m4 m5 m6 m7 m8 m9 m10 m11 m12 m13 m14 : Nat) (sz : Nat) (mw : Nat → Int64) (ik : Nat → Int32) (zs : Nat → Int32) (cl : Nat → Int32) (hs : Nat → Int32) (ks : Nat → Int32) (wa : Nat → Int32) (ne : Nat → Int32) (mn : Nat → Int32) (tx : Nat → Int32) (th : Nat → Int32) (od : Nat → Int32) (bk : Nat → Int32) (bh : Nat → Int32) (fu : Int32) (fd : Int32) (fi : Int32) (nu : Int32) (nw : Int32) (nf : Int32) (bf : Int32) (bn : Int32) (ts : Int32) (ap : Int32) (fs : Int32) (ln : Int32) (fo : Int32) (fa : Int32) (wr : Int32) (x : Int32) (y : Int32) (T : Nat → Nat → Int) (Ns : Nat) (Np : Nat) (v : Nat → Int) (M : Int) (hp : TOK T Ns Np ∧ MT T Ns Np fu fd fi zs cl ks ne mn ∧ MR 0 mw v ∧ NOK T Ns Np (fun _ => 2 * M) M v ∧ M ≤ 900000) : (inR x (mn 1) → (y = 0 → (vp_in x 20) ∧ ((ks x.toNatClampNeg).toInt = aPerson T Np v x.toInt y.toInt)) ∧ (y = 1 → (vp_in x 20) ∧ ((ne x.toNatClampNeg).toInt = aPerson T Np v x.toInt y.toInt)) ∧ (y = 2 → (vp_in (10 + x) 560) ∧ (((mw (10 + x).toNatClampNeg).toInt32).toInt = aPerson T Np v x.toInt y.toInt)) ∧ (y = 3 → (vp_in (20 + x) 560) ∧ (((mw (20 + x).toNatClampNeg).toInt32).toInt = aPerson T Np v x.toInt y.toInt)) ∧ (y = 4 → (vp_in (30 + x) 560) ∧ (((mw (30 + x).toNatClampNeg).toInt32).toInt = aPerson T Np v x.toInt y.toInt)) ∧ (y = 5 → (vp_in (40 + x) 560) ∧ (((mw (40 + x).toNatClampNeg).toInt32).toInt = aPerson T Np v x.toInt y.toInt)) ∧ (y = 6 → (vp_in (50 + x) 560) ∧ (((mw (50 + x).toNatClampNeg).toInt32).toInt = aPerson T Np v x.toInt y.toInt)) ∧ (¬ y = 0 ∧ ¬ y = 1 ∧ ¬ y = 2 ∧ ¬ y = 3 ∧ ¬ y = 4 ∧ ¬ y = 5 ∧ ¬ y = 6 → ((-1000000002) : Int32).toInt = aPerson T Np v x.toInt y.toInt)) ∧ (¬ (inR x (mn 1)) → ((-1000000001) : Int32).toInt = aPerson T Np v x.toInt y.toInt) := by
  obtain ⟨hT, hC, hR, hO, hM⟩ := hp
  have t1 := hT.1
  have t2 := hT.2.1
  have hs_ := inR_iff (x := x) hC.2.1 (by omega)
  simp only [hs_]
  refine ⟨fun hq => ?_, fun hq => ?_⟩
  · obtain ⟨i, hi, rfl, hxi, hxt⟩ := in_nat hq (by omega)
    have ei : (nI i).toNatClampNeg = i := nI_clamp (by omega)
    have b := nok_p hO hi
    simp only [ei]
    refine ⟨fun hy => ?_, fun hy => ?_, fun hy => ?_, fun hy => ?_, fun hy => ?_, fun hy => ?_, fun hy => ?_, ?_⟩
    · have hz : y.toInt = 0 := by rw [hy]; rfl
      simp only [aPerson, if_pos hq, hz, reduceIte, Int.reduceEq, hxt]
      exact ⟨vp_in_nI (by omega) (by omega), (hC.2.2.2.1 i hi).1⟩
    · have hz : y.toInt = 1 := by rw [hy]; rfl
      simp only [aPerson, if_pos hq, hz, reduceIte, Int.reduceEq, hxt]
      exact ⟨vp_in_nI (by omega) (by omega), (hC.2.2.2.1 i hi).2⟩
    · have hz : y.toInt = 2 := by rw [hy]; rfl
      simp only [aPerson, if_pos hq, hz, reduceIte, Int.reduceEq, hxt]
      have e10 : 10 + nI i = nI (10 + i) := ix1 10 i
      have c10 : (nI (10 + i)).toNatClampNeg = 10 + i := nI_clamp (by omega)
      simp only [e10, c10]
      refine ⟨vp_in_nI (by omega) (by omega), ?_⟩
      exact l_iZ (hR.z (by omega)) (by omega) (by omega)
    · have hz : y.toInt = 3 := by rw [hy]; rfl
      simp only [aPerson, if_pos hq, hz, reduceIte, Int.reduceEq, hxt]
      have e20 : 20 + nI i = nI (20 + i) := ix1 20 i
      have c20 : (nI (20 + i)).toNatClampNeg = 20 + i := nI_clamp (by omega)
      simp only [e20, c20]
      refine ⟨vp_in_nI (by omega) (by omega), ?_⟩
      exact l_iZ (hR.z (by omega)) (by omega) (by omega)
    · have hz : y.toInt = 4 := by rw [hy]; rfl
      simp only [aPerson, if_pos hq, hz, reduceIte, Int.reduceEq, hxt]
      have e30 : 30 + nI i = nI (30 + i) := ix1 30 i
      have c30 : (nI (30 + i)).toNatClampNeg = 30 + i := nI_clamp (by omega)
      simp only [e30, c30]
      refine ⟨vp_in_nI (by omega) (by omega), ?_⟩
      exact l_iZ (hR.z (by omega)) (by omega) (by omega)
    · have hz : y.toInt = 5 := by rw [hy]; rfl
      simp only [aPerson, if_pos hq, hz, reduceIte, Int.reduceEq, hxt]
      have e40 : 40 + nI i = nI (40 + i) := ix1 40 i
      have c40 : (nI (40 + i)).toNatClampNeg = 40 + i := nI_clamp (by omega)
      simp only [e40, c40]
      refine ⟨vp_in_nI (by omega) (by omega), ?_⟩
      exact l_iZ (hR.z (by omega)) (by omega) (by omega)
    · have hz : y.toInt = 6 := by rw [hy]; rfl
      simp only [aPerson, if_pos hq, hz, reduceIte, Int.reduceEq, hxt]
      have e50 : 50 + nI i = nI (50 + i) := ix1 50 i
      have c50 : (nI (50 + i)).toNatClampNeg = 50 + i := nI_clamp (by omega)
      simp only [e50, c50]
      refine ⟨vp_in_nI (by omega) (by omega), ?_⟩
      exact l_iZ (hR.z (by omega)) (by omega) (by omega)
    · rintro ⟨n0, n1, n2, n3, n4, n5, n6⟩
      unfold aPerson
      have N0 : ¬ y.toInt = 0 := ne_z n0; have N1 : ¬ y.toInt = 1 := ne_z n1; have N2 : ¬ y.toInt = 2 := ne_z n2; have N3 : ¬ y.toInt = 3 := ne_z n3; have N4 : ¬ y.toInt = 4 := ne_z n4; have N5 : ¬ y.toInt = 5 := ne_z n5; have N6 : ¬ y.toInt = 6 := ne_z n6
      rw [if_pos hq, if_neg N0, if_neg N1, if_neg N2, if_neg N3, if_neg N4, if_neg N5, if_neg N6]
      rfl
  · unfold aPerson
    rw [if_neg hq]; rfl
theorem k_X8_person (l : Launch) (G : Gt) (m0 m1 m2 m3 m4 m5 m6 m7 m8 m9 m10 m11 m12 m13 m14 : Nat) (sz : Nat) (mw : Nat → Int64) (ik : Nat → Int32) (zs : Nat → Int32) (cl : Nat → Int32) (hs : Nat → Int32) (ks : Nat → Int32) (wa : Nat → Int32) (ne : Nat → Int32) (mn : Nat → Int32) (tx : Nat → Int32) (th : Nat → Int32) (od : Nat → Int32) (bk : Nat → Int32) (bh : Nat → Int32) (fu : Int32) (fd : Int32) (fi : Int32) (nu : Int32) (nw : Int32) (nf : Int32) (bf : Int32) (bn : Int32) (ts : Int32) (ap : Int32) (fs : Int32) (ln : Int32) (fo : Int32) (fa : Int32) (wr : Int32) (x : Int32) (y : Int32) (T : Nat → Nat → Int) (Ns : Nat) (Np : Nat) (v : Nat → Int) (M : Int) (hp : TOK T Ns Np ∧ MT T Ns Np fu fd fi zs cl ks ne mn ∧ MR 0 mw v ∧ NOK T Ns Np (fun _ => 2 * M) M v ∧ M ≤ 900000) : MetI l yX8_person wsX8_person 2 46 G [.ref m0, .int x, .int y] [(m0, .inr (8, [.ref m1, .ref m2, .ref m3, .ref m4, .ref m5, .ref m6, .ref m7, .ref m8, .ref m9, .int fu, .int fd, .int fi, .int nu, .int nw, .int nf, .int bf, .int bn, .ref m10, .int ts, .int ap, .int fs, .int ln, .int fo, .int fa, .ref m11, .ref m12, .ref m13, .ref m14, .int wr])), aJ G m1 560 mw, aZ G m2 2 ik, aI G m3 20 zs, aI G m4 20 cl, aI G m5 20 hs, aI G m6 20 ks, aI G m7 20 wa, aI G m8 20 ne, aI G m9 4 mn, aI G m10 400 tx, aI G m11 6 th, aI G m12 6 od, aI G m13 30 bk, aI G m14 30 bh] sz (fun (r : Int32) (_ : Unit) => r.toInt = aPerson T Np v x.toInt y.toInt) (fun (_ : Unit) => [(m0, .inr (8, [.ref m1, .ref m2, .ref m3, .ref m4, .ref m5, .ref m6, .ref m7, .ref m8, .ref m9, .int fu, .int fd, .int fi, .int nu, .int nw, .int nf, .int bf, .int bn, .ref m10, .int ts, .int ap, .int fs, .int ln, .int fo, .int fa, .ref m11, .ref m12, .ref m13, .ref m14, .int wr])), aJ G m1 560 mw, aZ G m2 2 ik, aI G m3 20 zs, aI G m4 20 cl, aI G m5 20 hs, aI G m6 20 ks, aI G m7 20 wa, aI G m8 20 ne, aI G m9 4 mn, aI G m10 400 tx, aI G m11 6 th, aI G m12 6 od, aI G m13 30 bk, aI G m14 30 bh]) :=
  c_X8_person l G m0 m1 m2 m3 m4 m5 m6 m7 m8 m9 m10 m11 m12 m13 m14 sz mw ik zs cl hs ks wa ne mn tx th od bk bh fu fd fi nu nw nf bf bn ts ap fs ln fo fa wr x y T Ns Np v M (v_X8_person l G m0 m1 m2 m3 m4 m5 m6 m7 m8 m9 m10 m11 m12 m13 m14 sz mw ik zs cl hs ks wa ne mn tx th od bk bh fu fd fi nu nw nf bf bn ts ap fs ln fo fa wr x y T Ns Np v M hp)

set_option maxHeartbeats 4000000 in
set_option maxRecDepth 100000 in
theorem c_X8_owned (l : Launch) (G : Gt) (m0 m1 m2 m3 m4 m5 m6 m7 m8 m9 m10 m11 m12 m13 m14 : Nat) (sz : Nat) (mw : Nat → Int64) (ik : Nat → Int32) (zs : Nat → Int32) (cl : Nat → Int32) (hs : Nat → Int32) (ks : Nat → Int32) (wa : Nat → Int32) (ne : Nat → Int32) (mn : Nat → Int32) (tx : Nat → Int32) (th : Nat → Int32) (od : Nat → Int32) (bk : Nat → Int32) (bh : Nat → Int32) (fu : Int32) (fd : Int32) (fi : Int32) (nu : Int32) (nw : Int32) (nf : Int32) (bf : Int32) (bn : Int32) (ts : Int32) (ap : Int32) (fs : Int32) (ln : Int32) (fo : Int32) (fa : Int32) (wr : Int32) (x : Int32) (y : Int32) (T : Nat → Nat → Int) (Ns : Nat) (Np : Nat) (v : Nat → Int) (M : Int) (hv : (¬ (inR x (mn 1)) → ((-1000000001) : Int32).toInt = aOwned Ns Np v x.toInt y.toInt) ∧ (inR x (mn 1) → (¬ (inR y (mn 0)) → ((-1000000001) : Int32).toInt = aOwned Ns Np v x.toInt y.toInt) ∧ (inR y (mn 0) → (vp_in ((60 + (9 * x)) + y) 560) ∧ (((mw ((60 + (9 * x)) + y).toNatClampNeg).toInt32).toInt = aOwned Ns Np v x.toInt y.toInt)))) : MetI l yX8_owned wsX8_owned 2 46 G [.ref m0, .int x, .int y] [(m0, .inr (8, [.ref m1, .ref m2, .ref m3, .ref m4, .ref m5, .ref m6, .ref m7, .ref m8, .ref m9, .int fu, .int fd, .int fi, .int nu, .int nw, .int nf, .int bf, .int bn, .ref m10, .int ts, .int ap, .int fs, .int ln, .int fo, .int fa, .ref m11, .ref m12, .ref m13, .ref m14, .int wr])), aJ G m1 560 mw, aZ G m2 2 ik, aI G m3 20 zs, aI G m4 20 cl, aI G m5 20 hs, aI G m6 20 ks, aI G m7 20 wa, aI G m8 20 ne, aI G m9 4 mn, aI G m10 400 tx, aI G m11 6 th, aI G m12 6 od, aI G m13 30 bk, aI G m14 30 bh] sz (fun (r : Int32) (_ : Unit) => r.toInt = aOwned Ns Np v x.toInt y.toInt) (fun (_ : Unit) => [(m0, .inr (8, [.ref m1, .ref m2, .ref m3, .ref m4, .ref m5, .ref m6, .ref m7, .ref m8, .ref m9, .int fu, .int fd, .int fi, .int nu, .int nw, .int nf, .int bf, .int bn, .ref m10, .int ts, .int ap, .int fs, .int ln, .int fo, .int fa, .ref m11, .ref m12, .ref m13, .ref m14, .int wr])), aJ G m1 560 mw, aZ G m2 2 ik, aI G m3 20 zs, aI G m4 20 cl, aI G m5 20 hs, aI G m6 20 ks, aI G m7 20 wa, aI G m8 20 ne, aI G m9 4 mn, aI G m10 400 tx, aI G m11 6 th, aI G m12 6 od, aI G m13 30 bk, aI G m14 30 bh]) := by
  refine x_startI (cc := cX8_owned) (maxL := 3) (ret := (some .int)) (by decide) rfl (Nat.le_of_ble_eq_true rfl) ?_
  intro p e s m args below meth c A R Q ls hRf hRl hQ C hP hD hS hA hSS hl
  obtain ⟨hx, hb, hr, hml, hown, hts, hlocks, hKK⟩ := C
  have hown : s.vm.findClass RX8 = some m.cls := hown
  have hl : lv_has ls 3 [(0, .ref m0), (1, .int x), (2, .int y)] := hl
  have hinX8 : ∀ w ∈ u_ws RX8 TX8 29, w ∈ wsX8_owned := by decide +kernel
  have kl164 := hts (.constant RX8 164 (-1000000001)) (by decide +kernel)
  have kl7 := hts (.fieldLink RX8 7 "WarmStonesModel" "w" "[J") (by decide +kernel)
  refine lv_aload_n hx hb dX8_owned_0 rfl (lv_at hl 0 rfl) ?_
  refine lv_iload_n hx hb dX8_owned_1 rfl (lv_at hl 1 rfl) ?_
  refine x_calliR (x_runV (As := [.int x]) (rest := []) (n := 1) (C := RX8) (ci := 8) ⟨hx, hb, hml, hown, hts⟩ (k_X8_isPerson l G m0 m1 m2 m3 m4 m5 m6 m7 m8 m9 m10 m11 m12 m13 m14 _ mw ik zs cl hs ks wa ne mn tx th od bk bh fu fd fi nu nw nf bf bn ts ap fs ln fo fa wr x) gX8_owned_X8_isPerson rfl (by decide +kernel) ⟨Nat.le_trans (Nat.le_of_ble_eq_true rfl) hRf, Nat.le_trans (Nat.le_of_ble_eq_true rfl) hRl⟩ hKK hSS hS hA hP hD [0, 1, 2, 3, 4, 5, 6, 7, 8, 9, 10, 11, 12, 13, 14] (by decide) rfl rfl rfl 0 rfl rfl hl.1 rfl (Nat.le_of_ble_eq_true rfl) dX8_owned_2) hP hD hS hA [0, 1, 2, 3, 4, 5, 6, 7, 8, 9, 10, 11, 12, 13, 14] rfl (fun r_1 _ H locs hw hP hS => ?_)
  replace hw := hw.symm; subst hw
  refine lv_if_eq (tgt := 34) hx hb dX8_owned_5 (by decide) (fun hc_2 => ?_) (fun hc_2 => ?_)
  · have hv := hv.1 (tv_eq.mp hc_2)
    refine lv_ldc (v := (-1000000001)) hx hb hown kl164 dX8_owned_34 ?_
    exact x_iret (v := (-1000000001)) () hQ hx hb hr hlocks hS dX8_owned_36 hv hP hD
  · have hv := hv.2 (tv_eqn.mp hc_2)
    refine lv_aload_n hx hb dX8_owned_8 rfl (lv_at hl 0 rfl) ?_
    refine lv_iload_n hx hb dX8_owned_9 rfl (lv_at hl 2 rfl) ?_
    refine x_calliR (x_runV (As := [.int y]) (rest := []) (n := 1) (C := RX8) (ci := 8) ⟨hx, hb, hml, hown, hts⟩ (k_X8_isStone l G m0 m1 m2 m3 m4 m5 m6 m7 m8 m9 m10 m11 m12 m13 m14 _ mw ik zs cl hs ks wa ne mn tx th od bk bh fu fd fi nu nw nf bf bn ts ap fs ln fo fa wr y) gX8_owned_X8_isStone rfl (by decide +kernel) ⟨Nat.le_trans (Nat.le_of_ble_eq_true rfl) hRf, Nat.le_trans (Nat.le_of_ble_eq_true rfl) hRl⟩ hKK hSS hS hA hP hD [0, 1, 2, 3, 4, 5, 6, 7, 8, 9, 10, 11, 12, 13, 14] (by decide) rfl rfl rfl 0 rfl rfl hl.1 rfl (Nat.le_of_ble_eq_true rfl) dX8_owned_10) hP hD hS hA [0, 1, 2, 3, 4, 5, 6, 7, 8, 9, 10, 11, 12, 13, 14] rfl (fun r_3 _ H locs hw hP hS => ?_)
    replace hw := hw.symm; subst hw
    refine lv_if_eq (tgt := 34) hx hb dX8_owned_13 (by decide) (fun hc_4 => ?_) (fun hc_4 => ?_)
    · have hv := hv.1 (tv_eq.mp hc_4)
      refine lv_ldc (v := (-1000000001)) hx hb hown kl164 dX8_owned_34 ?_
      exact x_iret (v := (-1000000001)) () hQ hx hb hr hlocks hS dX8_owned_36 hv hP hD
    · have hv := hv.2 (tv_eqn.mp hc_4)
      refine lv_aload_n hx hb dX8_owned_16 rfl (lv_at hl 0 rfl) ?_
      refine va_get (D := G.1) (ci := 8) (v := .ref m1) (C := RX8) (T := TX8) (N := 29) hx hb hts hinX8 hown hKK.1 hP 0 rfl rfl 0 (by decide) kl7 (fun _ h9 => h9) rfl dX8_owned_17 ?_
      refine lv_bipush (v := 60) hx hb dX8_owned_20 (by decide) ?_
      refine lv_bipush (v := 9) hx hb dX8_owned_22 (by decide) ?_
      refine lv_iload_n hx hb dX8_owned_24 rfl (lv_at hl 1 rfl) ?_
      refine lv_imul hx hb dX8_owned_25 ?_
      refine lv_iadd hx hb dX8_owned_26 ?_
      refine lv_iload_n hx hb dX8_owned_27 rfl (lv_at hl 2 rfl) ?_
      refine lv_iadd hx hb dX8_owned_28 ?_
      obtain ⟨hin, hv⟩ := hv
      refine va_lald hx hb hKK.1 hP 1 2 rfl rfl hin dX8_owned_29 ?_
      refine lv_l2i hx hb dX8_owned_30 rfl ?_
      refine lv_goto (tgt := 36) hx hb dX8_owned_31 (by decide) ?_
      exact x_iret (v := (mw ((60 + (9 * x)) + y).toNatClampNeg).toInt32) () hQ hx hb hr hlocks hS dX8_owned_36 hv hP hD
theorem v_X8_owned (l : Launch) (G : Gt) (m0 m1 m2 m3 m4 m5 m6 m7 m8 m9 m10 m11 m12 m13 m14 : Nat) (sz : Nat) (mw : Nat → Int64) (ik : Nat → Int32) (zs : Nat → Int32) (cl : Nat → Int32) (hs : Nat → Int32) (ks : Nat → Int32) (wa : Nat → Int32) (ne : Nat → Int32) (mn : Nat → Int32) (tx : Nat → Int32) (th : Nat → Int32) (od : Nat → Int32) (bk : Nat → Int32) (bh : Nat → Int32) (fu : Int32) (fd : Int32) (fi : Int32) (nu : Int32) (nw : Int32) (nf : Int32) (bf : Int32) (bn : Int32) (ts : Int32) (ap : Int32) (fs : Int32) (ln : Int32) (fo : Int32) (fa : Int32) (wr : Int32) (x : Int32) (y : Int32) (T : Nat → Nat → Int) (Ns : Nat) (Np : Nat) (v : Nat → Int) (M : Int) (hp : TOK T Ns Np ∧ MT T Ns Np fu fd fi zs cl ks ne mn ∧ MR 0 mw v ∧ NOK T Ns Np (fun _ => 2 * M) M v ∧ M ≤ 900000) : (¬ (inR x (mn 1)) → ((-1000000001) : Int32).toInt = aOwned Ns Np v x.toInt y.toInt) ∧ (inR x (mn 1) → (¬ (inR y (mn 0)) → ((-1000000001) : Int32).toInt = aOwned Ns Np v x.toInt y.toInt) ∧ (inR y (mn 0) → (vp_in ((60 + (9 * x)) + y) 560) ∧ (((mw ((60 + (9 * x)) + y).toNatClampNeg).toInt32).toInt = aOwned Ns Np v x.toInt y.toInt))) := by
  obtain ⟨hT, hC, hR, hO, hM⟩ := hp
  have t1 := hT.1
  have t2 := hT.2.1
  have hp_ := inR_iff (x := x) hC.2.1 (by omega)
  have hs_ := inR_iff (x := y) hC.1 (by omega)
  simp only [hp_, hs_]
  refine ⟨fun hq => ?_, fun hq => ⟨fun hq2 => ?_, fun hq2 => ?_⟩⟩
  · unfold aOwned
    rw [if_neg (fun q => hq q.1)]; rfl
  · unfold aOwned
    rw [if_neg (fun q => hq2 q.2)]; rfl
  · obtain ⟨i, hi, rfl, hxi, hxt⟩ := in_nat hq (by omega)
    obtain ⟨b, hb, rfl, hyb, hyt⟩ := in_nat hq2 (by omega)
    have e : 60 + 9 * nI i + nI b = nI (60 + (9 * i + b)) := by rw [show (9 : Int32) = nI 9 from rfl, show (60 : Int32) = nI 60 from rfl, pk_mul, nI_add, nI_add, Nat.add_assoc]
    have c : (nI (60 + (9 * i + b))).toNatClampNeg = 60 + (9 * i + b) := nI_clamp (by omega)
    have bo := hO.2.2.2.1 i b hi hb
    simp only [e, c]
    refine ⟨vp_in_nI (by omega) (by omega), ?_⟩
    unfold aOwned
    rw [if_pos ⟨hq, hq2⟩, hxt, hyt]
    exact l_iZ (hR.z (by omega)) (by omega) (by omega)
theorem k_X8_owned (l : Launch) (G : Gt) (m0 m1 m2 m3 m4 m5 m6 m7 m8 m9 m10 m11 m12 m13 m14 : Nat) (sz : Nat) (mw : Nat → Int64) (ik : Nat → Int32) (zs : Nat → Int32) (cl : Nat → Int32) (hs : Nat → Int32) (ks : Nat → Int32) (wa : Nat → Int32) (ne : Nat → Int32) (mn : Nat → Int32) (tx : Nat → Int32) (th : Nat → Int32) (od : Nat → Int32) (bk : Nat → Int32) (bh : Nat → Int32) (fu : Int32) (fd : Int32) (fi : Int32) (nu : Int32) (nw : Int32) (nf : Int32) (bf : Int32) (bn : Int32) (ts : Int32) (ap : Int32) (fs : Int32) (ln : Int32) (fo : Int32) (fa : Int32) (wr : Int32) (x : Int32) (y : Int32) (T : Nat → Nat → Int) (Ns : Nat) (Np : Nat) (v : Nat → Int) (M : Int) (hp : TOK T Ns Np ∧ MT T Ns Np fu fd fi zs cl ks ne mn ∧ MR 0 mw v ∧ NOK T Ns Np (fun _ => 2 * M) M v ∧ M ≤ 900000) : MetI l yX8_owned wsX8_owned 2 46 G [.ref m0, .int x, .int y] [(m0, .inr (8, [.ref m1, .ref m2, .ref m3, .ref m4, .ref m5, .ref m6, .ref m7, .ref m8, .ref m9, .int fu, .int fd, .int fi, .int nu, .int nw, .int nf, .int bf, .int bn, .ref m10, .int ts, .int ap, .int fs, .int ln, .int fo, .int fa, .ref m11, .ref m12, .ref m13, .ref m14, .int wr])), aJ G m1 560 mw, aZ G m2 2 ik, aI G m3 20 zs, aI G m4 20 cl, aI G m5 20 hs, aI G m6 20 ks, aI G m7 20 wa, aI G m8 20 ne, aI G m9 4 mn, aI G m10 400 tx, aI G m11 6 th, aI G m12 6 od, aI G m13 30 bk, aI G m14 30 bh] sz (fun (r : Int32) (_ : Unit) => r.toInt = aOwned Ns Np v x.toInt y.toInt) (fun (_ : Unit) => [(m0, .inr (8, [.ref m1, .ref m2, .ref m3, .ref m4, .ref m5, .ref m6, .ref m7, .ref m8, .ref m9, .int fu, .int fd, .int fi, .int nu, .int nw, .int nf, .int bf, .int bn, .ref m10, .int ts, .int ap, .int fs, .int ln, .int fo, .int fa, .ref m11, .ref m12, .ref m13, .ref m14, .int wr])), aJ G m1 560 mw, aZ G m2 2 ik, aI G m3 20 zs, aI G m4 20 cl, aI G m5 20 hs, aI G m6 20 ks, aI G m7 20 wa, aI G m8 20 ne, aI G m9 4 mn, aI G m10 400 tx, aI G m11 6 th, aI G m12 6 od, aI G m13 30 bk, aI G m14 30 bh]) :=
  c_X8_owned l G m0 m1 m2 m3 m4 m5 m6 m7 m8 m9 m10 m11 m12 m13 m14 sz mw ik zs cl hs ks wa ne mn tx th od bk bh fu fd fi nu nw nf bf bn ts ap fs ln fo fa wr x y T Ns Np v M (v_X8_owned l G m0 m1 m2 m3 m4 m5 m6 m7 m8 m9 m10 m11 m12 m13 m14 sz mw ik zs cl hs ks wa ne mn tx th od bk bh fu fd fi nu nw nf bf bn ts ap fs ln fo fa wr x y T Ns Np v M hp)

set_option maxHeartbeats 4000000 in
set_option maxRecDepth 100000 in
theorem c_X8_sit (l : Launch) (G : Gt) (m0 m1 m2 m3 m4 m5 m6 m7 m8 m9 m10 m11 m12 m13 m14 : Nat) (sz : Nat) (mw : Nat → Int64) (ik : Nat → Int32) (zs : Nat → Int32) (cl : Nat → Int32) (hs : Nat → Int32) (ks : Nat → Int32) (wa : Nat → Int32) (ne : Nat → Int32) (mn : Nat → Int32) (tx : Nat → Int32) (th : Nat → Int32) (od : Nat → Int32) (bk : Nat → Int32) (bh : Nat → Int32) (fu : Int32) (fd : Int32) (fi : Int32) (nu : Int32) (nw : Int32) (nf : Int32) (bf : Int32) (bn : Int32) (ts : Int32) (ap : Int32) (fs : Int32) (ln : Int32) (fo : Int32) (fa : Int32) (wr : Int32) (x : Int32) (y : Int32) (T : Nat → Nat → Int) (Ns : Nat) (Np : Nat) (v : Nat → Int) (M : Int) (hv : (¬ (inR x (mn 1)) → ((-1000000001) : Int32).toInt = (qSit Ns Np v x.toInt y.toInt).1 ∧ MR 0 mw (qSit Ns Np v x.toInt y.toInt).2 ∧ MF 0 mw mw) ∧ (inR x (mn 1) → (y = (-1) → (y < 0 → (vp_in (20 + x) 560) ∧ (∀ (y_5 : Int32), (y_5 = (mw (20 + x).toNatClampNeg).toInt32) → ((vp_in (20 + x) 560) ∧ (∀ (fm1_6 : (Nat → Int64)), (fm1_6 = (vp_updL mw ((20 + x).toNatClampNeg) y.toInt64)) → (y_5.toInt = (qSit Ns Np v x.toInt y.toInt).1 ∧ MR 0 fm1_6 (qSit Ns Np v x.toInt y.toInt).2 ∧ MF 0 mw fm1_6))))) ∧ (¬ (y < 0) → ∃ (gT_7 : Nat → Nat → Int) (gNs_8 : Nat) (gNp_9 : Nat) (gX_10 : Nat) (gv_11 : Nat → Int) (gib_12 : Nat), ((TOK gT_7 gNs_8 gNp_9 ∧ MT gT_7 gNs_8 gNp_9 fu fd fi zs cl ks ne mn ∧ (0 : Int32) = nI gX_10 ∧ gX_10 + 140 ≤ 560 ∧ MR gX_10 mw gv_11 ∧ y = nI gib_12 ∧ gib_12 < 9) ∧ (∀ (r_13 : Int32), ((r_13 < 0 ↔ zEmpty gv_11 gib_12 gNp_9) ∧ r_13 = zSitter gv_11 gib_12 gNp_9) → ((r_13 < 0 → (vp_in (20 + x) 560) ∧ (∀ (y_15 : Int32), (y_15 = (mw (20 + x).toNatClampNeg).toInt32) → ((vp_in (20 + x) 560) ∧ (∀ (fm1_16 : (Nat → Int64)), (fm1_16 = (vp_updL mw ((20 + x).toNatClampNeg) y.toInt64)) → (y_15.toInt = (qSit Ns Np v x.toInt y.toInt).1 ∧ MR 0 fm1_16 (qSit Ns Np v x.toInt y.toInt).2 ∧ MF 0 mw fm1_16))))) ∧ (¬ (r_13 < 0) → ∃ (gT_17 : Nat → Nat → Int) (gNs_18 : Nat) (gNp_19 : Nat) (gX_20 : Nat) (gv_21 : Nat → Int) (gib_22 : Nat), ((TOK gT_17 gNs_18 gNp_19 ∧ MT gT_17 gNs_18 gNp_19 fu fd fi zs cl ks ne mn ∧ (0 : Int32) = nI gX_20 ∧ gX_20 + 140 ≤ 560 ∧ MR gX_20 mw gv_21 ∧ y = nI gib_22 ∧ gib_22 < 9) ∧ (∀ (r_23 : Int32), ((r_23 < 0 ↔ zEmpty gv_21 gib_22 gNp_19) ∧ r_23 = zSitter gv_21 gib_22 gNp_19) → ((r_23 = x → (vp_in (20 + x) 560) ∧ (∀ (y_25 : Int32), (y_25 = (mw (20 + x).toNatClampNeg).toInt32) → ((vp_in (20 + x) 560) ∧ (∀ (fm1_26 : (Nat → Int64)), (fm1_26 = (vp_updL mw ((20 + x).toNatClampNeg) y.toInt64)) → (y_25.toInt = (qSit Ns Np v x.toInt y.toInt).1 ∧ MR 0 fm1_26 (qSit Ns Np v x.toInt y.toInt).2 ∧ MF 0 mw fm1_26))))) ∧ (¬ (r_23 = x) → ((-1000000003) : Int32).toInt = (qSit Ns Np v x.toInt y.toInt).1 ∧ MR 0 mw (qSit Ns Np v x.toInt y.toInt).2 ∧ MF 0 mw mw)))))))))) ∧ (¬ (y = (-1)) → (inR y (mn 0) → (y < 0 → (vp_in (20 + x) 560) ∧ (∀ (y_30 : Int32), (y_30 = (mw (20 + x).toNatClampNeg).toInt32) → ((vp_in (20 + x) 560) ∧ (∀ (fm1_31 : (Nat → Int64)), (fm1_31 = (vp_updL mw ((20 + x).toNatClampNeg) y.toInt64)) → (y_30.toInt = (qSit Ns Np v x.toInt y.toInt).1 ∧ MR 0 fm1_31 (qSit Ns Np v x.toInt y.toInt).2 ∧ MF 0 mw fm1_31))))) ∧ (¬ (y < 0) → ∃ (gT_32 : Nat → Nat → Int) (gNs_33 : Nat) (gNp_34 : Nat) (gX_35 : Nat) (gv_36 : Nat → Int) (gib_37 : Nat), ((TOK gT_32 gNs_33 gNp_34 ∧ MT gT_32 gNs_33 gNp_34 fu fd fi zs cl ks ne mn ∧ (0 : Int32) = nI gX_35 ∧ gX_35 + 140 ≤ 560 ∧ MR gX_35 mw gv_36 ∧ y = nI gib_37 ∧ gib_37 < 9) ∧ (∀ (r_38 : Int32), ((r_38 < 0 ↔ zEmpty gv_36 gib_37 gNp_34) ∧ r_38 = zSitter gv_36 gib_37 gNp_34) → ((r_38 < 0 → (vp_in (20 + x) 560) ∧ (∀ (y_40 : Int32), (y_40 = (mw (20 + x).toNatClampNeg).toInt32) → ((vp_in (20 + x) 560) ∧ (∀ (fm1_41 : (Nat → Int64)), (fm1_41 = (vp_updL mw ((20 + x).toNatClampNeg) y.toInt64)) → (y_40.toInt = (qSit Ns Np v x.toInt y.toInt).1 ∧ MR 0 fm1_41 (qSit Ns Np v x.toInt y.toInt).2 ∧ MF 0 mw fm1_41))))) ∧ (¬ (r_38 < 0) → ∃ (gT_42 : Nat → Nat → Int) (gNs_43 : Nat) (gNp_44 : Nat) (gX_45 : Nat) (gv_46 : Nat → Int) (gib_47 : Nat), ((TOK gT_42 gNs_43 gNp_44 ∧ MT gT_42 gNs_43 gNp_44 fu fd fi zs cl ks ne mn ∧ (0 : Int32) = nI gX_45 ∧ gX_45 + 140 ≤ 560 ∧ MR gX_45 mw gv_46 ∧ y = nI gib_47 ∧ gib_47 < 9) ∧ (∀ (r_48 : Int32), ((r_48 < 0 ↔ zEmpty gv_46 gib_47 gNp_44) ∧ r_48 = zSitter gv_46 gib_47 gNp_44) → ((r_48 = x → (vp_in (20 + x) 560) ∧ (∀ (y_50 : Int32), (y_50 = (mw (20 + x).toNatClampNeg).toInt32) → ((vp_in (20 + x) 560) ∧ (∀ (fm1_51 : (Nat → Int64)), (fm1_51 = (vp_updL mw ((20 + x).toNatClampNeg) y.toInt64)) → (y_50.toInt = (qSit Ns Np v x.toInt y.toInt).1 ∧ MR 0 fm1_51 (qSit Ns Np v x.toInt y.toInt).2 ∧ MF 0 mw fm1_51))))) ∧ (¬ (r_48 = x) → ((-1000000003) : Int32).toInt = (qSit Ns Np v x.toInt y.toInt).1 ∧ MR 0 mw (qSit Ns Np v x.toInt y.toInt).2 ∧ MF 0 mw mw)))))))))) ∧ (¬ (inR y (mn 0)) → ((-1000000001) : Int32).toInt = (qSit Ns Np v x.toInt y.toInt).1 ∧ MR 0 mw (qSit Ns Np v x.toInt y.toInt).2 ∧ MF 0 mw mw)))) : MetI l yX8_sit wsX8_sit 2 46 G [.ref m0, .int x, .int y] [(m0, .inr (8, [.ref m1, .ref m2, .ref m3, .ref m4, .ref m5, .ref m6, .ref m7, .ref m8, .ref m9, .int fu, .int fd, .int fi, .int nu, .int nw, .int nf, .int bf, .int bn, .ref m10, .int ts, .int ap, .int fs, .int ln, .int fo, .int fa, .ref m11, .ref m12, .ref m13, .ref m14, .int wr])), aJ G m1 560 mw, aZ G m2 2 ik, aI G m3 20 zs, aI G m4 20 cl, aI G m5 20 hs, aI G m6 20 ks, aI G m7 20 wa, aI G m8 20 ne, aI G m9 4 mn, aI G m10 400 tx, aI G m11 6 th, aI G m12 6 od, aI G m13 30 bk, aI G m14 30 bh] sz (fun (r : Int32) (u : (Nat → Int64)) => r.toInt = (qSit Ns Np v x.toInt y.toInt).1 ∧ MR 0 u (qSit Ns Np v x.toInt y.toInt).2 ∧ MF 0 mw u) (fun (u : (Nat → Int64)) => [(m0, .inr (8, [.ref m1, .ref m2, .ref m3, .ref m4, .ref m5, .ref m6, .ref m7, .ref m8, .ref m9, .int fu, .int fd, .int fi, .int nu, .int nw, .int nf, .int bf, .int bn, .ref m10, .int ts, .int ap, .int fs, .int ln, .int fo, .int fa, .ref m11, .ref m12, .ref m13, .ref m14, .int wr])), aJ G m1 560 u, aZ G m2 2 ik, aI G m3 20 zs, aI G m4 20 cl, aI G m5 20 hs, aI G m6 20 ks, aI G m7 20 wa, aI G m8 20 ne, aI G m9 4 mn, aI G m10 400 tx, aI G m11 6 th, aI G m12 6 od, aI G m13 30 bk, aI G m14 30 bh]) := by
  refine x_startI (cc := cX8_sit) (maxL := 4) (ret := (some .int)) (by decide) rfl (Nat.le_of_ble_eq_true rfl) ?_
  intro p e s m args below meth c A R Q ls hRf hRl hQ C hP hD hS hA hSS hl
  obtain ⟨hx, hb, hr, hml, hown, hts, hlocks, hKK⟩ := C
  have hown : s.vm.findClass RX8 = some m.cls := hown
  have hl : lv_has ls 4 [(0, .ref m0), (1, .int x), (2, .int y)] := hl
  have hinX8 : ∀ w ∈ u_ws RX8 TX8 29, w ∈ wsX8_sit := by decide +kernel
  have kl164 := hts (.constant RX8 164 (-1000000001)) (by decide +kernel)
  have kl198 := hts (.constant RX8 198 (-1000000003)) (by decide +kernel)
  have kl7 := hts (.fieldLink RX8 7 "WarmStonesModel" "w" "[J") (by decide +kernel)
  refine lv_aload_n hx hb dX8_sit_0 rfl (lv_at hl 0 rfl) ?_
  refine lv_iload_n hx hb dX8_sit_1 rfl (lv_at hl 1 rfl) ?_
  refine x_calliR (x_runV (As := [.int x]) (rest := []) (n := 1) (C := RX8) (ci := 8) ⟨hx, hb, hml, hown, hts⟩ (k_X8_isPerson l G m0 m1 m2 m3 m4 m5 m6 m7 m8 m9 m10 m11 m12 m13 m14 _ mw ik zs cl hs ks wa ne mn tx th od bk bh fu fd fi nu nw nf bf bn ts ap fs ln fo fa wr x) gX8_sit_X8_isPerson rfl (by decide +kernel) ⟨Nat.le_trans (Nat.le_of_ble_eq_true rfl) hRf, Nat.le_trans (Nat.le_of_ble_eq_true rfl) hRl⟩ hKK hSS hS hA hP hD [0, 1, 2, 3, 4, 5, 6, 7, 8, 9, 10, 11, 12, 13, 14] (by decide) rfl rfl rfl 0 rfl rfl hl.1 rfl (Nat.le_of_ble_eq_true rfl) dX8_sit_2) hP hD hS hA [0, 1, 2, 3, 4, 5, 6, 7, 8, 9, 10, 11, 12, 13, 14] rfl (fun r_1 _ H locs hw hP hS => ?_)
  replace hw := hw.symm; subst hw
  refine lv_if_eq (tgt := 21) hx hb dX8_sit_5 (by decide) (fun hc_2 => ?_) (fun hc_2 => ?_)
  · have hv := hv.1 (tv_eq.mp hc_2)
    refine lv_ldc (v := (-1000000001)) hx hb hown kl164 dX8_sit_21 ?_
    exact x_iret (v := (-1000000001)) mw hQ hx hb hr hlocks hS dX8_sit_23 hv hP hD
  · have hv := hv.2 (tv_eqn.mp hc_2)
    refine lv_iload_n hx hb dX8_sit_8 rfl (lv_at hl 2 rfl) ?_
    refine lv_iconst (v := (-1)) hx hb dX8_sit_9 (by decide) ?_
    refine lv_icmp_eq (tgt := 24) hx hb dX8_sit_10 (by decide) (fun hc_3 => ?_) (fun hc_3 => ?_)
    · have hv := hv.1 hc_3
      refine lv_iload_n hx hb dX8_sit_24 rfl (lv_at hl 2 rfl) ?_
      refine lv_if_lt (tgt := 50) hx hb dX8_sit_25 (by decide) (fun hc_4 => ?_) (fun hc_4 => ?_)
      · have hv := hv.1 hc_4
        refine lv_aload_n hx hb dX8_sit_50 rfl (lv_at hl 0 rfl) ?_
        refine va_get (D := G.1) (ci := 8) (v := .ref m1) (C := RX8) (T := TX8) (N := 29) hx hb hts hinX8 hown hKK.1 hP 0 rfl rfl 0 (by decide) kl7 (fun _ h9 => h9) rfl dX8_sit_51 ?_
        refine lv_bipush (v := 20) hx hb dX8_sit_54 (by decide) ?_
        refine lv_iload_n hx hb dX8_sit_56 rfl (lv_at hl 1 rfl) ?_
        refine lv_iadd hx hb dX8_sit_57 ?_
        obtain ⟨hin, hv⟩ := hv
        refine va_lald hx hb hKK.1 hP 1 2 rfl rfl hin dX8_sit_58 ?_
        refine lv_l2i hx hb dX8_sit_59 rfl ?_
        refine lv_topi (fun y_5 ey => ?_)
        have hv := hv y_5 ey
        refine lv_istore_n (lv' := [(3, .int y_5), (0, .ref m0), (1, .int x), (2, .int y)]) hx hb dX8_sit_60 rfl hl (by decide) rfl (fun ls hl => ?_)
        refine lv_aload_n hx hb dX8_sit_61 rfl (lv_at hl 1 rfl) ?_
        refine va_get (D := G.1) (ci := 8) (v := .ref m1) (C := RX8) (T := TX8) (N := 29) hx hb hts hinX8 hown hKK.1 hP 0 rfl rfl 0 (by decide) kl7 (fun _ h9 => h9) rfl dX8_sit_62 ?_
        refine lv_bipush (v := 20) hx hb dX8_sit_65 (by decide) ?_
        refine lv_iload_n hx hb dX8_sit_67 rfl (lv_at hl 2 rfl) ?_
        refine lv_iadd hx hb dX8_sit_68 ?_
        refine lv_iload_n hx hb dX8_sit_69 rfl (lv_at hl 3 rfl) ?_
        refine lv_i2l hx hb dX8_sit_70 rfl ?_
        obtain ⟨hin, hv⟩ := hv
        refine va_last hx hb hKK.1 hP hD hS 1 2 rfl rfl hin dX8_sit_71 (fun H locs hP hD hS => ?_)
        obtain ⟨fm1_6, ef⟩ : ∃ z9_, z9_ = (vp_updL mw ((20 + x).toNatClampNeg) y.toInt64) := ⟨_, rfl⟩
        have hP : va_P G.1 vwCl [(m0, .inr (8, [.ref m1, .ref m2, .ref m3, .ref m4, .ref m5, .ref m6, .ref m7, .ref m8, .ref m9, .int fu, .int fd, .int fi, .int nu, .int nw, .int nf, .int bf, .int bn, .ref m10, .int ts, .int ap, .int fs, .int ln, .int fo, .int fa, .ref m11, .ref m12, .ref m13, .ref m14, .int wr])), aJ G m1 560 fm1_6, aZ G m2 2 ik, aI G m3 20 zs, aI G m4 20 cl, aI G m5 20 hs, aI G m6 20 ks, aI G m7 20 wa, aI G m8 20 ne, aI G m9 4 mn, aI G m10 400 tx, aI G m11 6 th, aI G m12 6 od, aI G m13 30 bk, aI G m14 30 bh] H := by rw [ef]; exact hP
        have hD : va_D A [(m0, .inr (8, [.ref m1, .ref m2, .ref m3, .ref m4, .ref m5, .ref m6, .ref m7, .ref m8, .ref m9, .int fu, .int fd, .int fi, .int nu, .int nw, .int nf, .int bf, .int bn, .ref m10, .int ts, .int ap, .int fs, .int ln, .int fo, .int fa, .ref m11, .ref m12, .ref m13, .ref m14, .int wr])), aJ G m1 560 fm1_6, aZ G m2 2 ik, aI G m3 20 zs, aI G m4 20 cl, aI G m5 20 hs, aI G m6 20 ks, aI G m7 20 wa, aI G m8 20 ne, aI G m9 4 mn, aI G m10 400 tx, aI G m11 6 th, aI G m12 6 od, aI G m13 30 bk, aI G m14 30 bh] := by rw [ef]; exact hD
        have hv := hv fm1_6 ef
        refine lv_iload_n hx hb dX8_sit_72 rfl (lv_at hl 0 rfl) ?_
        exact x_iret (v := y_5) fm1_6 hQ hx hb hr hlocks hS dX8_sit_73 hv hP hD
      · have hv := hv.2 hc_4
        refine lv_aload_n hx hb dX8_sit_28 rfl (lv_at hl 0 rfl) ?_
        refine lv_iconst (v := 0) hx hb dX8_sit_29 (by decide) ?_
        refine lv_iload_n hx hb dX8_sit_30 rfl (lv_at hl 2 rfl) ?_
        obtain ⟨gT_7, gNs_8, gNp_9, gX_10, gv_11, gib_12, hv⟩ := hv
        obtain ⟨hp, hv⟩ := hv
        refine x_calliR (x_runV (As := [.int 0, .int y]) (rest := []) (n := 2) (C := RX8) (ci := 8) ⟨hx, hb, hml, hown, hts⟩ (k_X8_sitter l G m0 m1 m2 m3 m4 m5 m6 m7 m8 m9 m10 m11 m12 m13 m14 _ mw ik zs cl hs ks wa ne mn tx th od bk bh fu fd fi nu nw nf bf bn ts ap fs ln fo fa wr 0 y gT_7 gNs_8 gNp_9 gX_10 gv_11 gib_12 hp) gX8_sit_X8_sitter rfl (by decide +kernel) ⟨Nat.le_trans (Nat.le_of_ble_eq_true rfl) hRf, Nat.le_trans (Nat.le_of_ble_eq_true rfl) hRl⟩ hKK hSS hS hA hP hD [0, 1, 2, 3, 4, 5, 6, 7, 8, 9, 10, 11, 12, 13, 14] (by decide) rfl rfl rfl 0 rfl rfl hl.1 rfl (Nat.le_of_ble_eq_true rfl) dX8_sit_31) hP hD hS hA [0, 1, 2, 3, 4, 5, 6, 7, 8, 9, 10, 11, 12, 13, 14] rfl (fun r_13 _ H locs hw hP hS => ?_)
        have hv := hv r_13 hw
        refine lv_if_lt (tgt := 50) hx hb dX8_sit_34 (by decide) (fun hc_14 => ?_) (fun hc_14 => ?_)
        · have hv := hv.1 hc_14
          refine lv_aload_n hx hb dX8_sit_50 rfl (lv_at hl 0 rfl) ?_
          refine va_get (D := G.1) (ci := 8) (v := .ref m1) (C := RX8) (T := TX8) (N := 29) hx hb hts hinX8 hown hKK.1 hP 0 rfl rfl 0 (by decide) kl7 (fun _ h9 => h9) rfl dX8_sit_51 ?_
          refine lv_bipush (v := 20) hx hb dX8_sit_54 (by decide) ?_
          refine lv_iload_n hx hb dX8_sit_56 rfl (lv_at hl 1 rfl) ?_
          refine lv_iadd hx hb dX8_sit_57 ?_
          obtain ⟨hin, hv⟩ := hv
          refine va_lald hx hb hKK.1 hP 1 2 rfl rfl hin dX8_sit_58 ?_
          refine lv_l2i hx hb dX8_sit_59 rfl ?_
          refine lv_topi (fun y_15 ey => ?_)
          have hv := hv y_15 ey
          refine lv_istore_n (lv' := [(3, .int y_15), (0, .ref m0), (1, .int x), (2, .int y)]) hx hb dX8_sit_60 rfl hl (by decide) rfl (fun ls hl => ?_)
          refine lv_aload_n hx hb dX8_sit_61 rfl (lv_at hl 1 rfl) ?_
          refine va_get (D := G.1) (ci := 8) (v := .ref m1) (C := RX8) (T := TX8) (N := 29) hx hb hts hinX8 hown hKK.1 hP 0 rfl rfl 0 (by decide) kl7 (fun _ h9 => h9) rfl dX8_sit_62 ?_
          refine lv_bipush (v := 20) hx hb dX8_sit_65 (by decide) ?_
          refine lv_iload_n hx hb dX8_sit_67 rfl (lv_at hl 2 rfl) ?_
          refine lv_iadd hx hb dX8_sit_68 ?_
          refine lv_iload_n hx hb dX8_sit_69 rfl (lv_at hl 3 rfl) ?_
          refine lv_i2l hx hb dX8_sit_70 rfl ?_
          obtain ⟨hin, hv⟩ := hv
          refine va_last hx hb hKK.1 hP hD hS 1 2 rfl rfl hin dX8_sit_71 (fun H locs hP hD hS => ?_)
          obtain ⟨fm1_16, ef⟩ : ∃ z9_, z9_ = (vp_updL mw ((20 + x).toNatClampNeg) y.toInt64) := ⟨_, rfl⟩
          have hP : va_P G.1 vwCl [(m0, .inr (8, [.ref m1, .ref m2, .ref m3, .ref m4, .ref m5, .ref m6, .ref m7, .ref m8, .ref m9, .int fu, .int fd, .int fi, .int nu, .int nw, .int nf, .int bf, .int bn, .ref m10, .int ts, .int ap, .int fs, .int ln, .int fo, .int fa, .ref m11, .ref m12, .ref m13, .ref m14, .int wr])), aJ G m1 560 fm1_16, aZ G m2 2 ik, aI G m3 20 zs, aI G m4 20 cl, aI G m5 20 hs, aI G m6 20 ks, aI G m7 20 wa, aI G m8 20 ne, aI G m9 4 mn, aI G m10 400 tx, aI G m11 6 th, aI G m12 6 od, aI G m13 30 bk, aI G m14 30 bh] H := by rw [ef]; exact hP
          have hD : va_D A [(m0, .inr (8, [.ref m1, .ref m2, .ref m3, .ref m4, .ref m5, .ref m6, .ref m7, .ref m8, .ref m9, .int fu, .int fd, .int fi, .int nu, .int nw, .int nf, .int bf, .int bn, .ref m10, .int ts, .int ap, .int fs, .int ln, .int fo, .int fa, .ref m11, .ref m12, .ref m13, .ref m14, .int wr])), aJ G m1 560 fm1_16, aZ G m2 2 ik, aI G m3 20 zs, aI G m4 20 cl, aI G m5 20 hs, aI G m6 20 ks, aI G m7 20 wa, aI G m8 20 ne, aI G m9 4 mn, aI G m10 400 tx, aI G m11 6 th, aI G m12 6 od, aI G m13 30 bk, aI G m14 30 bh] := by rw [ef]; exact hD
          have hv := hv fm1_16 ef
          refine lv_iload_n hx hb dX8_sit_72 rfl (lv_at hl 0 rfl) ?_
          exact x_iret (v := y_15) fm1_16 hQ hx hb hr hlocks hS dX8_sit_73 hv hP hD
        · have hv := hv.2 hc_14
          refine lv_aload_n hx hb dX8_sit_37 rfl (lv_at hl 0 rfl) ?_
          refine lv_iconst (v := 0) hx hb dX8_sit_38 (by decide) ?_
          refine lv_iload_n hx hb dX8_sit_39 rfl (lv_at hl 2 rfl) ?_
          obtain ⟨gT_17, gNs_18, gNp_19, gX_20, gv_21, gib_22, hv⟩ := hv
          obtain ⟨hp, hv⟩ := hv
          refine x_calliR (x_runV (As := [.int 0, .int y]) (rest := []) (n := 2) (C := RX8) (ci := 8) ⟨hx, hb, hml, hown, hts⟩ (k_X8_sitter l G m0 m1 m2 m3 m4 m5 m6 m7 m8 m9 m10 m11 m12 m13 m14 _ mw ik zs cl hs ks wa ne mn tx th od bk bh fu fd fi nu nw nf bf bn ts ap fs ln fo fa wr 0 y gT_17 gNs_18 gNp_19 gX_20 gv_21 gib_22 hp) gX8_sit_X8_sitter rfl (by decide +kernel) ⟨Nat.le_trans (Nat.le_of_ble_eq_true rfl) hRf, Nat.le_trans (Nat.le_of_ble_eq_true rfl) hRl⟩ hKK hSS hS hA hP hD [0, 1, 2, 3, 4, 5, 6, 7, 8, 9, 10, 11, 12, 13, 14] (by decide) rfl rfl rfl 0 rfl rfl hl.1 rfl (Nat.le_of_ble_eq_true rfl) dX8_sit_40) hP hD hS hA [0, 1, 2, 3, 4, 5, 6, 7, 8, 9, 10, 11, 12, 13, 14] rfl (fun r_23 _ H locs hw hP hS => ?_)
          have hv := hv r_23 hw
          refine lv_iload_n hx hb dX8_sit_43 rfl (lv_at hl 1 rfl) ?_
          refine lv_icmp_eq (tgt := 50) hx hb dX8_sit_44 (by decide) (fun hc_24 => ?_) (fun hc_24 => ?_)
          · have hv := hv.1 hc_24
            refine lv_aload_n hx hb dX8_sit_50 rfl (lv_at hl 0 rfl) ?_
            refine va_get (D := G.1) (ci := 8) (v := .ref m1) (C := RX8) (T := TX8) (N := 29) hx hb hts hinX8 hown hKK.1 hP 0 rfl rfl 0 (by decide) kl7 (fun _ h9 => h9) rfl dX8_sit_51 ?_
            refine lv_bipush (v := 20) hx hb dX8_sit_54 (by decide) ?_
            refine lv_iload_n hx hb dX8_sit_56 rfl (lv_at hl 1 rfl) ?_
            refine lv_iadd hx hb dX8_sit_57 ?_
            obtain ⟨hin, hv⟩ := hv
            refine va_lald hx hb hKK.1 hP 1 2 rfl rfl hin dX8_sit_58 ?_
            refine lv_l2i hx hb dX8_sit_59 rfl ?_
            refine lv_topi (fun y_25 ey => ?_)
            have hv := hv y_25 ey
            refine lv_istore_n (lv' := [(3, .int y_25), (0, .ref m0), (1, .int x), (2, .int y)]) hx hb dX8_sit_60 rfl hl (by decide) rfl (fun ls hl => ?_)
            refine lv_aload_n hx hb dX8_sit_61 rfl (lv_at hl 1 rfl) ?_
            refine va_get (D := G.1) (ci := 8) (v := .ref m1) (C := RX8) (T := TX8) (N := 29) hx hb hts hinX8 hown hKK.1 hP 0 rfl rfl 0 (by decide) kl7 (fun _ h9 => h9) rfl dX8_sit_62 ?_
            refine lv_bipush (v := 20) hx hb dX8_sit_65 (by decide) ?_
            refine lv_iload_n hx hb dX8_sit_67 rfl (lv_at hl 2 rfl) ?_
            refine lv_iadd hx hb dX8_sit_68 ?_
            refine lv_iload_n hx hb dX8_sit_69 rfl (lv_at hl 3 rfl) ?_
            refine lv_i2l hx hb dX8_sit_70 rfl ?_
            obtain ⟨hin, hv⟩ := hv
            refine va_last hx hb hKK.1 hP hD hS 1 2 rfl rfl hin dX8_sit_71 (fun H locs hP hD hS => ?_)
            obtain ⟨fm1_26, ef⟩ : ∃ z9_, z9_ = (vp_updL mw ((20 + x).toNatClampNeg) y.toInt64) := ⟨_, rfl⟩
            have hP : va_P G.1 vwCl [(m0, .inr (8, [.ref m1, .ref m2, .ref m3, .ref m4, .ref m5, .ref m6, .ref m7, .ref m8, .ref m9, .int fu, .int fd, .int fi, .int nu, .int nw, .int nf, .int bf, .int bn, .ref m10, .int ts, .int ap, .int fs, .int ln, .int fo, .int fa, .ref m11, .ref m12, .ref m13, .ref m14, .int wr])), aJ G m1 560 fm1_26, aZ G m2 2 ik, aI G m3 20 zs, aI G m4 20 cl, aI G m5 20 hs, aI G m6 20 ks, aI G m7 20 wa, aI G m8 20 ne, aI G m9 4 mn, aI G m10 400 tx, aI G m11 6 th, aI G m12 6 od, aI G m13 30 bk, aI G m14 30 bh] H := by rw [ef]; exact hP
            have hD : va_D A [(m0, .inr (8, [.ref m1, .ref m2, .ref m3, .ref m4, .ref m5, .ref m6, .ref m7, .ref m8, .ref m9, .int fu, .int fd, .int fi, .int nu, .int nw, .int nf, .int bf, .int bn, .ref m10, .int ts, .int ap, .int fs, .int ln, .int fo, .int fa, .ref m11, .ref m12, .ref m13, .ref m14, .int wr])), aJ G m1 560 fm1_26, aZ G m2 2 ik, aI G m3 20 zs, aI G m4 20 cl, aI G m5 20 hs, aI G m6 20 ks, aI G m7 20 wa, aI G m8 20 ne, aI G m9 4 mn, aI G m10 400 tx, aI G m11 6 th, aI G m12 6 od, aI G m13 30 bk, aI G m14 30 bh] := by rw [ef]; exact hD
            have hv := hv fm1_26 ef
            refine lv_iload_n hx hb dX8_sit_72 rfl (lv_at hl 0 rfl) ?_
            exact x_iret (v := y_25) fm1_26 hQ hx hb hr hlocks hS dX8_sit_73 hv hP hD
          · have hv := hv.2 hc_24
            refine lv_ldc (v := (-1000000003)) hx hb hown kl198 dX8_sit_47 ?_
            exact x_iret (v := (-1000000003)) mw hQ hx hb hr hlocks hS dX8_sit_49 hv hP hD
    · have hv := hv.2 hc_3
      refine lv_aload_n hx hb dX8_sit_13 rfl (lv_at hl 0 rfl) ?_
      refine lv_iload_n hx hb dX8_sit_14 rfl (lv_at hl 2 rfl) ?_
      refine x_calliR (x_runV (As := [.int y]) (rest := []) (n := 1) (C := RX8) (ci := 8) ⟨hx, hb, hml, hown, hts⟩ (k_X8_isStone l G m0 m1 m2 m3 m4 m5 m6 m7 m8 m9 m10 m11 m12 m13 m14 _ mw ik zs cl hs ks wa ne mn tx th od bk bh fu fd fi nu nw nf bf bn ts ap fs ln fo fa wr y) gX8_sit_X8_isStone rfl (by decide +kernel) ⟨Nat.le_trans (Nat.le_of_ble_eq_true rfl) hRf, Nat.le_trans (Nat.le_of_ble_eq_true rfl) hRl⟩ hKK hSS hS hA hP hD [0, 1, 2, 3, 4, 5, 6, 7, 8, 9, 10, 11, 12, 13, 14] (by decide) rfl rfl rfl 0 rfl rfl hl.1 rfl (Nat.le_of_ble_eq_true rfl) dX8_sit_15) hP hD hS hA [0, 1, 2, 3, 4, 5, 6, 7, 8, 9, 10, 11, 12, 13, 14] rfl (fun r_27 _ H locs hw hP hS => ?_)
      replace hw := hw.symm; subst hw
      refine lv_if_ne (tgt := 24) hx hb dX8_sit_18 (by decide) (fun hc_28 => ?_) (fun hc_28 => ?_)
      · have hv := hv.1 (tv_eqn.mp hc_28)
        refine lv_iload_n hx hb dX8_sit_24 rfl (lv_at hl 2 rfl) ?_
        refine lv_if_lt (tgt := 50) hx hb dX8_sit_25 (by decide) (fun hc_29 => ?_) (fun hc_29 => ?_)
        · have hv := hv.1 hc_29
          refine lv_aload_n hx hb dX8_sit_50 rfl (lv_at hl 0 rfl) ?_
          refine va_get (D := G.1) (ci := 8) (v := .ref m1) (C := RX8) (T := TX8) (N := 29) hx hb hts hinX8 hown hKK.1 hP 0 rfl rfl 0 (by decide) kl7 (fun _ h9 => h9) rfl dX8_sit_51 ?_
          refine lv_bipush (v := 20) hx hb dX8_sit_54 (by decide) ?_
          refine lv_iload_n hx hb dX8_sit_56 rfl (lv_at hl 1 rfl) ?_
          refine lv_iadd hx hb dX8_sit_57 ?_
          obtain ⟨hin, hv⟩ := hv
          refine va_lald hx hb hKK.1 hP 1 2 rfl rfl hin dX8_sit_58 ?_
          refine lv_l2i hx hb dX8_sit_59 rfl ?_
          refine lv_topi (fun y_30 ey => ?_)
          have hv := hv y_30 ey
          refine lv_istore_n (lv' := [(3, .int y_30), (0, .ref m0), (1, .int x), (2, .int y)]) hx hb dX8_sit_60 rfl hl (by decide) rfl (fun ls hl => ?_)
          refine lv_aload_n hx hb dX8_sit_61 rfl (lv_at hl 1 rfl) ?_
          refine va_get (D := G.1) (ci := 8) (v := .ref m1) (C := RX8) (T := TX8) (N := 29) hx hb hts hinX8 hown hKK.1 hP 0 rfl rfl 0 (by decide) kl7 (fun _ h9 => h9) rfl dX8_sit_62 ?_
          refine lv_bipush (v := 20) hx hb dX8_sit_65 (by decide) ?_
          refine lv_iload_n hx hb dX8_sit_67 rfl (lv_at hl 2 rfl) ?_
          refine lv_iadd hx hb dX8_sit_68 ?_
          refine lv_iload_n hx hb dX8_sit_69 rfl (lv_at hl 3 rfl) ?_
          refine lv_i2l hx hb dX8_sit_70 rfl ?_
          obtain ⟨hin, hv⟩ := hv
          refine va_last hx hb hKK.1 hP hD hS 1 2 rfl rfl hin dX8_sit_71 (fun H locs hP hD hS => ?_)
          obtain ⟨fm1_31, ef⟩ : ∃ z9_, z9_ = (vp_updL mw ((20 + x).toNatClampNeg) y.toInt64) := ⟨_, rfl⟩
          have hP : va_P G.1 vwCl [(m0, .inr (8, [.ref m1, .ref m2, .ref m3, .ref m4, .ref m5, .ref m6, .ref m7, .ref m8, .ref m9, .int fu, .int fd, .int fi, .int nu, .int nw, .int nf, .int bf, .int bn, .ref m10, .int ts, .int ap, .int fs, .int ln, .int fo, .int fa, .ref m11, .ref m12, .ref m13, .ref m14, .int wr])), aJ G m1 560 fm1_31, aZ G m2 2 ik, aI G m3 20 zs, aI G m4 20 cl, aI G m5 20 hs, aI G m6 20 ks, aI G m7 20 wa, aI G m8 20 ne, aI G m9 4 mn, aI G m10 400 tx, aI G m11 6 th, aI G m12 6 od, aI G m13 30 bk, aI G m14 30 bh] H := by rw [ef]; exact hP
          have hD : va_D A [(m0, .inr (8, [.ref m1, .ref m2, .ref m3, .ref m4, .ref m5, .ref m6, .ref m7, .ref m8, .ref m9, .int fu, .int fd, .int fi, .int nu, .int nw, .int nf, .int bf, .int bn, .ref m10, .int ts, .int ap, .int fs, .int ln, .int fo, .int fa, .ref m11, .ref m12, .ref m13, .ref m14, .int wr])), aJ G m1 560 fm1_31, aZ G m2 2 ik, aI G m3 20 zs, aI G m4 20 cl, aI G m5 20 hs, aI G m6 20 ks, aI G m7 20 wa, aI G m8 20 ne, aI G m9 4 mn, aI G m10 400 tx, aI G m11 6 th, aI G m12 6 od, aI G m13 30 bk, aI G m14 30 bh] := by rw [ef]; exact hD
          have hv := hv fm1_31 ef
          refine lv_iload_n hx hb dX8_sit_72 rfl (lv_at hl 0 rfl) ?_
          exact x_iret (v := y_30) fm1_31 hQ hx hb hr hlocks hS dX8_sit_73 hv hP hD
        · have hv := hv.2 hc_29
          refine lv_aload_n hx hb dX8_sit_28 rfl (lv_at hl 0 rfl) ?_
          refine lv_iconst (v := 0) hx hb dX8_sit_29 (by decide) ?_
          refine lv_iload_n hx hb dX8_sit_30 rfl (lv_at hl 2 rfl) ?_
          obtain ⟨gT_32, gNs_33, gNp_34, gX_35, gv_36, gib_37, hv⟩ := hv
          obtain ⟨hp, hv⟩ := hv
          refine x_calliR (x_runV (As := [.int 0, .int y]) (rest := []) (n := 2) (C := RX8) (ci := 8) ⟨hx, hb, hml, hown, hts⟩ (k_X8_sitter l G m0 m1 m2 m3 m4 m5 m6 m7 m8 m9 m10 m11 m12 m13 m14 _ mw ik zs cl hs ks wa ne mn tx th od bk bh fu fd fi nu nw nf bf bn ts ap fs ln fo fa wr 0 y gT_32 gNs_33 gNp_34 gX_35 gv_36 gib_37 hp) gX8_sit_X8_sitter rfl (by decide +kernel) ⟨Nat.le_trans (Nat.le_of_ble_eq_true rfl) hRf, Nat.le_trans (Nat.le_of_ble_eq_true rfl) hRl⟩ hKK hSS hS hA hP hD [0, 1, 2, 3, 4, 5, 6, 7, 8, 9, 10, 11, 12, 13, 14] (by decide) rfl rfl rfl 0 rfl rfl hl.1 rfl (Nat.le_of_ble_eq_true rfl) dX8_sit_31) hP hD hS hA [0, 1, 2, 3, 4, 5, 6, 7, 8, 9, 10, 11, 12, 13, 14] rfl (fun r_38 _ H locs hw hP hS => ?_)
          have hv := hv r_38 hw
          refine lv_if_lt (tgt := 50) hx hb dX8_sit_34 (by decide) (fun hc_39 => ?_) (fun hc_39 => ?_)
          · have hv := hv.1 hc_39
            refine lv_aload_n hx hb dX8_sit_50 rfl (lv_at hl 0 rfl) ?_
            refine va_get (D := G.1) (ci := 8) (v := .ref m1) (C := RX8) (T := TX8) (N := 29) hx hb hts hinX8 hown hKK.1 hP 0 rfl rfl 0 (by decide) kl7 (fun _ h9 => h9) rfl dX8_sit_51 ?_
            refine lv_bipush (v := 20) hx hb dX8_sit_54 (by decide) ?_
            refine lv_iload_n hx hb dX8_sit_56 rfl (lv_at hl 1 rfl) ?_
            refine lv_iadd hx hb dX8_sit_57 ?_
            obtain ⟨hin, hv⟩ := hv
            refine va_lald hx hb hKK.1 hP 1 2 rfl rfl hin dX8_sit_58 ?_
            refine lv_l2i hx hb dX8_sit_59 rfl ?_
            refine lv_topi (fun y_40 ey => ?_)
            have hv := hv y_40 ey
            refine lv_istore_n (lv' := [(3, .int y_40), (0, .ref m0), (1, .int x), (2, .int y)]) hx hb dX8_sit_60 rfl hl (by decide) rfl (fun ls hl => ?_)
            refine lv_aload_n hx hb dX8_sit_61 rfl (lv_at hl 1 rfl) ?_
            refine va_get (D := G.1) (ci := 8) (v := .ref m1) (C := RX8) (T := TX8) (N := 29) hx hb hts hinX8 hown hKK.1 hP 0 rfl rfl 0 (by decide) kl7 (fun _ h9 => h9) rfl dX8_sit_62 ?_
            refine lv_bipush (v := 20) hx hb dX8_sit_65 (by decide) ?_
            refine lv_iload_n hx hb dX8_sit_67 rfl (lv_at hl 2 rfl) ?_
            refine lv_iadd hx hb dX8_sit_68 ?_
            refine lv_iload_n hx hb dX8_sit_69 rfl (lv_at hl 3 rfl) ?_
            refine lv_i2l hx hb dX8_sit_70 rfl ?_
            obtain ⟨hin, hv⟩ := hv
            refine va_last hx hb hKK.1 hP hD hS 1 2 rfl rfl hin dX8_sit_71 (fun H locs hP hD hS => ?_)
            obtain ⟨fm1_41, ef⟩ : ∃ z9_, z9_ = (vp_updL mw ((20 + x).toNatClampNeg) y.toInt64) := ⟨_, rfl⟩
            have hP : va_P G.1 vwCl [(m0, .inr (8, [.ref m1, .ref m2, .ref m3, .ref m4, .ref m5, .ref m6, .ref m7, .ref m8, .ref m9, .int fu, .int fd, .int fi, .int nu, .int nw, .int nf, .int bf, .int bn, .ref m10, .int ts, .int ap, .int fs, .int ln, .int fo, .int fa, .ref m11, .ref m12, .ref m13, .ref m14, .int wr])), aJ G m1 560 fm1_41, aZ G m2 2 ik, aI G m3 20 zs, aI G m4 20 cl, aI G m5 20 hs, aI G m6 20 ks, aI G m7 20 wa, aI G m8 20 ne, aI G m9 4 mn, aI G m10 400 tx, aI G m11 6 th, aI G m12 6 od, aI G m13 30 bk, aI G m14 30 bh] H := by rw [ef]; exact hP
            have hD : va_D A [(m0, .inr (8, [.ref m1, .ref m2, .ref m3, .ref m4, .ref m5, .ref m6, .ref m7, .ref m8, .ref m9, .int fu, .int fd, .int fi, .int nu, .int nw, .int nf, .int bf, .int bn, .ref m10, .int ts, .int ap, .int fs, .int ln, .int fo, .int fa, .ref m11, .ref m12, .ref m13, .ref m14, .int wr])), aJ G m1 560 fm1_41, aZ G m2 2 ik, aI G m3 20 zs, aI G m4 20 cl, aI G m5 20 hs, aI G m6 20 ks, aI G m7 20 wa, aI G m8 20 ne, aI G m9 4 mn, aI G m10 400 tx, aI G m11 6 th, aI G m12 6 od, aI G m13 30 bk, aI G m14 30 bh] := by rw [ef]; exact hD
            have hv := hv fm1_41 ef
            refine lv_iload_n hx hb dX8_sit_72 rfl (lv_at hl 0 rfl) ?_
            exact x_iret (v := y_40) fm1_41 hQ hx hb hr hlocks hS dX8_sit_73 hv hP hD
          · have hv := hv.2 hc_39
            refine lv_aload_n hx hb dX8_sit_37 rfl (lv_at hl 0 rfl) ?_
            refine lv_iconst (v := 0) hx hb dX8_sit_38 (by decide) ?_
            refine lv_iload_n hx hb dX8_sit_39 rfl (lv_at hl 2 rfl) ?_
            obtain ⟨gT_42, gNs_43, gNp_44, gX_45, gv_46, gib_47, hv⟩ := hv
            obtain ⟨hp, hv⟩ := hv
            refine x_calliR (x_runV (As := [.int 0, .int y]) (rest := []) (n := 2) (C := RX8) (ci := 8) ⟨hx, hb, hml, hown, hts⟩ (k_X8_sitter l G m0 m1 m2 m3 m4 m5 m6 m7 m8 m9 m10 m11 m12 m13 m14 _ mw ik zs cl hs ks wa ne mn tx th od bk bh fu fd fi nu nw nf bf bn ts ap fs ln fo fa wr 0 y gT_42 gNs_43 gNp_44 gX_45 gv_46 gib_47 hp) gX8_sit_X8_sitter rfl (by decide +kernel) ⟨Nat.le_trans (Nat.le_of_ble_eq_true rfl) hRf, Nat.le_trans (Nat.le_of_ble_eq_true rfl) hRl⟩ hKK hSS hS hA hP hD [0, 1, 2, 3, 4, 5, 6, 7, 8, 9, 10, 11, 12, 13, 14] (by decide) rfl rfl rfl 0 rfl rfl hl.1 rfl (Nat.le_of_ble_eq_true rfl) dX8_sit_40) hP hD hS hA [0, 1, 2, 3, 4, 5, 6, 7, 8, 9, 10, 11, 12, 13, 14] rfl (fun r_48 _ H locs hw hP hS => ?_)
            have hv := hv r_48 hw
            refine lv_iload_n hx hb dX8_sit_43 rfl (lv_at hl 1 rfl) ?_
            refine lv_icmp_eq (tgt := 50) hx hb dX8_sit_44 (by decide) (fun hc_49 => ?_) (fun hc_49 => ?_)
            · have hv := hv.1 hc_49
              refine lv_aload_n hx hb dX8_sit_50 rfl (lv_at hl 0 rfl) ?_
              refine va_get (D := G.1) (ci := 8) (v := .ref m1) (C := RX8) (T := TX8) (N := 29) hx hb hts hinX8 hown hKK.1 hP 0 rfl rfl 0 (by decide) kl7 (fun _ h9 => h9) rfl dX8_sit_51 ?_
              refine lv_bipush (v := 20) hx hb dX8_sit_54 (by decide) ?_
              refine lv_iload_n hx hb dX8_sit_56 rfl (lv_at hl 1 rfl) ?_
              refine lv_iadd hx hb dX8_sit_57 ?_
              obtain ⟨hin, hv⟩ := hv
              refine va_lald hx hb hKK.1 hP 1 2 rfl rfl hin dX8_sit_58 ?_
              refine lv_l2i hx hb dX8_sit_59 rfl ?_
              refine lv_topi (fun y_50 ey => ?_)
              have hv := hv y_50 ey
              refine lv_istore_n (lv' := [(3, .int y_50), (0, .ref m0), (1, .int x), (2, .int y)]) hx hb dX8_sit_60 rfl hl (by decide) rfl (fun ls hl => ?_)
              refine lv_aload_n hx hb dX8_sit_61 rfl (lv_at hl 1 rfl) ?_
              refine va_get (D := G.1) (ci := 8) (v := .ref m1) (C := RX8) (T := TX8) (N := 29) hx hb hts hinX8 hown hKK.1 hP 0 rfl rfl 0 (by decide) kl7 (fun _ h9 => h9) rfl dX8_sit_62 ?_
              refine lv_bipush (v := 20) hx hb dX8_sit_65 (by decide) ?_
              refine lv_iload_n hx hb dX8_sit_67 rfl (lv_at hl 2 rfl) ?_
              refine lv_iadd hx hb dX8_sit_68 ?_
              refine lv_iload_n hx hb dX8_sit_69 rfl (lv_at hl 3 rfl) ?_
              refine lv_i2l hx hb dX8_sit_70 rfl ?_
              obtain ⟨hin, hv⟩ := hv
              refine va_last hx hb hKK.1 hP hD hS 1 2 rfl rfl hin dX8_sit_71 (fun H locs hP hD hS => ?_)
              obtain ⟨fm1_51, ef⟩ : ∃ z9_, z9_ = (vp_updL mw ((20 + x).toNatClampNeg) y.toInt64) := ⟨_, rfl⟩
              have hP : va_P G.1 vwCl [(m0, .inr (8, [.ref m1, .ref m2, .ref m3, .ref m4, .ref m5, .ref m6, .ref m7, .ref m8, .ref m9, .int fu, .int fd, .int fi, .int nu, .int nw, .int nf, .int bf, .int bn, .ref m10, .int ts, .int ap, .int fs, .int ln, .int fo, .int fa, .ref m11, .ref m12, .ref m13, .ref m14, .int wr])), aJ G m1 560 fm1_51, aZ G m2 2 ik, aI G m3 20 zs, aI G m4 20 cl, aI G m5 20 hs, aI G m6 20 ks, aI G m7 20 wa, aI G m8 20 ne, aI G m9 4 mn, aI G m10 400 tx, aI G m11 6 th, aI G m12 6 od, aI G m13 30 bk, aI G m14 30 bh] H := by rw [ef]; exact hP
              have hD : va_D A [(m0, .inr (8, [.ref m1, .ref m2, .ref m3, .ref m4, .ref m5, .ref m6, .ref m7, .ref m8, .ref m9, .int fu, .int fd, .int fi, .int nu, .int nw, .int nf, .int bf, .int bn, .ref m10, .int ts, .int ap, .int fs, .int ln, .int fo, .int fa, .ref m11, .ref m12, .ref m13, .ref m14, .int wr])), aJ G m1 560 fm1_51, aZ G m2 2 ik, aI G m3 20 zs, aI G m4 20 cl, aI G m5 20 hs, aI G m6 20 ks, aI G m7 20 wa, aI G m8 20 ne, aI G m9 4 mn, aI G m10 400 tx, aI G m11 6 th, aI G m12 6 od, aI G m13 30 bk, aI G m14 30 bh] := by rw [ef]; exact hD
              have hv := hv fm1_51 ef
              refine lv_iload_n hx hb dX8_sit_72 rfl (lv_at hl 0 rfl) ?_
              exact x_iret (v := y_50) fm1_51 hQ hx hb hr hlocks hS dX8_sit_73 hv hP hD
            · have hv := hv.2 hc_49
              refine lv_ldc (v := (-1000000003)) hx hb hown kl198 dX8_sit_47 ?_
              exact x_iret (v := (-1000000003)) mw hQ hx hb hr hlocks hS dX8_sit_49 hv hP hD
      · have hv := hv.2 (tv_eq.mp hc_28)
        refine lv_ldc (v := (-1000000001)) hx hb hown kl164 dX8_sit_21 ?_
        exact x_iret (v := (-1000000001)) mw hQ hx hb hr hlocks hS dX8_sit_23 hv hP hD
theorem v_X8_sit (l : Launch) (G : Gt) (m0 m1 m2 m3 m4 m5 m6 m7 m8 m9 m10 m11 m12 m13 m14 : Nat) (sz : Nat) (mw : Nat → Int64) (ik : Nat → Int32) (zs : Nat → Int32) (cl : Nat → Int32) (hs : Nat → Int32) (ks : Nat → Int32) (wa : Nat → Int32) (ne : Nat → Int32) (mn : Nat → Int32) (tx : Nat → Int32) (th : Nat → Int32) (od : Nat → Int32) (bk : Nat → Int32) (bh : Nat → Int32) (fu : Int32) (fd : Int32) (fi : Int32) (nu : Int32) (nw : Int32) (nf : Int32) (bf : Int32) (bn : Int32) (ts : Int32) (ap : Int32) (fs : Int32) (ln : Int32) (fo : Int32) (fa : Int32) (wr : Int32) (x : Int32) (y : Int32) (T : Nat → Nat → Int) (Ns : Nat) (Np : Nat) (v : Nat → Int) (M : Int) (hp : TOK T Ns Np ∧ MT T Ns Np fu fd fi zs cl ks ne mn ∧ MR 0 mw v ∧ NOK T Ns Np (fun _ => 2 * M) M v ∧ M ≤ 900000) : (¬ (inR x (mn 1)) → ((-1000000001) : Int32).toInt = (qSit Ns Np v x.toInt y.toInt).1 ∧ MR 0 mw (qSit Ns Np v x.toInt y.toInt).2 ∧ MF 0 mw mw) ∧ (inR x (mn 1) → (y = (-1) → (y < 0 → (vp_in (20 + x) 560) ∧ (∀ (y_5 : Int32), (y_5 = (mw (20 + x).toNatClampNeg).toInt32) → ((vp_in (20 + x) 560) ∧ (∀ (fm1_6 : (Nat → Int64)), (fm1_6 = (vp_updL mw ((20 + x).toNatClampNeg) y.toInt64)) → (y_5.toInt = (qSit Ns Np v x.toInt y.toInt).1 ∧ MR 0 fm1_6 (qSit Ns Np v x.toInt y.toInt).2 ∧ MF 0 mw fm1_6))))) ∧ (¬ (y < 0) → ∃ (gT_7 : Nat → Nat → Int) (gNs_8 : Nat) (gNp_9 : Nat) (gX_10 : Nat) (gv_11 : Nat → Int) (gib_12 : Nat), ((TOK gT_7 gNs_8 gNp_9 ∧ MT gT_7 gNs_8 gNp_9 fu fd fi zs cl ks ne mn ∧ (0 : Int32) = nI gX_10 ∧ gX_10 + 140 ≤ 560 ∧ MR gX_10 mw gv_11 ∧ y = nI gib_12 ∧ gib_12 < 9) ∧ (∀ (r_13 : Int32), ((r_13 < 0 ↔ zEmpty gv_11 gib_12 gNp_9) ∧ r_13 = zSitter gv_11 gib_12 gNp_9) → ((r_13 < 0 → (vp_in (20 + x) 560) ∧ (∀ (y_15 : Int32), (y_15 = (mw (20 + x).toNatClampNeg).toInt32) → ((vp_in (20 + x) 560) ∧ (∀ (fm1_16 : (Nat → Int64)), (fm1_16 = (vp_updL mw ((20 + x).toNatClampNeg) y.toInt64)) → (y_15.toInt = (qSit Ns Np v x.toInt y.toInt).1 ∧ MR 0 fm1_16 (qSit Ns Np v x.toInt y.toInt).2 ∧ MF 0 mw fm1_16))))) ∧ (¬ (r_13 < 0) → ∃ (gT_17 : Nat → Nat → Int) (gNs_18 : Nat) (gNp_19 : Nat) (gX_20 : Nat) (gv_21 : Nat → Int) (gib_22 : Nat), ((TOK gT_17 gNs_18 gNp_19 ∧ MT gT_17 gNs_18 gNp_19 fu fd fi zs cl ks ne mn ∧ (0 : Int32) = nI gX_20 ∧ gX_20 + 140 ≤ 560 ∧ MR gX_20 mw gv_21 ∧ y = nI gib_22 ∧ gib_22 < 9) ∧ (∀ (r_23 : Int32), ((r_23 < 0 ↔ zEmpty gv_21 gib_22 gNp_19) ∧ r_23 = zSitter gv_21 gib_22 gNp_19) → ((r_23 = x → (vp_in (20 + x) 560) ∧ (∀ (y_25 : Int32), (y_25 = (mw (20 + x).toNatClampNeg).toInt32) → ((vp_in (20 + x) 560) ∧ (∀ (fm1_26 : (Nat → Int64)), (fm1_26 = (vp_updL mw ((20 + x).toNatClampNeg) y.toInt64)) → (y_25.toInt = (qSit Ns Np v x.toInt y.toInt).1 ∧ MR 0 fm1_26 (qSit Ns Np v x.toInt y.toInt).2 ∧ MF 0 mw fm1_26))))) ∧ (¬ (r_23 = x) → ((-1000000003) : Int32).toInt = (qSit Ns Np v x.toInt y.toInt).1 ∧ MR 0 mw (qSit Ns Np v x.toInt y.toInt).2 ∧ MF 0 mw mw)))))))))) ∧ (¬ (y = (-1)) → (inR y (mn 0) → (y < 0 → (vp_in (20 + x) 560) ∧ (∀ (y_30 : Int32), (y_30 = (mw (20 + x).toNatClampNeg).toInt32) → ((vp_in (20 + x) 560) ∧ (∀ (fm1_31 : (Nat → Int64)), (fm1_31 = (vp_updL mw ((20 + x).toNatClampNeg) y.toInt64)) → (y_30.toInt = (qSit Ns Np v x.toInt y.toInt).1 ∧ MR 0 fm1_31 (qSit Ns Np v x.toInt y.toInt).2 ∧ MF 0 mw fm1_31))))) ∧ (¬ (y < 0) → ∃ (gT_32 : Nat → Nat → Int) (gNs_33 : Nat) (gNp_34 : Nat) (gX_35 : Nat) (gv_36 : Nat → Int) (gib_37 : Nat), ((TOK gT_32 gNs_33 gNp_34 ∧ MT gT_32 gNs_33 gNp_34 fu fd fi zs cl ks ne mn ∧ (0 : Int32) = nI gX_35 ∧ gX_35 + 140 ≤ 560 ∧ MR gX_35 mw gv_36 ∧ y = nI gib_37 ∧ gib_37 < 9) ∧ (∀ (r_38 : Int32), ((r_38 < 0 ↔ zEmpty gv_36 gib_37 gNp_34) ∧ r_38 = zSitter gv_36 gib_37 gNp_34) → ((r_38 < 0 → (vp_in (20 + x) 560) ∧ (∀ (y_40 : Int32), (y_40 = (mw (20 + x).toNatClampNeg).toInt32) → ((vp_in (20 + x) 560) ∧ (∀ (fm1_41 : (Nat → Int64)), (fm1_41 = (vp_updL mw ((20 + x).toNatClampNeg) y.toInt64)) → (y_40.toInt = (qSit Ns Np v x.toInt y.toInt).1 ∧ MR 0 fm1_41 (qSit Ns Np v x.toInt y.toInt).2 ∧ MF 0 mw fm1_41))))) ∧ (¬ (r_38 < 0) → ∃ (gT_42 : Nat → Nat → Int) (gNs_43 : Nat) (gNp_44 : Nat) (gX_45 : Nat) (gv_46 : Nat → Int) (gib_47 : Nat), ((TOK gT_42 gNs_43 gNp_44 ∧ MT gT_42 gNs_43 gNp_44 fu fd fi zs cl ks ne mn ∧ (0 : Int32) = nI gX_45 ∧ gX_45 + 140 ≤ 560 ∧ MR gX_45 mw gv_46 ∧ y = nI gib_47 ∧ gib_47 < 9) ∧ (∀ (r_48 : Int32), ((r_48 < 0 ↔ zEmpty gv_46 gib_47 gNp_44) ∧ r_48 = zSitter gv_46 gib_47 gNp_44) → ((r_48 = x → (vp_in (20 + x) 560) ∧ (∀ (y_50 : Int32), (y_50 = (mw (20 + x).toNatClampNeg).toInt32) → ((vp_in (20 + x) 560) ∧ (∀ (fm1_51 : (Nat → Int64)), (fm1_51 = (vp_updL mw ((20 + x).toNatClampNeg) y.toInt64)) → (y_50.toInt = (qSit Ns Np v x.toInt y.toInt).1 ∧ MR 0 fm1_51 (qSit Ns Np v x.toInt y.toInt).2 ∧ MF 0 mw fm1_51))))) ∧ (¬ (r_48 = x) → ((-1000000003) : Int32).toInt = (qSit Ns Np v x.toInt y.toInt).1 ∧ MR 0 mw (qSit Ns Np v x.toInt y.toInt).2 ∧ MF 0 mw mw)))))))))) ∧ (¬ (inR y (mn 0)) → ((-1000000001) : Int32).toInt = (qSit Ns Np v x.toInt y.toInt).1 ∧ MR 0 mw (qSit Ns Np v x.toInt y.toInt).2 ∧ MF 0 mw mw))) := by
  obtain ⟨hT, hC, hR, hO, hM⟩ := hp
  have t1 := hT.1
  have t2 := hT.2.1
  have hp_ := inR_iff (x := x) hC.2.1 (by omega)
  have hs_ := inR_iff (x := y) hC.1 (by omega)
  have hy1 : y = -1 ↔ y.toInt = -1 := i_eq rfl rfl
  have hy0 : y < 0 ↔ y.toInt < 0 := i_lt rfl rfl
  simp only [hp_, hs_]
  refine ⟨fun h1 => ?_, fun h1 => ?_⟩
  · rw [qSit, if_pos (Or.inl h1)]; exact ⟨rfl, hR, MF.rf 0 mw⟩
  · obtain ⟨i, hi, rfl, hxi, hxt⟩ := in_nat h1 (by omega)
    have e20 : 20 + nI i = nI (20 + i) := ix1 20 i
    have c20 : (nI (20 + i)).toNatClampNeg = 20 + i := nI_clamp (by omega)
    simp only [e20, c20]
    have v20 : vp_in (nI (20 + i)) 560 := vp_in_nI (by omega) (by omega)
    have b := nok_p hO hi
    have leaf : qSit Ns Np v (nI i).toInt y.toInt = (v (20 + i), uz v (20 + i) y.toInt) → (vp_in (nI (20 + i)) 560) ∧ (∀ a : Int32, a = (mw (20 + i)).toInt32 → (vp_in (nI (20 + i)) 560) ∧ ∀ w : Nat → Int64, w = vp_updL mw (20 + i) y.toInt64 → (a.toInt = (qSit Ns Np v (nI i).toInt y.toInt).1 ∧ MR 0 w (qSit Ns Np v (nI i).toInt y.toInt).2 ∧ MF 0 mw w)) := by
      intro e
      refine ⟨v20, fun a ea => ⟨v20, fun w ew => ?_⟩⟩
      rw [e]
      exact ⟨by rw [ea]; exact l_iZ (hR.z (by omega)) (by omega) (by omega), by rw [ew]; exact hR.u0 (i_l rfl), by rw [ew]; exact (MF.rf 0 mw).u0 (by omega)⟩
    refine ⟨fun h2 => ⟨fun h3 => leaf ?_, fun h3 => ?_⟩, fun h2 => ⟨fun h3 => ⟨fun h4 => ?_, fun h4 => ?_⟩, fun h3 => ?_⟩⟩
    · have z := hy1.mp h2
      rw [qSit, if_neg (fun q => q.elim (fun q => q h1) (fun q => q.1 z)), if_neg (fun q => by have := q.1; omega), hxt]
    · exact absurd (hy0.mpr (by have := hy1.mp h2; omega)) h3
    · exact absurd (hy0.mp h4) (by omega)
    · obtain ⟨c, hc, rfl, hyc, hyt⟩ := in_nat h3 (by omega)
      have n1 : ¬ (¬ (0 ≤ (nI i).toInt ∧ (nI i).toInt < Np) ∨ ((nI c).toInt ≠ -1 ∧ ¬ (0 ≤ (nI c).toInt ∧ (nI c).toInt < Ns))) := fun q => q.elim (fun q => q h1) (fun q => q.2 h3)
      refine ⟨T, Ns, Np, 0, v, c, ⟨hT, hC, rfl, by omega, hR, rfl, by omega⟩, fun r hr => ⟨fun h5 => leaf ?_, fun h5 => ⟨T, Ns, Np, 0, v, c, ⟨hT, hC, rfl, by omega, hR, rfl, by omega⟩, fun r2 hr2 => ⟨fun h6 => leaf ?_, fun h6 => ?_⟩⟩⟩⟩
      · rw [qSit, if_neg n1, hyt, hxt, zFirst_none (hr.1.mp h5), if_neg (fun q => q.2.1 rfl)]
      · rcases zFirst_cases v c Np with ⟨q1, q2⟩ | ⟨p, q1, q2, q3, q4⟩
        · exact absurd (hr.1.mpr q1) h5
        · have e : p = i := by
            have z : nI p = nI i := by rw [← q4, ← hr2.2]; exact h6
            exact (nI_eq (by omega) (by omega)).mp z
          subst e
          rw [qSit, if_neg n1, hyt, hxt, q2, if_neg (fun q => q.2.2 rfl)]
      · rcases zFirst_cases v c Np with ⟨q1, q2⟩ | ⟨p, q1, q2, q3, q4⟩
        · exact absurd (hr.1.mpr q1) h5
        · have e : p ≠ i := fun z => by
            subst z
            exact h6 (by rw [hr2.2, q4])
          rw [qSit, if_neg n1, hyt, hxt, q2, if_pos ⟨h3.1, Option.some_ne_none p, fun z => e (Option.some.inj z)⟩]
          exact ⟨rfl, hR, MF.rf 0 mw⟩
    · rw [qSit, if_pos (Or.inr ⟨fun z => h2 (hy1.mpr z), h3⟩)]; exact ⟨rfl, hR, MF.rf 0 mw⟩
theorem k_X8_sit (l : Launch) (G : Gt) (m0 m1 m2 m3 m4 m5 m6 m7 m8 m9 m10 m11 m12 m13 m14 : Nat) (sz : Nat) (mw : Nat → Int64) (ik : Nat → Int32) (zs : Nat → Int32) (cl : Nat → Int32) (hs : Nat → Int32) (ks : Nat → Int32) (wa : Nat → Int32) (ne : Nat → Int32) (mn : Nat → Int32) (tx : Nat → Int32) (th : Nat → Int32) (od : Nat → Int32) (bk : Nat → Int32) (bh : Nat → Int32) (fu : Int32) (fd : Int32) (fi : Int32) (nu : Int32) (nw : Int32) (nf : Int32) (bf : Int32) (bn : Int32) (ts : Int32) (ap : Int32) (fs : Int32) (ln : Int32) (fo : Int32) (fa : Int32) (wr : Int32) (x : Int32) (y : Int32) (T : Nat → Nat → Int) (Ns : Nat) (Np : Nat) (v : Nat → Int) (M : Int) (hp : TOK T Ns Np ∧ MT T Ns Np fu fd fi zs cl ks ne mn ∧ MR 0 mw v ∧ NOK T Ns Np (fun _ => 2 * M) M v ∧ M ≤ 900000) : MetI l yX8_sit wsX8_sit 2 46 G [.ref m0, .int x, .int y] [(m0, .inr (8, [.ref m1, .ref m2, .ref m3, .ref m4, .ref m5, .ref m6, .ref m7, .ref m8, .ref m9, .int fu, .int fd, .int fi, .int nu, .int nw, .int nf, .int bf, .int bn, .ref m10, .int ts, .int ap, .int fs, .int ln, .int fo, .int fa, .ref m11, .ref m12, .ref m13, .ref m14, .int wr])), aJ G m1 560 mw, aZ G m2 2 ik, aI G m3 20 zs, aI G m4 20 cl, aI G m5 20 hs, aI G m6 20 ks, aI G m7 20 wa, aI G m8 20 ne, aI G m9 4 mn, aI G m10 400 tx, aI G m11 6 th, aI G m12 6 od, aI G m13 30 bk, aI G m14 30 bh] sz (fun (r : Int32) (u : (Nat → Int64)) => r.toInt = (qSit Ns Np v x.toInt y.toInt).1 ∧ MR 0 u (qSit Ns Np v x.toInt y.toInt).2 ∧ MF 0 mw u) (fun (u : (Nat → Int64)) => [(m0, .inr (8, [.ref m1, .ref m2, .ref m3, .ref m4, .ref m5, .ref m6, .ref m7, .ref m8, .ref m9, .int fu, .int fd, .int fi, .int nu, .int nw, .int nf, .int bf, .int bn, .ref m10, .int ts, .int ap, .int fs, .int ln, .int fo, .int fa, .ref m11, .ref m12, .ref m13, .ref m14, .int wr])), aJ G m1 560 u, aZ G m2 2 ik, aI G m3 20 zs, aI G m4 20 cl, aI G m5 20 hs, aI G m6 20 ks, aI G m7 20 wa, aI G m8 20 ne, aI G m9 4 mn, aI G m10 400 tx, aI G m11 6 th, aI G m12 6 od, aI G m13 30 bk, aI G m14 30 bh]) :=
  c_X8_sit l G m0 m1 m2 m3 m4 m5 m6 m7 m8 m9 m10 m11 m12 m13 m14 sz mw ik zs cl hs ks wa ne mn tx th od bk bh fu fd fi nu nw nf bf bn ts ap fs ln fo fa wr x y T Ns Np v M (v_X8_sit l G m0 m1 m2 m3 m4 m5 m6 m7 m8 m9 m10 m11 m12 m13 m14 sz mw ik zs cl hs ks wa ne mn tx th od bk bh fu fd fi nu nw nf bf bn ts ap fs ln fo fa wr x y T Ns Np v M hp)

set_option maxHeartbeats 4000000 in
set_option maxRecDepth 100000 in
theorem c_X8_coldNow (l : Launch) (G : Gt) (m0 m1 m2 m3 m4 m5 m6 m7 m8 m9 m10 m11 m12 m13 m14 : Nat) (sz : Nat) (mw : Nat → Int64) (ik : Nat → Int32) (zs : Nat → Int32) (cl : Nat → Int32) (hs : Nat → Int32) (ks : Nat → Int32) (wa : Nat → Int32) (ne : Nat → Int32) (mn : Nat → Int32) (tx : Nat → Int32) (th : Nat → Int32) (od : Nat → Int32) (bk : Nat → Int32) (bh : Nat → Int32) (fu : Int32) (fd : Int32) (fi : Int32) (nu : Int32) (nw : Int32) (nf : Int32) (bf : Int32) (bn : Int32) (ts : Int32) (ap : Int32) (fs : Int32) (ln : Int32) (fo : Int32) (fa : Int32) (wr : Int32) (T : Nat → Nat → Int) (Ns : Nat) (Np : Nat) (v : Nat → Int) (hv : ∃ (I4_3 : Int32 → Int32 → Prop) (μ4_4 : Int32 → Int32 → Nat), I4_3 0 0 ∧ (∀ (x1_1 : Int32) (x2_2 : Int32), I4_3 x1_1 x2_2 → ((mn 1) ≤ x2_2 → x1_1 = nI (zCs T v Np)) ∧ (¬ ((mn 1) ≤ x2_2) → ∃ (gT_8 : Nat → Nat → Int) (gNs_9 : Nat) (gNp_10 : Nat) (gX_11 : Nat) (gv_12 : Nat → Int) (gip_13 : Nat), ((TOK gT_8 gNs_9 gNp_10 ∧ MT gT_8 gNs_9 gNp_10 fu fd fi zs cl ks ne mn ∧ (0 : Int32) = nI gX_11 ∧ gX_11 + 140 ≤ 560 ∧ MR gX_11 mw gv_12 ∧ x2_2 = nI gip_13 ∧ gip_13 < gNp_10) ∧ (∀ (r_14 : Int32), (r_14 = if gv_12 (10 + gip_13) < gT_8 3 gip_13 then 1 else 0) → (∀ (y_16 : Int32), (y_16 = (x1_1 ||| (((if r_14 = 0 then 0 else 1) : Int32) <<< (x2_2 &&& 31)))) → (I4_3 y_16 (x2_2 + 1) ∧ μ4_4 y_16 (x2_2 + 1) < μ4_4 x1_1 x2_2))))))) : MetI l yX8_coldNow wsX8_coldNow 1 22 G [.ref m0] [(m0, .inr (8, [.ref m1, .ref m2, .ref m3, .ref m4, .ref m5, .ref m6, .ref m7, .ref m8, .ref m9, .int fu, .int fd, .int fi, .int nu, .int nw, .int nf, .int bf, .int bn, .ref m10, .int ts, .int ap, .int fs, .int ln, .int fo, .int fa, .ref m11, .ref m12, .ref m13, .ref m14, .int wr])), aJ G m1 560 mw, aZ G m2 2 ik, aI G m3 20 zs, aI G m4 20 cl, aI G m5 20 hs, aI G m6 20 ks, aI G m7 20 wa, aI G m8 20 ne, aI G m9 4 mn, aI G m10 400 tx, aI G m11 6 th, aI G m12 6 od, aI G m13 30 bk, aI G m14 30 bh] sz (fun (r : Int32) (_ : Unit) => r = nI (zCs T v Np)) (fun (_ : Unit) => [(m0, .inr (8, [.ref m1, .ref m2, .ref m3, .ref m4, .ref m5, .ref m6, .ref m7, .ref m8, .ref m9, .int fu, .int fd, .int fi, .int nu, .int nw, .int nf, .int bf, .int bn, .ref m10, .int ts, .int ap, .int fs, .int ln, .int fo, .int fa, .ref m11, .ref m12, .ref m13, .ref m14, .int wr])), aJ G m1 560 mw, aZ G m2 2 ik, aI G m3 20 zs, aI G m4 20 cl, aI G m5 20 hs, aI G m6 20 ks, aI G m7 20 wa, aI G m8 20 ne, aI G m9 4 mn, aI G m10 400 tx, aI G m11 6 th, aI G m12 6 od, aI G m13 30 bk, aI G m14 30 bh]) := by
  refine x_startI (cc := cX8_coldNow) (maxL := 3) (ret := (some .int)) (by decide) rfl (Nat.le_of_ble_eq_true rfl) ?_
  intro p e s m args below meth c A R Q ls hRf hRl hQ C hP hD hS hA hSS hl
  obtain ⟨hx, hb, hr, hml, hown, hts, hlocks, hKK⟩ := C
  have hown : s.vm.findClass RX8 = some m.cls := hown
  have hl : lv_has ls 3 [(0, .ref m0)] := hl
  have hinX8 : ∀ w ∈ u_ws RX8 TX8 29, w ∈ wsX8_coldNow := by decide +kernel
  have kl36 := hts (.fieldLink RX8 36 "WarmStonesModel" "many" "[I") (by decide +kernel)
  refine lv_iconst (v := 0) hx hb dX8_coldNow_0 (by decide) ?_
  refine lv_istore_n (lv' := [(1, .int 0), (0, .ref m0)]) hx hb dX8_coldNow_1 rfl hl (by decide) rfl (fun ls hl => ?_)
  refine lv_iconst (v := 0) hx hb dX8_coldNow_2 (by decide) ?_
  refine lv_istore_n (lv' := [(2, .int 0), (1, .int 0), (0, .ref m0)]) hx hb dX8_coldNow_3 rfl hl (by decide) rfl (fun ls hl => ?_)
  obtain ⟨I4_3, μ4_4, hi0, hs_17⟩ := hv
  have Lm_19 : ∀ (n_18 : Nat) (x1_1 : Int32) (x2_2 : Int32) (H : Heap) (locs : List Loc) (ls : Array Slot), μ4_4 x1_1 x2_2 < n_18 → I4_3 x1_1 x2_2 → va_P G.1 vwCl [(m0, .inr (8, [.ref m1, .ref m2, .ref m3, .ref m4, .ref m5, .ref m6, .ref m7, .ref m8, .ref m9, .int fu, .int fd, .int fi, .int nu, .int nw, .int nf, .int bf, .int bn, .ref m10, .int ts, .int ap, .int fs, .int ln, .int fo, .int fa, .ref m11, .ref m12, .ref m13, .ref m14, .int wr])), aJ G m1 560 mw, aZ G m2 2 ik, aI G m3 20 zs, aI G m4 20 cl, aI G m5 20 hs, aI G m6 20 ks, aI G m7 20 wa, aI G m8 20 ne, aI G m9 4 mn, aI G m10 400 tx, aI G m11 6 th, aI G m12 6 od, aI G m13 30 bk, aI G m14 30 bh] H → va_D A [(m0, .inr (8, [.ref m1, .ref m2, .ref m3, .ref m4, .ref m5, .ref m6, .ref m7, .ref m8, .ref m9, .int fu, .int fd, .int fi, .int nu, .int nw, .int nf, .int bf, .int bn, .ref m10, .int ts, .int ap, .int fs, .int ln, .int fo, .int fa, .ref m11, .ref m12, .ref m13, .ref m14, .int wr])), aJ G m1 560 mw, aZ G m2 2 ik, aI G m3 20 zs, aI G m4 20 cl, aI G m5 20 hs, aI G m6 20 ks, aI G m7 20 wa, aI G m8 20 ne, aI G m9 4 mn, aI G m10 400 tx, aI G m11 6 th, aI G m12 6 od, aI G m13 30 bk, aI G m14 30 bh] → va_S A s.heap H locs → lv_has ls 3 [(2, .int x2_2), (1, .int x1_1), (0, .ref m0)] → W p l e R s m args below meth c H locs 0 0 Q (F0 m 4 ls []) := by
    intro n_18
    induction n_18 with
    | zero => intro x1_1 x2_2 H locs ls hm; exact absurd hm (Nat.not_lt_zero _)
    | succ n_18 ih_5 =>
      intro x1_1 x2_2 H locs ls hI_6 hi hP hD hS hl
      have hv := hs_17 x1_1 x2_2 hi
      refine lv_iload_n hx hb dX8_coldNow_4 rfl (lv_at hl 0 rfl) ?_
      refine lv_aload_n hx hb dX8_coldNow_5 rfl (lv_at hl 2 rfl) ?_
      refine va_get (D := G.1) (ci := 8) (v := .ref m9) (C := RX8) (T := TX8) (N := 29) hx hb hts hinX8 hown hKK.1 hP 0 rfl rfl 8 (by decide) kl36 (fun _ h9 => h9) rfl dX8_coldNow_6 ?_
      refine lv_iconst (v := 1) hx hb dX8_coldNow_9 (by decide) ?_
      refine va_iald hx hb hKK.1 hP 9 0 rfl rfl (by unfold vp_in; decide) dX8_coldNow_10 ?_
      refine lv_icmp_ge (tgt := 34) hx hb dX8_coldNow_11 (by decide) (fun hc_7 => ?_) (fun hc_7 => ?_)
      · have hv := hv.1 hc_7
        refine lv_iload_n hx hb dX8_coldNow_34 rfl (lv_at hl 1 rfl) ?_
        exact x_iret (v := x1_1) () hQ hx hb hr hlocks hS dX8_coldNow_35 hv hP hD
      · have hv := hv.2 hc_7
        refine lv_iload_n hx hb dX8_coldNow_14 rfl (lv_at hl 1 rfl) ?_
        refine lv_aload_n hx hb dX8_coldNow_15 rfl (lv_at hl 2 rfl) ?_
        refine lv_iconst (v := 0) hx hb dX8_coldNow_16 (by decide) ?_
        refine lv_iload_n hx hb dX8_coldNow_17 rfl (lv_at hl 0 rfl) ?_
        obtain ⟨gT_8, gNs_9, gNp_10, gX_11, gv_12, gip_13, hv⟩ := hv
        obtain ⟨hp, hv⟩ := hv
        refine x_calliR (x_runV (As := [.int 0, .int x2_2]) (rest := [.int x1_1]) (n := 2) (C := RX8) (ci := 8) ⟨hx, hb, hml, hown, hts⟩ (k_X8_isCold l G m0 m1 m2 m3 m4 m5 m6 m7 m8 m9 m10 m11 m12 m13 m14 _ mw ik zs cl hs ks wa ne mn tx th od bk bh fu fd fi nu nw nf bf bn ts ap fs ln fo fa wr 0 x2_2 gT_8 gNs_9 gNp_10 gX_11 gv_12 gip_13 hp) gX8_coldNow_X8_isCold rfl (by decide +kernel) ⟨Nat.le_trans (Nat.le_of_ble_eq_true rfl) hRf, Nat.le_trans (Nat.le_of_ble_eq_true rfl) hRl⟩ hKK hSS hS hA hP hD [0, 1, 2, 3, 4, 5, 6, 7, 8, 9, 10, 11, 12, 13, 14] (by decide) rfl rfl rfl 0 rfl rfl hl.1 rfl (Nat.le_of_ble_eq_true rfl) dX8_coldNow_18) hP hD hS hA [0, 1, 2, 3, 4, 5, 6, 7, 8, 9, 10, 11, 12, 13, 14] rfl (fun r_14 _ H locs hw hP hS => ?_)
        have hv := hv r_14 hw
        refine x_calliR (x_runS (As := [.int r_14]) (rest := [.int x1_1]) (n := 1) ⟨hx, hb, hml, hown, hts⟩ (k_X8_one l G  _ r_14) gX8_coldNow_X8_one rfl (by decide +kernel) ⟨Nat.le_trans (Nat.le_of_ble_eq_true rfl) hRf, Nat.le_trans (Nat.le_of_ble_eq_true rfl) hRl⟩ hKK hSS hS hA hP hD [] (by decide) rfl rfl hl.1 rfl (Nat.le_of_ble_eq_true rfl) dX8_coldNow_21) hP hD hS hA [] rfl (fun r_15 _ H locs hw hP hS => ?_)
        replace hw := hw.symm; subst hw
        refine lv_iload_n hx hb dX8_coldNow_24 rfl (lv_at hl 0 rfl) ?_
        refine lv_ishl hx hb dX8_coldNow_25 ?_
        refine lv_ior hx hb dX8_coldNow_26 ?_
        refine lv_topi (fun y_16 ey => ?_)
        have hv := hv y_16 ey
        refine lv_istore_n (lv' := [(1, .int y_16), (2, .int x2_2), (0, .ref m0)]) hx hb dX8_coldNow_27 rfl hl (by decide) rfl (fun ls hl => ?_)
        refine lv_iinc (v := (x2_2 + 1)) (lv' := [(2, .int (x2_2 + 1)), (1, .int y_16), (0, .ref m0)]) hx hb dX8_coldNow_28 hl (k := 1) rfl rfl (by decide) rfl (fun ls hl => ?_)
        refine lv_goto (tgt := 4) hx hb dX8_coldNow_31 (by decide) ?_
        exact ih_5 _ _ _ _ _ (Nat.lt_of_lt_of_le hv.2 (Nat.le_of_lt_succ hI_6)) hv.1 hP hD hS hl
  exact Lm_19 _ _ _ _ _ _ (Nat.lt_succ_self _) hi0 hP hD hS hl
theorem v_X8_coldNow (l : Launch) (G : Gt) (m0 m1 m2 m3 m4 m5 m6 m7 m8 m9 m10 m11 m12 m13 m14 : Nat) (sz : Nat) (mw : Nat → Int64) (ik : Nat → Int32) (zs : Nat → Int32) (cl : Nat → Int32) (hs : Nat → Int32) (ks : Nat → Int32) (wa : Nat → Int32) (ne : Nat → Int32) (mn : Nat → Int32) (tx : Nat → Int32) (th : Nat → Int32) (od : Nat → Int32) (bk : Nat → Int32) (bh : Nat → Int32) (fu : Int32) (fd : Int32) (fi : Int32) (nu : Int32) (nw : Int32) (nf : Int32) (bf : Int32) (bn : Int32) (ts : Int32) (ap : Int32) (fs : Int32) (ln : Int32) (fo : Int32) (fa : Int32) (wr : Int32) (T : Nat → Nat → Int) (Ns : Nat) (Np : Nat) (v : Nat → Int) (hp : TOK T Ns Np ∧ MT T Ns Np fu fd fi zs cl ks ne mn ∧ MR 0 mw v) : ∃ (I4_3 : Int32 → Int32 → Prop) (μ4_4 : Int32 → Int32 → Nat), I4_3 0 0 ∧ (∀ (x1_1 : Int32) (x2_2 : Int32), I4_3 x1_1 x2_2 → ((mn 1) ≤ x2_2 → x1_1 = nI (zCs T v Np)) ∧ (¬ ((mn 1) ≤ x2_2) → ∃ (gT_8 : Nat → Nat → Int) (gNs_9 : Nat) (gNp_10 : Nat) (gX_11 : Nat) (gv_12 : Nat → Int) (gip_13 : Nat), ((TOK gT_8 gNs_9 gNp_10 ∧ MT gT_8 gNs_9 gNp_10 fu fd fi zs cl ks ne mn ∧ (0 : Int32) = nI gX_11 ∧ gX_11 + 140 ≤ 560 ∧ MR gX_11 mw gv_12 ∧ x2_2 = nI gip_13 ∧ gip_13 < gNp_10) ∧ (∀ (r_14 : Int32), (r_14 = if gv_12 (10 + gip_13) < gT_8 3 gip_13 then 1 else 0) → (∀ (y_16 : Int32), (y_16 = (x1_1 ||| (((if r_14 = 0 then 0 else 1) : Int32) <<< (x2_2 &&& 31)))) → (I4_3 y_16 (x2_2 + 1) ∧ μ4_4 y_16 (x2_2 + 1) < μ4_4 x1_1 x2_2)))))) := by
  obtain ⟨hT, hC, hR⟩ := hp
  have t2 := hT.2.1
  have hnp := hC.2.1
  refine ⟨fun s z => ∃ i, i ≤ Np ∧ z = nI i ∧ s = nI (zCs T v i), fun _ z => 9 - z.toNatClampNeg, ⟨0, by omega, rfl, rfl⟩, ?_⟩
  rintro s z ⟨i, hi, rfl, rfl⟩
  have ei : (nI i).toNatClampNeg = i := nI_clamp (by omega)
  have ei1 : nI i + 1 = nI (i + 1) := nI_1 i
  have ej : (nI (i + 1)).toNatClampNeg = i + 1 := nI_clamp (by omega)
  simp only [ei, ei1, ej, hnp]
  refine ⟨fun h => ?_, fun h => ?_⟩
  · have e : Np = i := by have := (nI_leI (a := Np) (b := i) (by omega) (by omega)).mp h; omega
    subst e; rfl
  · have hlt : i < Np := by
      rcases Nat.lt_or_ge i Np with q | q
      · exact q
      · exact absurd ((nI_leI (by omega) (by omega)).mpr q) h
    refine ⟨T, Ns, Np, 0, v, i, ⟨hT, hC, rfl, by omega, hR, rfl, hlt⟩, fun r hr y ey => ⟨⟨i + 1, by omega, rfl, ?_⟩, by omega⟩⟩
    rw [ey, hr, zCs]
    by_cases q : v (10 + i) < T 3 i
    · rw [if_pos q, if_pos q]; exact bit_or i (by omega) _ (zCs_lt T _ i)
    · rw [if_neg q, if_neg q]; exact bit_or0 i (by omega) _ (zCs_lt T _ i)
theorem k_X8_coldNow (l : Launch) (G : Gt) (m0 m1 m2 m3 m4 m5 m6 m7 m8 m9 m10 m11 m12 m13 m14 : Nat) (sz : Nat) (mw : Nat → Int64) (ik : Nat → Int32) (zs : Nat → Int32) (cl : Nat → Int32) (hs : Nat → Int32) (ks : Nat → Int32) (wa : Nat → Int32) (ne : Nat → Int32) (mn : Nat → Int32) (tx : Nat → Int32) (th : Nat → Int32) (od : Nat → Int32) (bk : Nat → Int32) (bh : Nat → Int32) (fu : Int32) (fd : Int32) (fi : Int32) (nu : Int32) (nw : Int32) (nf : Int32) (bf : Int32) (bn : Int32) (ts : Int32) (ap : Int32) (fs : Int32) (ln : Int32) (fo : Int32) (fa : Int32) (wr : Int32) (T : Nat → Nat → Int) (Ns : Nat) (Np : Nat) (v : Nat → Int) (hp : TOK T Ns Np ∧ MT T Ns Np fu fd fi zs cl ks ne mn ∧ MR 0 mw v) : MetI l yX8_coldNow wsX8_coldNow 1 22 G [.ref m0] [(m0, .inr (8, [.ref m1, .ref m2, .ref m3, .ref m4, .ref m5, .ref m6, .ref m7, .ref m8, .ref m9, .int fu, .int fd, .int fi, .int nu, .int nw, .int nf, .int bf, .int bn, .ref m10, .int ts, .int ap, .int fs, .int ln, .int fo, .int fa, .ref m11, .ref m12, .ref m13, .ref m14, .int wr])), aJ G m1 560 mw, aZ G m2 2 ik, aI G m3 20 zs, aI G m4 20 cl, aI G m5 20 hs, aI G m6 20 ks, aI G m7 20 wa, aI G m8 20 ne, aI G m9 4 mn, aI G m10 400 tx, aI G m11 6 th, aI G m12 6 od, aI G m13 30 bk, aI G m14 30 bh] sz (fun (r : Int32) (_ : Unit) => r = nI (zCs T v Np)) (fun (_ : Unit) => [(m0, .inr (8, [.ref m1, .ref m2, .ref m3, .ref m4, .ref m5, .ref m6, .ref m7, .ref m8, .ref m9, .int fu, .int fd, .int fi, .int nu, .int nw, .int nf, .int bf, .int bn, .ref m10, .int ts, .int ap, .int fs, .int ln, .int fo, .int fa, .ref m11, .ref m12, .ref m13, .ref m14, .int wr])), aJ G m1 560 mw, aZ G m2 2 ik, aI G m3 20 zs, aI G m4 20 cl, aI G m5 20 hs, aI G m6 20 ks, aI G m7 20 wa, aI G m8 20 ne, aI G m9 4 mn, aI G m10 400 tx, aI G m11 6 th, aI G m12 6 od, aI G m13 30 bk, aI G m14 30 bh]) :=
  c_X8_coldNow l G m0 m1 m2 m3 m4 m5 m6 m7 m8 m9 m10 m11 m12 m13 m14 sz mw ik zs cl hs ks wa ne mn tx th od bk bh fu fd fi nu nw nf bf bn ts ap fs ln fo fa wr T Ns Np v (v_X8_coldNow l G m0 m1 m2 m3 m4 m5 m6 m7 m8 m9 m10 m11 m12 m13 m14 sz mw ik zs cl hs ks wa ne mn tx th od bk bh fu fd fi nu nw nf bf bn ts ap fs ln fo fa wr T Ns Np v hp)

set_option maxHeartbeats 4000000 in
set_option maxRecDepth 100000 in
theorem c_X8_go (l : Launch) (G : Gt) (m0 m1 m2 m3 m4 m5 m6 m7 m8 m9 m10 m11 m12 m13 m14 : Nat) (sz : Nat) (mw : Nat → Int64) (ik : Nat → Int32) (zs : Nat → Int32) (cl : Nat → Int32) (hs : Nat → Int32) (ks : Nat → Int32) (wa : Nat → Int32) (ne : Nat → Int32) (mn : Nat → Int32) (tx : Nat → Int32) (th : Nat → Int32) (od : Nat → Int32) (bk : Nat → Int32) (bh : Nat → Int32) (fu : Int32) (fd : Int32) (fi : Int32) (nu : Int32) (nw : Int32) (nf : Int32) (bf : Int32) (bn : Int32) (ts : Int32) (ap : Int32) (fs : Int32) (ln : Int32) (fo : Int32) (fa : Int32) (wr : Int32) (x : Int32) (T : Nat → Nat → Int) (Ns : Nat) (Np : Nat) (v : Nat → Int) (M : Int) (hv : (¬ x.toInt64 < 1 ∧ ¬ 999 < x.toInt64 → ∃ (I17_5 : (Nat → Int64) → Int32 → Prop) (μ17_6 : (Nat → Int64) → Int32 → Nat), I17_5 mw 0 ∧ (∀ (fm1_3 : (Nat → Int64)) (x2_4 : Int32), I17_5 fm1_3 x2_4 → (x ≤ x2_4 → ∃ (gT_10 : Nat → Nat → Int) (gNs_11 : Nat) (gNp_12 : Nat) (gv_13 : Nat → Int), ((TOK gT_10 gNs_11 gNp_12 ∧ MT gT_10 gNs_11 gNp_12 fu fd fi zs cl ks ne mn ∧ MR 0 fm1_3 gv_13) ∧ (∀ (r_14 : Int32), (r_14 = nI (zCs gT_10 gv_13 gNp_12)) → (r_14.toInt = (qGo T Ns Np v x.toInt).1 ∧ MR 0 fm1_3 (qGo T Ns Np v x.toInt).2 ∧ MF 0 mw fm1_3)))) ∧ (¬ (x ≤ x2_4) → ∃ (gT_15 : Nat → Nat → Int) (gNs_16 : Nat) (gNp_17 : Nat) (gX_18 : Nat) (gv_19 : Nat → Int) (gM_20 : Int), ((TOK gT_15 gNs_16 gNp_17 ∧ MT gT_15 gNs_16 gNp_17 fu fd fi zs cl ks ne mn ∧ (0 : Int32) = nI gX_18 ∧ gX_18 + 140 ≤ 560 ∧ MR gX_18 fm1_3 gv_19 ∧ NOK gT_15 gNs_16 gNp_17 (fun _ => 2 * gM_20) gM_20 gv_19 ∧ gM_20 ≤ 1000000) ∧ (∀ (r_21 : Int32) (mw2_22 : Nat → Int64), (r_21 = nI (zCs gT_15 (zPass gT_15 gNs_16 gNp_17 gv_19) gNp_17) ∧ MR gX_18 mw2_22 (zPass gT_15 gNs_16 gNp_17 gv_19) ∧ MF gX_18 fm1_3 mw2_22) → (I17_5 mw2_22 (x2_4 + 1) ∧ μ17_6 mw2_22 (x2_4 + 1) < μ17_6 fm1_3 x2_4)))))) ∧ (¬ (¬ x.toInt64 < 1 ∧ ¬ 999 < x.toInt64) → ((-1000000002) : Int32).toInt = (qGo T Ns Np v x.toInt).1 ∧ MR 0 mw (qGo T Ns Np v x.toInt).2 ∧ MF 0 mw mw)) : MetI l yX8_go wsX8_go 4 101 G [.ref m0, .int x] [(m0, .inr (8, [.ref m1, .ref m2, .ref m3, .ref m4, .ref m5, .ref m6, .ref m7, .ref m8, .ref m9, .int fu, .int fd, .int fi, .int nu, .int nw, .int nf, .int bf, .int bn, .ref m10, .int ts, .int ap, .int fs, .int ln, .int fo, .int fa, .ref m11, .ref m12, .ref m13, .ref m14, .int wr])), aJ G m1 560 mw, aZ G m2 2 ik, aI G m3 20 zs, aI G m4 20 cl, aI G m5 20 hs, aI G m6 20 ks, aI G m7 20 wa, aI G m8 20 ne, aI G m9 4 mn, aI G m10 400 tx, aI G m11 6 th, aI G m12 6 od, aI G m13 30 bk, aI G m14 30 bh] sz (fun (r : Int32) (u : (Nat → Int64)) => r.toInt = (qGo T Ns Np v x.toInt).1 ∧ MR 0 u (qGo T Ns Np v x.toInt).2 ∧ MF 0 mw u) (fun (u : (Nat → Int64)) => [(m0, .inr (8, [.ref m1, .ref m2, .ref m3, .ref m4, .ref m5, .ref m6, .ref m7, .ref m8, .ref m9, .int fu, .int fd, .int fi, .int nu, .int nw, .int nf, .int bf, .int bn, .ref m10, .int ts, .int ap, .int fs, .int ln, .int fo, .int fa, .ref m11, .ref m12, .ref m13, .ref m14, .int wr])), aJ G m1 560 u, aZ G m2 2 ik, aI G m3 20 zs, aI G m4 20 cl, aI G m5 20 hs, aI G m6 20 ks, aI G m7 20 wa, aI G m8 20 ne, aI G m9 4 mn, aI G m10 400 tx, aI G m11 6 th, aI G m12 6 od, aI G m13 30 bk, aI G m14 30 bh]) := by
  refine x_startI (cc := cX8_go) (maxL := 4) (ret := (some .int)) (by decide) rfl (Nat.le_of_ble_eq_true rfl) ?_
  intro p e s m args below meth c A R Q ls hRf hRl hQ C hP hD hS hA hSS hl
  obtain ⟨hx, hb, hr, hml, hown, hts, hlocks, hKK⟩ := C
  have hown : s.vm.findClass RX8 = some m.cls := hown
  have hl : lv_has ls 4 [(0, .ref m0), (1, .int x)] := hl
  have kl199 := hts (.constantLong RX8 199 (999)) (by decide +kernel)
  have kl73 := hts (.constant RX8 73 (-1000000002)) (by decide +kernel)
  refine lv_iload_n hx hb dX8_go_0 rfl (lv_at hl 1 rfl) ?_
  refine lv_i2l hx hb dX8_go_1 rfl ?_
  refine lv_lconst (v := 1) hx hb dX8_go_2 (by decide) ?_
  refine lv_ldc2 (v := 999) hx hb hown kl199 dX8_go_3 ?_
  refine x_calliR (x_runS (As := [.long x.toInt64, .long 1, .long 999]) (rest := []) (n := 3) ⟨hx, hb, hml, hown, hts⟩ (k_X8_in l G  _ x.toInt64 1 999) gX8_go_X8_in rfl (by decide +kernel) ⟨Nat.le_trans (Nat.le_of_ble_eq_true rfl) hRf, Nat.le_trans (Nat.le_of_ble_eq_true rfl) hRl⟩ hKK hSS hS hA hP hD [] (by decide) rfl rfl hl.1 rfl (Nat.le_of_ble_eq_true rfl) dX8_go_6) hP hD hS hA [] rfl (fun r_1 _ H locs hw hP hS => ?_)
  replace hw := hw.symm; subst hw
  refine lv_if_ne (tgt := 15) hx hb dX8_go_9 (by decide) (fun hc_2 => ?_) (fun hc_2 => ?_)
  · have hv := hv.1 (tv_eqn.mp hc_2)
    refine lv_iconst (v := 0) hx hb dX8_go_15 (by decide) ?_
    refine lv_istore_n (lv' := [(2, .int 0), (0, .ref m0), (1, .int x)]) hx hb dX8_go_16 rfl hl (by decide) rfl (fun ls hl => ?_)
    obtain ⟨I17_5, μ17_6, hi0, hs_23⟩ := hv
    have Lm_25 : ∀ (n_24 : Nat) (fm1_3 : (Nat → Int64)) (x2_4 : Int32) (H : Heap) (locs : List Loc) (ls : Array Slot), μ17_6 fm1_3 x2_4 < n_24 → I17_5 fm1_3 x2_4 → va_P G.1 vwCl [(m0, .inr (8, [.ref m1, .ref m2, .ref m3, .ref m4, .ref m5, .ref m6, .ref m7, .ref m8, .ref m9, .int fu, .int fd, .int fi, .int nu, .int nw, .int nf, .int bf, .int bn, .ref m10, .int ts, .int ap, .int fs, .int ln, .int fo, .int fa, .ref m11, .ref m12, .ref m13, .ref m14, .int wr])), aJ G m1 560 fm1_3, aZ G m2 2 ik, aI G m3 20 zs, aI G m4 20 cl, aI G m5 20 hs, aI G m6 20 ks, aI G m7 20 wa, aI G m8 20 ne, aI G m9 4 mn, aI G m10 400 tx, aI G m11 6 th, aI G m12 6 od, aI G m13 30 bk, aI G m14 30 bh] H → va_D A [(m0, .inr (8, [.ref m1, .ref m2, .ref m3, .ref m4, .ref m5, .ref m6, .ref m7, .ref m8, .ref m9, .int fu, .int fd, .int fi, .int nu, .int nw, .int nf, .int bf, .int bn, .ref m10, .int ts, .int ap, .int fs, .int ln, .int fo, .int fa, .ref m11, .ref m12, .ref m13, .ref m14, .int wr])), aJ G m1 560 fm1_3, aZ G m2 2 ik, aI G m3 20 zs, aI G m4 20 cl, aI G m5 20 hs, aI G m6 20 ks, aI G m7 20 wa, aI G m8 20 ne, aI G m9 4 mn, aI G m10 400 tx, aI G m11 6 th, aI G m12 6 od, aI G m13 30 bk, aI G m14 30 bh] → va_S A s.heap H locs → lv_has ls 4 [(2, .int x2_4), (0, .ref m0), (1, .int x)] → W p l e R s m args below meth c H locs 0 0 Q (F0 m 17 ls []) := by
      intro n_24
      induction n_24 with
      | zero => intro fm1_3 x2_4 H locs ls hm; exact absurd hm (Nat.not_lt_zero _)
      | succ n_24 ih_7 =>
        intro fm1_3 x2_4 H locs ls hI_8 hi hP hD hS hl
        have hv := hs_23 fm1_3 x2_4 hi
        refine lv_iload_n hx hb dX8_go_17 rfl (lv_at hl 0 rfl) ?_
        refine lv_iload_n hx hb dX8_go_18 rfl (lv_at hl 2 rfl) ?_
        refine lv_icmp_ge (tgt := 34) hx hb dX8_go_19 (by decide) (fun hc_9 => ?_) (fun hc_9 => ?_)
        · have hv := hv.1 hc_9
          refine lv_aload_n hx hb dX8_go_34 rfl (lv_at hl 1 rfl) ?_
          obtain ⟨gT_10, gNs_11, gNp_12, gv_13, hv⟩ := hv
          obtain ⟨hp, hv⟩ := hv
          refine x_calliR (x_runV (As := []) (rest := []) (n := 0) (C := RX8) (ci := 8) ⟨hx, hb, hml, hown, hts⟩ (k_X8_coldNow l G m0 m1 m2 m3 m4 m5 m6 m7 m8 m9 m10 m11 m12 m13 m14 _ fm1_3 ik zs cl hs ks wa ne mn tx th od bk bh fu fd fi nu nw nf bf bn ts ap fs ln fo fa wr gT_10 gNs_11 gNp_12 gv_13 hp) gX8_go_X8_coldNow rfl (by decide +kernel) ⟨Nat.le_trans (Nat.le_of_ble_eq_true rfl) hRf, Nat.le_trans (Nat.le_of_ble_eq_true rfl) hRl⟩ hKK hSS hS hA hP hD [0, 1, 2, 3, 4, 5, 6, 7, 8, 9, 10, 11, 12, 13, 14] (by decide) rfl rfl rfl 0 rfl rfl hl.1 rfl (Nat.le_of_ble_eq_true rfl) dX8_go_35) hP hD hS hA [0, 1, 2, 3, 4, 5, 6, 7, 8, 9, 10, 11, 12, 13, 14] rfl (fun r_14 _ H locs hw hP hS => ?_)
          have hv := hv r_14 hw
          exact x_iret (v := r_14) fm1_3 hQ hx hb hr hlocks hS dX8_go_38 hv hP hD
        · have hv := hv.2 hc_9
          refine lv_aload_n hx hb dX8_go_22 rfl (lv_at hl 1 rfl) ?_
          refine lv_iconst (v := 0) hx hb dX8_go_23 (by decide) ?_
          obtain ⟨gT_15, gNs_16, gNp_17, gX_18, gv_19, gM_20, hv⟩ := hv
          obtain ⟨hp, hv⟩ := hv
          refine x_calli (wr := []) (w' := fun (u : (Nat → Int64)) => [(m0, .inr (8, [.ref m1, .ref m2, .ref m3, .ref m4, .ref m5, .ref m6, .ref m7, .ref m8, .ref m9, .int fu, .int fd, .int fi, .int nu, .int nw, .int nf, .int bf, .int bn, .ref m10, .int ts, .int ap, .int fs, .int ln, .int fo, .int fa, .ref m11, .ref m12, .ref m13, .ref m14, .int wr])), aJ G m1 560 u, aZ G m2 2 ik, aI G m3 20 zs, aI G m4 20 cl, aI G m5 20 hs, aI G m6 20 ks, aI G m7 20 wa, aI G m8 20 ne, aI G m9 4 mn, aI G m10 400 tx, aI G m11 6 th, aI G m12 6 od, aI G m13 30 bk, aI G m14 30 bh]) (x_runV (As := [.int 0]) (rest := []) (n := 1) (C := RX8) (ci := 8) ⟨hx, hb, hml, hown, hts⟩ (k_X8_pass l G m0 m1 m2 m3 m4 m5 m6 m7 m8 m9 m10 m11 m12 m13 m14 _ fm1_3 ik zs cl hs ks wa ne mn tx th od bk bh fu fd fi nu nw nf bf bn ts ap fs ln fo fa wr 0 gT_15 gNs_16 gNp_17 gX_18 gv_19 gM_20 hp) gX8_go_X8_pass rfl (by decide +kernel) ⟨Nat.le_trans (Nat.le_of_ble_eq_true rfl) hRf, Nat.le_trans (Nat.le_of_ble_eq_true rfl) hRl⟩ hKK hSS hS hA hP hD [0, 1, 2, 3, 4, 5, 6, 7, 8, 9, 10, 11, 12, 13, 14] (by decide) rfl rfl rfl 0 rfl rfl hl.1 rfl (Nat.le_of_ble_eq_true rfl) dX8_go_24) hP hD hS hA [0, 1, 2, 3, 4, 5, 6, 7, 8, 9, 10, 11, 12, 13, 14] [] [0, 1, 2, 3, 4, 5, 6, 7, 8, 9, 10, 11, 12, 13, 14] rfl rfl (by decide) (by decide) (by decide) (fun _ => rfl) (fun r_21 u H locs hw hP hD hS => ?_)
          obtain ⟨mw2_22, rfl⟩ : ∃ z9_, z9_ = u := ⟨_, rfl⟩
          have hP : va_P G.1 vwCl [(m0, .inr (8, [.ref m1, .ref m2, .ref m3, .ref m4, .ref m5, .ref m6, .ref m7, .ref m8, .ref m9, .int fu, .int fd, .int fi, .int nu, .int nw, .int nf, .int bf, .int bn, .ref m10, .int ts, .int ap, .int fs, .int ln, .int fo, .int fa, .ref m11, .ref m12, .ref m13, .ref m14, .int wr])), aJ G m1 560 mw2_22, aZ G m2 2 ik, aI G m3 20 zs, aI G m4 20 cl, aI G m5 20 hs, aI G m6 20 ks, aI G m7 20 wa, aI G m8 20 ne, aI G m9 4 mn, aI G m10 400 tx, aI G m11 6 th, aI G m12 6 od, aI G m13 30 bk, aI G m14 30 bh] H := hP
          have hD : va_D A [(m0, .inr (8, [.ref m1, .ref m2, .ref m3, .ref m4, .ref m5, .ref m6, .ref m7, .ref m8, .ref m9, .int fu, .int fd, .int fi, .int nu, .int nw, .int nf, .int bf, .int bn, .ref m10, .int ts, .int ap, .int fs, .int ln, .int fo, .int fa, .ref m11, .ref m12, .ref m13, .ref m14, .int wr])), aJ G m1 560 mw2_22, aZ G m2 2 ik, aI G m3 20 zs, aI G m4 20 cl, aI G m5 20 hs, aI G m6 20 ks, aI G m7 20 wa, aI G m8 20 ne, aI G m9 4 mn, aI G m10 400 tx, aI G m11 6 th, aI G m12 6 od, aI G m13 30 bk, aI G m14 30 bh] := hD
          have hv := hv r_21 mw2_22 hw
          refine lv_istore_n (lv' := [(3, .int r_21), (2, .int x2_4), (0, .ref m0), (1, .int x)]) hx hb dX8_go_27 rfl hl (by decide) rfl (fun ls hl => ?_)
          refine lv_iinc (v := (x2_4 + 1)) (lv' := [(2, .int (x2_4 + 1)), (3, .int r_21), (0, .ref m0), (1, .int x)]) hx hb dX8_go_28 hl (k := 1) rfl rfl (by decide) rfl (fun ls hl => ?_)
          refine lv_goto (tgt := 17) hx hb dX8_go_31 (by decide) ?_
          exact ih_7 _ _ _ _ _ (Nat.lt_of_lt_of_le hv.2 (Nat.le_of_lt_succ hI_8)) hv.1 hP hD hS (lv_sub hl [0, 2, 3] rfl)
    exact Lm_25 _ _ _ _ _ _ (Nat.lt_succ_self _) hi0 hP hD hS hl
  · have hv := hv.2 (tv_eq.mp hc_2)
    refine lv_ldc (v := (-1000000002)) hx hb hown kl73 dX8_go_12 ?_
    exact x_iret (v := (-1000000002)) mw hQ hx hb hr hlocks hS dX8_go_14 hv hP hD
theorem v_X8_go (l : Launch) (G : Gt) (m0 m1 m2 m3 m4 m5 m6 m7 m8 m9 m10 m11 m12 m13 m14 : Nat) (sz : Nat) (mw : Nat → Int64) (ik : Nat → Int32) (zs : Nat → Int32) (cl : Nat → Int32) (hs : Nat → Int32) (ks : Nat → Int32) (wa : Nat → Int32) (ne : Nat → Int32) (mn : Nat → Int32) (tx : Nat → Int32) (th : Nat → Int32) (od : Nat → Int32) (bk : Nat → Int32) (bh : Nat → Int32) (fu : Int32) (fd : Int32) (fi : Int32) (nu : Int32) (nw : Int32) (nf : Int32) (bf : Int32) (bn : Int32) (ts : Int32) (ap : Int32) (fs : Int32) (ln : Int32) (fo : Int32) (fa : Int32) (wr : Int32) (x : Int32) (T : Nat → Nat → Int) (Ns : Nat) (Np : Nat) (v : Nat → Int) (M : Int) (hp : TOK T Ns Np ∧ MT T Ns Np fu fd fi zs cl ks ne mn ∧ MR 0 mw v ∧ NOK T Ns Np (fun _ => 2 * M) M v ∧ M ≤ 900000) : (¬ x.toInt64 < 1 ∧ ¬ 999 < x.toInt64 → ∃ (I17_5 : (Nat → Int64) → Int32 → Prop) (μ17_6 : (Nat → Int64) → Int32 → Nat), I17_5 mw 0 ∧ (∀ (fm1_3 : (Nat → Int64)) (x2_4 : Int32), I17_5 fm1_3 x2_4 → (x ≤ x2_4 → ∃ (gT_10 : Nat → Nat → Int) (gNs_11 : Nat) (gNp_12 : Nat) (gv_13 : Nat → Int), ((TOK gT_10 gNs_11 gNp_12 ∧ MT gT_10 gNs_11 gNp_12 fu fd fi zs cl ks ne mn ∧ MR 0 fm1_3 gv_13) ∧ (∀ (r_14 : Int32), (r_14 = nI (zCs gT_10 gv_13 gNp_12)) → (r_14.toInt = (qGo T Ns Np v x.toInt).1 ∧ MR 0 fm1_3 (qGo T Ns Np v x.toInt).2 ∧ MF 0 mw fm1_3)))) ∧ (¬ (x ≤ x2_4) → ∃ (gT_15 : Nat → Nat → Int) (gNs_16 : Nat) (gNp_17 : Nat) (gX_18 : Nat) (gv_19 : Nat → Int) (gM_20 : Int), ((TOK gT_15 gNs_16 gNp_17 ∧ MT gT_15 gNs_16 gNp_17 fu fd fi zs cl ks ne mn ∧ (0 : Int32) = nI gX_18 ∧ gX_18 + 140 ≤ 560 ∧ MR gX_18 fm1_3 gv_19 ∧ NOK gT_15 gNs_16 gNp_17 (fun _ => 2 * gM_20) gM_20 gv_19 ∧ gM_20 ≤ 1000000) ∧ (∀ (r_21 : Int32) (mw2_22 : Nat → Int64), (r_21 = nI (zCs gT_15 (zPass gT_15 gNs_16 gNp_17 gv_19) gNp_17) ∧ MR gX_18 mw2_22 (zPass gT_15 gNs_16 gNp_17 gv_19) ∧ MF gX_18 fm1_3 mw2_22) → (I17_5 mw2_22 (x2_4 + 1) ∧ μ17_6 mw2_22 (x2_4 + 1) < μ17_6 fm1_3 x2_4)))))) ∧ (¬ (¬ x.toInt64 < 1 ∧ ¬ 999 < x.toInt64) → ((-1000000002) : Int32).toInt = (qGo T Ns Np v x.toInt).1 ∧ MR 0 mw (qGo T Ns Np v x.toInt).2 ∧ MF 0 mw mw) := by
  obtain ⟨hT, hC, hR, hO, hM⟩ := hp
  have ex : x.toInt64.toInt = x.toInt := i_l rfl
  have hc : (¬ x.toInt64 < 1 ∧ ¬ 999 < x.toInt64) ↔ (1 ≤ x.toInt ∧ x.toInt ≤ 999) := by
    rw [l_lt ex (show (1 : Int64).toInt = 1 from rfl), l_lt (show (999 : Int64).toInt = 999 from rfl) ex]
    omega
  simp only [hc]
  refine ⟨fun hq => ?_, fun h => by rw [qGo, if_neg h]; exact ⟨rfl, hR, MF.rf 0 mw⟩⟩
  rw [qGo, if_pos hq]
  obtain ⟨n, hn, rfl, hxn, hxt⟩ := in_nat (x := x) (n := 1000) (by omega) (by omega)
  rw [hxt]
  refine ⟨fun w z => ∃ i, i ≤ n ∧ z = nI i ∧ MR 0 w (zGo T Ns Np v i) ∧ MF 0 mw w, fun _ z => n - z.toNatClampNeg, ⟨0, by omega, rfl, hR, MF.rf 0 mw⟩, ?_⟩
  rintro w z ⟨i, hi, rfl, hRi, hFi⟩
  have ei : (nI i).toNatClampNeg = i := nI_clamp (by omega)
  have ei1 : nI i + 1 = nI (i + 1) := nI_1 i
  have ej : (nI (i + 1)).toNatClampNeg = i + 1 := nI_clamp (by omega)
  simp only [ei, ei1, ej]
  refine ⟨fun h => ?_, fun h => ?_⟩
  · have e : n = i := by have := (nI_leI (a := n) (b := i) (by omega) (by omega)).mp h; omega
    subst e
    refine ⟨T, Ns, Np, _, ⟨hT, hC, hRi⟩, fun r hr => ⟨?_, hRi, hFi⟩⟩
    rw [hr, nI_toInt]
    have := zCs_lt T (zGo T Ns Np v n) Np
    have t2 := hT.2.1
    exact Nat.lt_trans this (Nat.pow_lt_pow_right (by omega) (by omega))
  · have hlt : i < n := by
      rcases Nat.lt_or_ge i n with q | q
      · exact q
      · exact absurd ((nI_leI (by omega) (by omega)).mpr q) h
    refine ⟨T, Ns, Np, 0, _, M + i, ⟨hT, hC, rfl, by omega, hRi, zGo_ok hT hO i, by omega⟩, fun r w2 hw => ⟨⟨i + 1, by omega, rfl, hw.2.1, hFi.tr hw.2.2⟩, by omega⟩⟩
theorem k_X8_go (l : Launch) (G : Gt) (m0 m1 m2 m3 m4 m5 m6 m7 m8 m9 m10 m11 m12 m13 m14 : Nat) (sz : Nat) (mw : Nat → Int64) (ik : Nat → Int32) (zs : Nat → Int32) (cl : Nat → Int32) (hs : Nat → Int32) (ks : Nat → Int32) (wa : Nat → Int32) (ne : Nat → Int32) (mn : Nat → Int32) (tx : Nat → Int32) (th : Nat → Int32) (od : Nat → Int32) (bk : Nat → Int32) (bh : Nat → Int32) (fu : Int32) (fd : Int32) (fi : Int32) (nu : Int32) (nw : Int32) (nf : Int32) (bf : Int32) (bn : Int32) (ts : Int32) (ap : Int32) (fs : Int32) (ln : Int32) (fo : Int32) (fa : Int32) (wr : Int32) (x : Int32) (T : Nat → Nat → Int) (Ns : Nat) (Np : Nat) (v : Nat → Int) (M : Int) (hp : TOK T Ns Np ∧ MT T Ns Np fu fd fi zs cl ks ne mn ∧ MR 0 mw v ∧ NOK T Ns Np (fun _ => 2 * M) M v ∧ M ≤ 900000) : MetI l yX8_go wsX8_go 4 101 G [.ref m0, .int x] [(m0, .inr (8, [.ref m1, .ref m2, .ref m3, .ref m4, .ref m5, .ref m6, .ref m7, .ref m8, .ref m9, .int fu, .int fd, .int fi, .int nu, .int nw, .int nf, .int bf, .int bn, .ref m10, .int ts, .int ap, .int fs, .int ln, .int fo, .int fa, .ref m11, .ref m12, .ref m13, .ref m14, .int wr])), aJ G m1 560 mw, aZ G m2 2 ik, aI G m3 20 zs, aI G m4 20 cl, aI G m5 20 hs, aI G m6 20 ks, aI G m7 20 wa, aI G m8 20 ne, aI G m9 4 mn, aI G m10 400 tx, aI G m11 6 th, aI G m12 6 od, aI G m13 30 bk, aI G m14 30 bh] sz (fun (r : Int32) (u : (Nat → Int64)) => r.toInt = (qGo T Ns Np v x.toInt).1 ∧ MR 0 u (qGo T Ns Np v x.toInt).2 ∧ MF 0 mw u) (fun (u : (Nat → Int64)) => [(m0, .inr (8, [.ref m1, .ref m2, .ref m3, .ref m4, .ref m5, .ref m6, .ref m7, .ref m8, .ref m9, .int fu, .int fd, .int fi, .int nu, .int nw, .int nf, .int bf, .int bn, .ref m10, .int ts, .int ap, .int fs, .int ln, .int fo, .int fa, .ref m11, .ref m12, .ref m13, .ref m14, .int wr])), aJ G m1 560 u, aZ G m2 2 ik, aI G m3 20 zs, aI G m4 20 cl, aI G m5 20 hs, aI G m6 20 ks, aI G m7 20 wa, aI G m8 20 ne, aI G m9 4 mn, aI G m10 400 tx, aI G m11 6 th, aI G m12 6 od, aI G m13 30 bk, aI G m14 30 bh]) :=
  c_X8_go l G m0 m1 m2 m3 m4 m5 m6 m7 m8 m9 m10 m11 m12 m13 m14 sz mw ik zs cl hs ks wa ne mn tx th od bk bh fu fd fi nu nw nf bf bn ts ap fs ln fo fa wr x T Ns Np v M (v_X8_go l G m0 m1 m2 m3 m4 m5 m6 m7 m8 m9 m10 m11 m12 m13 m14 sz mw ik zs cl hs ks wa ne mn tx th od bk bh fu fd fi nu nw nf bf bn ts ap fs ln fo fa wr x T Ns Np v M hp)

set_option maxHeartbeats 4000000 in
set_option maxRecDepth 100000 in
theorem c_X8_draw (l : Launch) (G : Gt) (m0 m1 m2 m3 m4 m5 m6 m7 m8 m9 m10 m11 m12 m13 m14 : Nat) (sz : Nat) (mw : Nat → Int64) (ik : Nat → Int32) (zs : Nat → Int32) (cl : Nat → Int32) (hs : Nat → Int32) (ks : Nat → Int32) (wa : Nat → Int32) (ne : Nat → Int32) (mn : Nat → Int32) (tx : Nat → Int32) (th : Nat → Int32) (od : Nat → Int32) (bk : Nat → Int32) (bh : Nat → Int32) (fu : Int32) (fd : Int32) (fi : Int32) (nu : Int32) (nw : Int32) (nf : Int32) (bf : Int32) (bn : Int32) (ts : Int32) (ap : Int32) (fs : Int32) (ln : Int32) (fo : Int32) (fa : Int32) (wr : Int32) (x : Int32) (v : Nat → Int) (kn : Nat) (hv : ∀ (fm1_1 : (Nat → Int64)), (fm1_1 = (vp_updL mw 133 ((((mw 133) * 1103515245) + 12345) - (((mw 133) * 1103515245) + 12345) / 2147483648 * 2147483648))) → ((¬ x.toInt64 = 0) ∧ (((((fm1_1 133) / 65536) - ((fm1_1 133) / 65536) / x.toInt64 * x.toInt64).toInt32).toInt = zDv (zDr (v 133)) kn ∧ MR 0 fm1_1 (uz v 133 (zDr (v 133))) ∧ MF 0 mw fm1_1))) : MetI l yX8_draw wsX8_draw 0 0 G [.ref m0, .int x] [(m0, .inr (8, [.ref m1, .ref m2, .ref m3, .ref m4, .ref m5, .ref m6, .ref m7, .ref m8, .ref m9, .int fu, .int fd, .int fi, .int nu, .int nw, .int nf, .int bf, .int bn, .ref m10, .int ts, .int ap, .int fs, .int ln, .int fo, .int fa, .ref m11, .ref m12, .ref m13, .ref m14, .int wr])), aJ G m1 560 mw, aZ G m2 2 ik, aI G m3 20 zs, aI G m4 20 cl, aI G m5 20 hs, aI G m6 20 ks, aI G m7 20 wa, aI G m8 20 ne, aI G m9 4 mn, aI G m10 400 tx, aI G m11 6 th, aI G m12 6 od, aI G m13 30 bk, aI G m14 30 bh] sz (fun (r : Int32) (u : (Nat → Int64)) => r.toInt = zDv (zDr (v 133)) kn ∧ MR 0 u (uz v 133 (zDr (v 133))) ∧ MF 0 mw u) (fun (u : (Nat → Int64)) => [(m0, .inr (8, [.ref m1, .ref m2, .ref m3, .ref m4, .ref m5, .ref m6, .ref m7, .ref m8, .ref m9, .int fu, .int fd, .int fi, .int nu, .int nw, .int nf, .int bf, .int bn, .ref m10, .int ts, .int ap, .int fs, .int ln, .int fo, .int fa, .ref m11, .ref m12, .ref m13, .ref m14, .int wr])), aJ G m1 560 u, aZ G m2 2 ik, aI G m3 20 zs, aI G m4 20 cl, aI G m5 20 hs, aI G m6 20 ks, aI G m7 20 wa, aI G m8 20 ne, aI G m9 4 mn, aI G m10 400 tx, aI G m11 6 th, aI G m12 6 od, aI G m13 30 bk, aI G m14 30 bh]) := by
  refine x_startI (cc := cX8_draw) (maxL := 2) (ret := (some .int)) (by decide) rfl (Nat.le_of_ble_eq_true rfl) ?_
  intro p e s m args below meth c A R Q ls hRf hRl hQ C hP hD hS hA hSS hl
  obtain ⟨hx, hb, hr, hml, hown, hts, hlocks, hKK⟩ := C
  have hown : s.vm.findClass RX8 = some m.cls := hown
  have hl : lv_has ls 2 [(0, .ref m0), (1, .int x)] := hl
  have hinX8 : ∀ w ∈ u_ws RX8 TX8 29, w ∈ wsX8_draw := by decide +kernel
  have kl208 := hts (.constantLong RX8 208 (1103515245)) (by decide +kernel)
  have kl210 := hts (.constantLong RX8 210 (12345)) (by decide +kernel)
  have kl212 := hts (.constantLong RX8 212 (2147483648)) (by decide +kernel)
  have kl214 := hts (.constantLong RX8 214 (65536)) (by decide +kernel)
  have kl7 := hts (.fieldLink RX8 7 "WarmStonesModel" "w" "[J") (by decide +kernel)
  refine lv_aload_n hx hb dX8_draw_0 rfl (lv_at hl 0 rfl) ?_
  refine va_get (D := G.1) (ci := 8) (v := .ref m1) (C := RX8) (T := TX8) (N := 29) hx hb hts hinX8 hown hKK.1 hP 0 rfl rfl 0 (by decide) kl7 (fun _ h9 => h9) rfl dX8_draw_1 ?_
  refine lv_sipush (v := 133) hx hb dX8_draw_4 (by decide) ?_
  refine lv_aload_n hx hb dX8_draw_7 rfl (lv_at hl 0 rfl) ?_
  refine va_get (D := G.1) (ci := 8) (v := .ref m1) (C := RX8) (T := TX8) (N := 29) hx hb hts hinX8 hown hKK.1 hP 0 rfl rfl 0 (by decide) kl7 (fun _ h9 => h9) rfl dX8_draw_8 ?_
  refine lv_sipush (v := 133) hx hb dX8_draw_11 (by decide) ?_
  refine va_lald hx hb hKK.1 hP 1 2 rfl rfl (by unfold vp_in; decide) dX8_draw_14 ?_
  refine lv_ldc2 (v := 1103515245) hx hb hown kl208 dX8_draw_15 ?_
  refine lv_lmul hx hb dX8_draw_18 ?_
  refine lv_ldc2 (v := 12345) hx hb hown kl210 dX8_draw_19 ?_
  refine lv_ladd hx hb dX8_draw_22 ?_
  refine lv_ldc2 (v := 2147483648) hx hb hown kl212 dX8_draw_23 ?_
  refine lv_lrem hx hb dX8_draw_26 (by decide) ?_
  refine va_last hx hb hKK.1 hP hD hS 1 2 rfl rfl (by unfold vp_in; decide) dX8_draw_27 (fun H locs hP hD hS => ?_)
  obtain ⟨fm1_1, ef⟩ : ∃ z9_, z9_ = (vp_updL mw 133 ((((mw 133) * 1103515245) + 12345) - (((mw 133) * 1103515245) + 12345) / 2147483648 * 2147483648)) := ⟨_, rfl⟩
  have hP : va_P G.1 vwCl [(m0, .inr (8, [.ref m1, .ref m2, .ref m3, .ref m4, .ref m5, .ref m6, .ref m7, .ref m8, .ref m9, .int fu, .int fd, .int fi, .int nu, .int nw, .int nf, .int bf, .int bn, .ref m10, .int ts, .int ap, .int fs, .int ln, .int fo, .int fa, .ref m11, .ref m12, .ref m13, .ref m14, .int wr])), aJ G m1 560 fm1_1, aZ G m2 2 ik, aI G m3 20 zs, aI G m4 20 cl, aI G m5 20 hs, aI G m6 20 ks, aI G m7 20 wa, aI G m8 20 ne, aI G m9 4 mn, aI G m10 400 tx, aI G m11 6 th, aI G m12 6 od, aI G m13 30 bk, aI G m14 30 bh] H := by rw [ef]; exact hP
  have hD : va_D A [(m0, .inr (8, [.ref m1, .ref m2, .ref m3, .ref m4, .ref m5, .ref m6, .ref m7, .ref m8, .ref m9, .int fu, .int fd, .int fi, .int nu, .int nw, .int nf, .int bf, .int bn, .ref m10, .int ts, .int ap, .int fs, .int ln, .int fo, .int fa, .ref m11, .ref m12, .ref m13, .ref m14, .int wr])), aJ G m1 560 fm1_1, aZ G m2 2 ik, aI G m3 20 zs, aI G m4 20 cl, aI G m5 20 hs, aI G m6 20 ks, aI G m7 20 wa, aI G m8 20 ne, aI G m9 4 mn, aI G m10 400 tx, aI G m11 6 th, aI G m12 6 od, aI G m13 30 bk, aI G m14 30 bh] := by rw [ef]; exact hD
  have hv := hv fm1_1 ef
  refine lv_aload_n hx hb dX8_draw_28 rfl (lv_at hl 0 rfl) ?_
  refine va_get (D := G.1) (ci := 8) (v := .ref m1) (C := RX8) (T := TX8) (N := 29) hx hb hts hinX8 hown hKK.1 hP 0 rfl rfl 0 (by decide) kl7 (fun _ h9 => h9) rfl dX8_draw_29 ?_
  refine lv_sipush (v := 133) hx hb dX8_draw_32 (by decide) ?_
  refine va_lald hx hb hKK.1 hP 1 2 rfl rfl (by unfold vp_in; decide) dX8_draw_35 ?_
  refine lv_ldc2 (v := 65536) hx hb hown kl214 dX8_draw_36 ?_
  refine lv_ldiv hx hb dX8_draw_39 (by decide) ?_
  refine lv_iload_n hx hb dX8_draw_40 rfl (lv_at hl 1 rfl) ?_
  refine lv_i2l hx hb dX8_draw_41 rfl ?_
  obtain ⟨hne, hv⟩ := hv
  refine lv_lrem hx hb dX8_draw_42 hne ?_
  refine lv_l2i hx hb dX8_draw_43 rfl ?_
  exact x_iret (v := (((fm1_1 133) / 65536) - ((fm1_1 133) / 65536) / x.toInt64 * x.toInt64).toInt32) fm1_1 hQ hx hb hr hlocks hS dX8_draw_44 hv hP hD
theorem v_X8_draw (l : Launch) (G : Gt) (m0 m1 m2 m3 m4 m5 m6 m7 m8 m9 m10 m11 m12 m13 m14 : Nat) (sz : Nat) (mw : Nat → Int64) (ik : Nat → Int32) (zs : Nat → Int32) (cl : Nat → Int32) (hs : Nat → Int32) (ks : Nat → Int32) (wa : Nat → Int32) (ne : Nat → Int32) (mn : Nat → Int32) (tx : Nat → Int32) (th : Nat → Int32) (od : Nat → Int32) (bk : Nat → Int32) (bh : Nat → Int32) (fu : Int32) (fd : Int32) (fi : Int32) (nu : Int32) (nw : Int32) (nf : Int32) (bf : Int32) (bn : Int32) (ts : Int32) (ap : Int32) (fs : Int32) (ln : Int32) (fo : Int32) (fa : Int32) (wr : Int32) (x : Int32) (v : Nat → Int) (kn : Nat) (hp : MR 0 mw v ∧ 0 ≤ v 133 ∧ v 133 < 2147483648 ∧ x = nI kn ∧ 1 ≤ kn ∧ kn ≤ 10) : ∀ (fm1_1 : (Nat → Int64)), (fm1_1 = (vp_updL mw 133 ((((mw 133) * 1103515245) + 12345) - (((mw 133) * 1103515245) + 12345) / 2147483648 * 2147483648))) → ((¬ x.toInt64 = 0) ∧ (((((fm1_1 133) / 65536) - ((fm1_1 133) / 65536) / x.toInt64 * x.toInt64).toInt32).toInt = zDv (zDr (v 133)) kn ∧ MR 0 fm1_1 (uz v 133 (zDr (v 133))) ∧ MF 0 mw fm1_1)) := by
  obtain ⟨hR, h0, h1, rfl, k1, k2⟩ := hp
  intro w ew
  have e0 := hR.z (i := 133) (by omega)
  have e1 : (mw 133 * 1103515245 + 12345).toInt = v 133 * 1103515245 + 12345 := l_add (l_mul e0 (show (1103515245 : Int64).toInt = 1103515245 from rfl) (by omega) (by omega)) (show (12345 : Int64).toInt = 12345 from rfl) (by omega) (by omega)
  have e2 := l_rem e1 (show (2147483648 : Int64).toInt = 2147483648 from rfl) (by omega) (by omega)
  have hd := zDr_in (v 133)
  have hR1 : MR 0 w (uz v 133 (zDr (v 133))) := by rw [ew]; exact hR.u0 e2
  have ew2 : (w 133).toInt = zDr (v 133) := by rw [hR1.z (by omega), uz_eq]
  have ek : (nI kn).toInt64.toInt = (kn : Int) := i_l (nI_toInt (by omega))
  refine ⟨fun z => by have := (l_eq ek (show (0 : Int64).toInt = 0 from rfl)).mp z; omega, ?_, hR1, by rw [ew]; exact (MF.rf 0 mw).u0 (by omega)⟩
  have e3 : (w 133 / 65536).toInt = zDr (v 133) / 65536 := by
    rw [l_div ew2 (show (65536 : Int64).toInt = 65536 from rfl) (by omega)]
    exact if_pos hd.1
  have e4 := l_rem e3 ek (by omega) (by omega)
  have b1 := Int.emod_nonneg (zDr (v 133) / 65536) (show (kn : Int) ≠ 0 by omega)
  have b2 := Int.emod_lt_of_pos (zDr (v 133) / 65536) (show (0 : Int) < kn by omega)
  unfold zDv
  exact l_iZ e4 (by omega) (by omega)
theorem k_X8_draw (l : Launch) (G : Gt) (m0 m1 m2 m3 m4 m5 m6 m7 m8 m9 m10 m11 m12 m13 m14 : Nat) (sz : Nat) (mw : Nat → Int64) (ik : Nat → Int32) (zs : Nat → Int32) (cl : Nat → Int32) (hs : Nat → Int32) (ks : Nat → Int32) (wa : Nat → Int32) (ne : Nat → Int32) (mn : Nat → Int32) (tx : Nat → Int32) (th : Nat → Int32) (od : Nat → Int32) (bk : Nat → Int32) (bh : Nat → Int32) (fu : Int32) (fd : Int32) (fi : Int32) (nu : Int32) (nw : Int32) (nf : Int32) (bf : Int32) (bn : Int32) (ts : Int32) (ap : Int32) (fs : Int32) (ln : Int32) (fo : Int32) (fa : Int32) (wr : Int32) (x : Int32) (v : Nat → Int) (kn : Nat) (hp : MR 0 mw v ∧ 0 ≤ v 133 ∧ v 133 < 2147483648 ∧ x = nI kn ∧ 1 ≤ kn ∧ kn ≤ 10) : MetI l yX8_draw wsX8_draw 0 0 G [.ref m0, .int x] [(m0, .inr (8, [.ref m1, .ref m2, .ref m3, .ref m4, .ref m5, .ref m6, .ref m7, .ref m8, .ref m9, .int fu, .int fd, .int fi, .int nu, .int nw, .int nf, .int bf, .int bn, .ref m10, .int ts, .int ap, .int fs, .int ln, .int fo, .int fa, .ref m11, .ref m12, .ref m13, .ref m14, .int wr])), aJ G m1 560 mw, aZ G m2 2 ik, aI G m3 20 zs, aI G m4 20 cl, aI G m5 20 hs, aI G m6 20 ks, aI G m7 20 wa, aI G m8 20 ne, aI G m9 4 mn, aI G m10 400 tx, aI G m11 6 th, aI G m12 6 od, aI G m13 30 bk, aI G m14 30 bh] sz (fun (r : Int32) (u : (Nat → Int64)) => r.toInt = zDv (zDr (v 133)) kn ∧ MR 0 u (uz v 133 (zDr (v 133))) ∧ MF 0 mw u) (fun (u : (Nat → Int64)) => [(m0, .inr (8, [.ref m1, .ref m2, .ref m3, .ref m4, .ref m5, .ref m6, .ref m7, .ref m8, .ref m9, .int fu, .int fd, .int fi, .int nu, .int nw, .int nf, .int bf, .int bn, .ref m10, .int ts, .int ap, .int fs, .int ln, .int fo, .int fa, .ref m11, .ref m12, .ref m13, .ref m14, .int wr])), aJ G m1 560 u, aZ G m2 2 ik, aI G m3 20 zs, aI G m4 20 cl, aI G m5 20 hs, aI G m6 20 ks, aI G m7 20 wa, aI G m8 20 ne, aI G m9 4 mn, aI G m10 400 tx, aI G m11 6 th, aI G m12 6 od, aI G m13 30 bk, aI G m14 30 bh]) :=
  c_X8_draw l G m0 m1 m2 m3 m4 m5 m6 m7 m8 m9 m10 m11 m12 m13 m14 sz mw ik zs cl hs ks wa ne mn tx th od bk bh fu fd fi nu nw nf bf bn ts ap fs ln fo fa wr x v kn (v_X8_draw l G m0 m1 m2 m3 m4 m5 m6 m7 m8 m9 m10 m11 m12 m13 m14 sz mw ik zs cl hs ks wa ne mn tx th od bk bh fu fd fi nu nw nf bf bn ts ap fs ln fo fa wr x v kn hp)

set_option maxHeartbeats 4000000 in
set_option maxRecDepth 100000 in
theorem c_X8_wander (l : Launch) (G : Gt) (m0 m1 m2 m3 m4 m5 m6 m7 m8 m9 m10 m11 m12 m13 m14 : Nat) (sz : Nat) (mw : Nat → Int64) (ik : Nat → Int32) (zs : Nat → Int32) (cl : Nat → Int32) (hs : Nat → Int32) (ks : Nat → Int32) (wa : Nat → Int32) (ne : Nat → Int32) (mn : Nat → Int32) (tx : Nat → Int32) (th : Nat → Int32) (od : Nat → Int32) (bk : Nat → Int32) (bh : Nat → Int32) (fu : Int32) (fd : Int32) (fi : Int32) (nu : Int32) (nw : Int32) (nf : Int32) (bf : Int32) (bn : Int32) (ts : Int32) (ap : Int32) (fs : Int32) (ln : Int32) (fo : Int32) (fa : Int32) (wr : Int32) (x : Int32) (T : Nat → Nat → Int) (Ns : Nat) (Np : Nat) (v : Nat → Int) (ip : Nat) (hv : ∃ (gv_1 : Nat → Int) (gkn_2 : Nat), ((MR 0 mw gv_1 ∧ 0 ≤ gv_1 133 ∧ gv_1 133 < 2147483648 ∧ (4 : Int32) = nI gkn_2 ∧ 1 ≤ gkn_2 ∧ gkn_2 ≤ 10) ∧ (∀ (r_3 : Int32) (mw2_4 : Nat → Int64), (r_3.toInt = zDv (zDr (gv_1 133)) gkn_2 ∧ MR 0 mw2_4 (uz gv_1 133 (zDr (gv_1 133))) ∧ MF 0 mw mw2_4) → ((¬ r_3 = 0 → MR 0 mw2_4 (zWan Ns Np ip v) ∧ MF 0 mw mw2_4) ∧ (r_3 = 0 → (vp_in (20 + x) 560) ∧ (∀ (fm1_6 : (Nat → Int64)), (fm1_6 = (vp_updL mw2_4 ((20 + x).toNatClampNeg) (-1))) → (∃ (gv_7 : Nat → Int) (gkn_8 : Nat), ((MR 0 fm1_6 gv_7 ∧ 0 ≤ gv_7 133 ∧ gv_7 133 < 2147483648 ∧ ((mn 0) + 1) = nI gkn_8 ∧ 1 ≤ gkn_8 ∧ gkn_8 ≤ 10) ∧ (∀ (r_9 : Int32) (mw2_10 : Nat → Int64), (r_9.toInt = zDv (zDr (gv_7 133)) gkn_8 ∧ MR 0 mw2_10 (uz gv_7 133 (zDr (gv_7 133))) ∧ MF 0 fm1_6 mw2_10) → (((mn 0) ≤ r_9 → (vp_in (20 + x) 560) ∧ (∀ (fm1_12 : (Nat → Int64)), (fm1_12 = (vp_updL mw2_10 ((20 + x).toNatClampNeg) (-1))) → (MR 0 fm1_12 (zWan Ns Np ip v) ∧ MF 0 mw fm1_12))) ∧ (¬ ((mn 0) ≤ r_9) → ∃ (gT_13 : Nat → Nat → Int) (gNs_14 : Nat) (gNp_15 : Nat) (gX_16 : Nat) (gv_17 : Nat → Int) (gib_18 : Nat), ((TOK gT_13 gNs_14 gNp_15 ∧ MT gT_13 gNs_14 gNp_15 fu fd fi zs cl ks ne mn ∧ (0 : Int32) = nI gX_16 ∧ gX_16 + 140 ≤ 560 ∧ MR gX_16 mw2_10 gv_17 ∧ r_9 = nI gib_18 ∧ gib_18 < 9) ∧ (∀ (r_19 : Int32), ((r_19 < 0 ↔ zEmpty gv_17 gib_18 gNp_15) ∧ r_19 = zSitter gv_17 gib_18 gNp_15) → ((0 ≤ r_19 → (vp_in (20 + x) 560) ∧ (∀ (fm1_21 : (Nat → Int64)), (fm1_21 = (vp_updL mw2_10 ((20 + x).toNatClampNeg) (-1))) → (MR 0 fm1_21 (zWan Ns Np ip v) ∧ MF 0 mw fm1_21))) ∧ (¬ (0 ≤ r_19) → (vp_in (20 + x) 560) ∧ (∀ (fm1_22 : (Nat → Int64)), (fm1_22 = (vp_updL mw2_10 ((20 + x).toNatClampNeg) r_9.toInt64)) → (MR 0 fm1_22 (zWan Ns Np ip v) ∧ MF 0 mw fm1_22))))))))))))))))) : MetV l yX8_wander wsX8_wander 1 23 G [.ref m0, .int x] [(m0, .inr (8, [.ref m1, .ref m2, .ref m3, .ref m4, .ref m5, .ref m6, .ref m7, .ref m8, .ref m9, .int fu, .int fd, .int fi, .int nu, .int nw, .int nf, .int bf, .int bn, .ref m10, .int ts, .int ap, .int fs, .int ln, .int fo, .int fa, .ref m11, .ref m12, .ref m13, .ref m14, .int wr])), aJ G m1 560 mw, aZ G m2 2 ik, aI G m3 20 zs, aI G m4 20 cl, aI G m5 20 hs, aI G m6 20 ks, aI G m7 20 wa, aI G m8 20 ne, aI G m9 4 mn, aI G m10 400 tx, aI G m11 6 th, aI G m12 6 od, aI G m13 30 bk, aI G m14 30 bh] sz (fun (u : (Nat → Int64)) => MR 0 u (zWan Ns Np ip v) ∧ MF 0 mw u) (fun (u : (Nat → Int64)) => [(m0, .inr (8, [.ref m1, .ref m2, .ref m3, .ref m4, .ref m5, .ref m6, .ref m7, .ref m8, .ref m9, .int fu, .int fd, .int fi, .int nu, .int nw, .int nf, .int bf, .int bn, .ref m10, .int ts, .int ap, .int fs, .int ln, .int fo, .int fa, .ref m11, .ref m12, .ref m13, .ref m14, .int wr])), aJ G m1 560 u, aZ G m2 2 ik, aI G m3 20 zs, aI G m4 20 cl, aI G m5 20 hs, aI G m6 20 ks, aI G m7 20 wa, aI G m8 20 ne, aI G m9 4 mn, aI G m10 400 tx, aI G m11 6 th, aI G m12 6 od, aI G m13 30 bk, aI G m14 30 bh]) := by
  refine x_startV (cc := cX8_wander) (maxL := 3) (ret := none) (by decide) rfl (Nat.le_of_ble_eq_true rfl) ?_
  intro p e s m args below meth c A R Q ls hRf hRl hQ C hP hD hS hA hSS hl
  obtain ⟨hx, hb, hr, hml, hown, hts, hlocks, hKK⟩ := C
  have hown : s.vm.findClass RX8 = some m.cls := hown
  have hl : lv_has ls 3 [(0, .ref m0), (1, .int x)] := hl
  have hinX8 : ∀ w ∈ u_ws RX8 TX8 29, w ∈ wsX8_wander := by decide +kernel
  have kl152 := hts (.constantLong RX8 152 (-1)) (by decide +kernel)
  have kl36 := hts (.fieldLink RX8 36 "WarmStonesModel" "many" "[I") (by decide +kernel)
  have kl7 := hts (.fieldLink RX8 7 "WarmStonesModel" "w" "[J") (by decide +kernel)
  refine lv_aload_n hx hb dX8_wander_0 rfl (lv_at hl 0 rfl) ?_
  refine lv_iconst (v := 4) hx hb dX8_wander_1 (by decide) ?_
  obtain ⟨gv_1, gkn_2, hv⟩ := hv
  obtain ⟨hp, hv⟩ := hv
  refine x_calli (wr := []) (w' := fun (u : (Nat → Int64)) => [(m0, .inr (8, [.ref m1, .ref m2, .ref m3, .ref m4, .ref m5, .ref m6, .ref m7, .ref m8, .ref m9, .int fu, .int fd, .int fi, .int nu, .int nw, .int nf, .int bf, .int bn, .ref m10, .int ts, .int ap, .int fs, .int ln, .int fo, .int fa, .ref m11, .ref m12, .ref m13, .ref m14, .int wr])), aJ G m1 560 u, aZ G m2 2 ik, aI G m3 20 zs, aI G m4 20 cl, aI G m5 20 hs, aI G m6 20 ks, aI G m7 20 wa, aI G m8 20 ne, aI G m9 4 mn, aI G m10 400 tx, aI G m11 6 th, aI G m12 6 od, aI G m13 30 bk, aI G m14 30 bh]) (x_runV (As := [.int 4]) (rest := []) (n := 1) (C := RX8) (ci := 8) ⟨hx, hb, hml, hown, hts⟩ (k_X8_draw l G m0 m1 m2 m3 m4 m5 m6 m7 m8 m9 m10 m11 m12 m13 m14 _ mw ik zs cl hs ks wa ne mn tx th od bk bh fu fd fi nu nw nf bf bn ts ap fs ln fo fa wr 4 gv_1 gkn_2 hp) gX8_wander_X8_draw rfl (by decide +kernel) ⟨Nat.le_trans (Nat.le_of_ble_eq_true rfl) hRf, Nat.le_trans (Nat.le_of_ble_eq_true rfl) hRl⟩ hKK hSS hS hA hP hD [0, 1, 2, 3, 4, 5, 6, 7, 8, 9, 10, 11, 12, 13, 14] (by decide) rfl rfl rfl 0 rfl rfl hl.1 rfl (Nat.le_of_ble_eq_true rfl) dX8_wander_2) hP hD hS hA [0, 1, 2, 3, 4, 5, 6, 7, 8, 9, 10, 11, 12, 13, 14] [] [0, 1, 2, 3, 4, 5, 6, 7, 8, 9, 10, 11, 12, 13, 14] rfl rfl (by decide) (by decide) (by decide) (fun _ => rfl) (fun r_3 u H locs hw hP hD hS => ?_)
  obtain ⟨mw2_4, rfl⟩ : ∃ z9_, z9_ = u := ⟨_, rfl⟩
  have hP : va_P G.1 vwCl [(m0, .inr (8, [.ref m1, .ref m2, .ref m3, .ref m4, .ref m5, .ref m6, .ref m7, .ref m8, .ref m9, .int fu, .int fd, .int fi, .int nu, .int nw, .int nf, .int bf, .int bn, .ref m10, .int ts, .int ap, .int fs, .int ln, .int fo, .int fa, .ref m11, .ref m12, .ref m13, .ref m14, .int wr])), aJ G m1 560 mw2_4, aZ G m2 2 ik, aI G m3 20 zs, aI G m4 20 cl, aI G m5 20 hs, aI G m6 20 ks, aI G m7 20 wa, aI G m8 20 ne, aI G m9 4 mn, aI G m10 400 tx, aI G m11 6 th, aI G m12 6 od, aI G m13 30 bk, aI G m14 30 bh] H := hP
  have hD : va_D A [(m0, .inr (8, [.ref m1, .ref m2, .ref m3, .ref m4, .ref m5, .ref m6, .ref m7, .ref m8, .ref m9, .int fu, .int fd, .int fi, .int nu, .int nw, .int nf, .int bf, .int bn, .ref m10, .int ts, .int ap, .int fs, .int ln, .int fo, .int fa, .ref m11, .ref m12, .ref m13, .ref m14, .int wr])), aJ G m1 560 mw2_4, aZ G m2 2 ik, aI G m3 20 zs, aI G m4 20 cl, aI G m5 20 hs, aI G m6 20 ks, aI G m7 20 wa, aI G m8 20 ne, aI G m9 4 mn, aI G m10 400 tx, aI G m11 6 th, aI G m12 6 od, aI G m13 30 bk, aI G m14 30 bh] := hD
  have hv := hv r_3 mw2_4 hw
  refine lv_if_ne (tgt := 69) hx hb dX8_wander_5 (by decide) (fun hc_5 => ?_) (fun hc_5 => ?_)
  · have hv := hv.1 hc_5
    exact x_vret mw2_4 hQ hx hb hr hlocks hS dX8_wander_69 hv hP hD
  · have hv := hv.2 hc_5
    refine lv_aload_n hx hb dX8_wander_8 rfl (lv_at hl 0 rfl) ?_
    refine va_get (D := G.1) (ci := 8) (v := .ref m1) (C := RX8) (T := TX8) (N := 29) hx hb hts hinX8 hown hKK.1 hP 0 rfl rfl 0 (by decide) kl7 (fun _ h9 => h9) rfl dX8_wander_9 ?_
    refine lv_bipush (v := 20) hx hb dX8_wander_12 (by decide) ?_
    refine lv_iload_n hx hb dX8_wander_14 rfl (lv_at hl 1 rfl) ?_
    refine lv_iadd hx hb dX8_wander_15 ?_
    refine lv_ldc2 (v := (-1)) hx hb hown kl152 dX8_wander_16 ?_
    obtain ⟨hin, hv⟩ := hv
    refine va_last hx hb hKK.1 hP hD hS 1 2 rfl rfl hin dX8_wander_19 (fun H locs hP hD hS => ?_)
    obtain ⟨fm1_6, ef⟩ : ∃ z9_, z9_ = (vp_updL mw2_4 ((20 + x).toNatClampNeg) (-1)) := ⟨_, rfl⟩
    have hP : va_P G.1 vwCl [(m0, .inr (8, [.ref m1, .ref m2, .ref m3, .ref m4, .ref m5, .ref m6, .ref m7, .ref m8, .ref m9, .int fu, .int fd, .int fi, .int nu, .int nw, .int nf, .int bf, .int bn, .ref m10, .int ts, .int ap, .int fs, .int ln, .int fo, .int fa, .ref m11, .ref m12, .ref m13, .ref m14, .int wr])), aJ G m1 560 fm1_6, aZ G m2 2 ik, aI G m3 20 zs, aI G m4 20 cl, aI G m5 20 hs, aI G m6 20 ks, aI G m7 20 wa, aI G m8 20 ne, aI G m9 4 mn, aI G m10 400 tx, aI G m11 6 th, aI G m12 6 od, aI G m13 30 bk, aI G m14 30 bh] H := by rw [ef]; exact hP
    have hD : va_D A [(m0, .inr (8, [.ref m1, .ref m2, .ref m3, .ref m4, .ref m5, .ref m6, .ref m7, .ref m8, .ref m9, .int fu, .int fd, .int fi, .int nu, .int nw, .int nf, .int bf, .int bn, .ref m10, .int ts, .int ap, .int fs, .int ln, .int fo, .int fa, .ref m11, .ref m12, .ref m13, .ref m14, .int wr])), aJ G m1 560 fm1_6, aZ G m2 2 ik, aI G m3 20 zs, aI G m4 20 cl, aI G m5 20 hs, aI G m6 20 ks, aI G m7 20 wa, aI G m8 20 ne, aI G m9 4 mn, aI G m10 400 tx, aI G m11 6 th, aI G m12 6 od, aI G m13 30 bk, aI G m14 30 bh] := by rw [ef]; exact hD
    have hv := hv fm1_6 ef
    refine lv_aload_n hx hb dX8_wander_20 rfl (lv_at hl 0 rfl) ?_
    refine lv_aload_n hx hb dX8_wander_21 rfl (lv_at hl 0 rfl) ?_
    refine va_get (D := G.1) (ci := 8) (v := .ref m9) (C := RX8) (T := TX8) (N := 29) hx hb hts hinX8 hown hKK.1 hP 0 rfl rfl 8 (by decide) kl36 (fun _ h9 => h9) rfl dX8_wander_22 ?_
    refine lv_iconst (v := 0) hx hb dX8_wander_25 (by decide) ?_
    refine va_iald hx hb hKK.1 hP 9 0 rfl rfl (by unfold vp_in; decide) dX8_wander_26 ?_
    refine lv_iconst (v := 1) hx hb dX8_wander_27 (by decide) ?_
    refine lv_iadd hx hb dX8_wander_28 ?_
    obtain ⟨gv_7, gkn_8, hv⟩ := hv
    obtain ⟨hp, hv⟩ := hv
    refine x_calli (wr := []) (w' := fun (u : (Nat → Int64)) => [(m0, .inr (8, [.ref m1, .ref m2, .ref m3, .ref m4, .ref m5, .ref m6, .ref m7, .ref m8, .ref m9, .int fu, .int fd, .int fi, .int nu, .int nw, .int nf, .int bf, .int bn, .ref m10, .int ts, .int ap, .int fs, .int ln, .int fo, .int fa, .ref m11, .ref m12, .ref m13, .ref m14, .int wr])), aJ G m1 560 u, aZ G m2 2 ik, aI G m3 20 zs, aI G m4 20 cl, aI G m5 20 hs, aI G m6 20 ks, aI G m7 20 wa, aI G m8 20 ne, aI G m9 4 mn, aI G m10 400 tx, aI G m11 6 th, aI G m12 6 od, aI G m13 30 bk, aI G m14 30 bh]) (x_runV (As := [.int ((mn 0) + 1)]) (rest := []) (n := 1) (C := RX8) (ci := 8) ⟨hx, hb, hml, hown, hts⟩ (k_X8_draw l G m0 m1 m2 m3 m4 m5 m6 m7 m8 m9 m10 m11 m12 m13 m14 _ fm1_6 ik zs cl hs ks wa ne mn tx th od bk bh fu fd fi nu nw nf bf bn ts ap fs ln fo fa wr ((mn 0) + 1) gv_7 gkn_8 hp) gX8_wander_X8_draw rfl (by decide +kernel) ⟨Nat.le_trans (Nat.le_of_ble_eq_true rfl) hRf, Nat.le_trans (Nat.le_of_ble_eq_true rfl) hRl⟩ hKK hSS hS hA hP hD [0, 1, 2, 3, 4, 5, 6, 7, 8, 9, 10, 11, 12, 13, 14] (by decide) rfl rfl rfl 0 rfl rfl hl.1 rfl (Nat.le_of_ble_eq_true rfl) dX8_wander_29) hP hD hS hA [0, 1, 2, 3, 4, 5, 6, 7, 8, 9, 10, 11, 12, 13, 14] [] [0, 1, 2, 3, 4, 5, 6, 7, 8, 9, 10, 11, 12, 13, 14] rfl rfl (by decide) (by decide) (by decide) (fun _ => rfl) (fun r_9 u H locs hw hP hD hS => ?_)
    obtain ⟨mw2_10, rfl⟩ : ∃ z9_, z9_ = u := ⟨_, rfl⟩
    have hP : va_P G.1 vwCl [(m0, .inr (8, [.ref m1, .ref m2, .ref m3, .ref m4, .ref m5, .ref m6, .ref m7, .ref m8, .ref m9, .int fu, .int fd, .int fi, .int nu, .int nw, .int nf, .int bf, .int bn, .ref m10, .int ts, .int ap, .int fs, .int ln, .int fo, .int fa, .ref m11, .ref m12, .ref m13, .ref m14, .int wr])), aJ G m1 560 mw2_10, aZ G m2 2 ik, aI G m3 20 zs, aI G m4 20 cl, aI G m5 20 hs, aI G m6 20 ks, aI G m7 20 wa, aI G m8 20 ne, aI G m9 4 mn, aI G m10 400 tx, aI G m11 6 th, aI G m12 6 od, aI G m13 30 bk, aI G m14 30 bh] H := hP
    have hD : va_D A [(m0, .inr (8, [.ref m1, .ref m2, .ref m3, .ref m4, .ref m5, .ref m6, .ref m7, .ref m8, .ref m9, .int fu, .int fd, .int fi, .int nu, .int nw, .int nf, .int bf, .int bn, .ref m10, .int ts, .int ap, .int fs, .int ln, .int fo, .int fa, .ref m11, .ref m12, .ref m13, .ref m14, .int wr])), aJ G m1 560 mw2_10, aZ G m2 2 ik, aI G m3 20 zs, aI G m4 20 cl, aI G m5 20 hs, aI G m6 20 ks, aI G m7 20 wa, aI G m8 20 ne, aI G m9 4 mn, aI G m10 400 tx, aI G m11 6 th, aI G m12 6 od, aI G m13 30 bk, aI G m14 30 bh] := hD
    have hv := hv r_9 mw2_10 hw
    refine lv_istore_n (lv' := [(2, .int r_9), (0, .ref m0), (1, .int x)]) hx hb dX8_wander_32 rfl hl (by decide) rfl (fun ls hl => ?_)
    refine lv_aload_n hx hb dX8_wander_33 rfl (lv_at hl 1 rfl) ?_
    refine va_get (D := G.1) (ci := 8) (v := .ref m1) (C := RX8) (T := TX8) (N := 29) hx hb hts hinX8 hown hKK.1 hP 0 rfl rfl 0 (by decide) kl7 (fun _ h9 => h9) rfl dX8_wander_34 ?_
    refine lv_bipush (v := 20) hx hb dX8_wander_37 (by decide) ?_
    refine lv_iload_n hx hb dX8_wander_39 rfl (lv_at hl 2 rfl) ?_
    refine lv_iadd hx hb dX8_wander_40 ?_
    refine lv_iload_n hx hb dX8_wander_41 rfl (lv_at hl 0 rfl) ?_
    refine lv_aload_n hx hb dX8_wander_42 rfl (lv_at hl 1 rfl) ?_
    refine va_get (D := G.1) (ci := 8) (v := .ref m9) (C := RX8) (T := TX8) (N := 29) hx hb hts hinX8 hown hKK.1 hP 0 rfl rfl 8 (by decide) kl36 (fun _ h9 => h9) rfl dX8_wander_43 ?_
    refine lv_iconst (v := 0) hx hb dX8_wander_46 (by decide) ?_
    refine va_iald hx hb hKK.1 hP 9 0 rfl rfl (by unfold vp_in; decide) dX8_wander_47 ?_
    refine lv_icmp_ge (tgt := 65) hx hb dX8_wander_48 (by decide) (fun hc_11 => ?_) (fun hc_11 => ?_)
    · have hv := hv.1 hc_11
      refine lv_ldc2 (v := (-1)) hx hb hown kl152 dX8_wander_65 ?_
      obtain ⟨hin, hv⟩ := hv
      refine va_last hx hb hKK.1 hP hD hS 1 2 rfl rfl hin dX8_wander_68 (fun H locs hP hD hS => ?_)
      obtain ⟨fm1_12, ef⟩ : ∃ z9_, z9_ = (vp_updL mw2_10 ((20 + x).toNatClampNeg) (-1)) := ⟨_, rfl⟩
      have hP : va_P G.1 vwCl [(m0, .inr (8, [.ref m1, .ref m2, .ref m3, .ref m4, .ref m5, .ref m6, .ref m7, .ref m8, .ref m9, .int fu, .int fd, .int fi, .int nu, .int nw, .int nf, .int bf, .int bn, .ref m10, .int ts, .int ap, .int fs, .int ln, .int fo, .int fa, .ref m11, .ref m12, .ref m13, .ref m14, .int wr])), aJ G m1 560 fm1_12, aZ G m2 2 ik, aI G m3 20 zs, aI G m4 20 cl, aI G m5 20 hs, aI G m6 20 ks, aI G m7 20 wa, aI G m8 20 ne, aI G m9 4 mn, aI G m10 400 tx, aI G m11 6 th, aI G m12 6 od, aI G m13 30 bk, aI G m14 30 bh] H := by rw [ef]; exact hP
      have hD : va_D A [(m0, .inr (8, [.ref m1, .ref m2, .ref m3, .ref m4, .ref m5, .ref m6, .ref m7, .ref m8, .ref m9, .int fu, .int fd, .int fi, .int nu, .int nw, .int nf, .int bf, .int bn, .ref m10, .int ts, .int ap, .int fs, .int ln, .int fo, .int fa, .ref m11, .ref m12, .ref m13, .ref m14, .int wr])), aJ G m1 560 fm1_12, aZ G m2 2 ik, aI G m3 20 zs, aI G m4 20 cl, aI G m5 20 hs, aI G m6 20 ks, aI G m7 20 wa, aI G m8 20 ne, aI G m9 4 mn, aI G m10 400 tx, aI G m11 6 th, aI G m12 6 od, aI G m13 30 bk, aI G m14 30 bh] := by rw [ef]; exact hD
      have hv := hv fm1_12 ef
      exact x_vret fm1_12 hQ hx hb hr hlocks hS dX8_wander_69 hv hP hD
    · have hv := hv.2 hc_11
      refine lv_aload_n hx hb dX8_wander_51 rfl (lv_at hl 1 rfl) ?_
      refine lv_iconst (v := 0) hx hb dX8_wander_52 (by decide) ?_
      refine lv_iload_n hx hb dX8_wander_53 rfl (lv_at hl 0 rfl) ?_
      obtain ⟨gT_13, gNs_14, gNp_15, gX_16, gv_17, gib_18, hv⟩ := hv
      obtain ⟨hp, hv⟩ := hv
      refine x_calliR (x_runV (As := [.int 0, .int r_9]) (rest := [.int (20 + x), .ref m1]) (n := 2) (C := RX8) (ci := 8) ⟨hx, hb, hml, hown, hts⟩ (k_X8_sitter l G m0 m1 m2 m3 m4 m5 m6 m7 m8 m9 m10 m11 m12 m13 m14 _ mw2_10 ik zs cl hs ks wa ne mn tx th od bk bh fu fd fi nu nw nf bf bn ts ap fs ln fo fa wr 0 r_9 gT_13 gNs_14 gNp_15 gX_16 gv_17 gib_18 hp) gX8_wander_X8_sitter rfl (by decide +kernel) ⟨Nat.le_trans (Nat.le_of_ble_eq_true rfl) hRf, Nat.le_trans (Nat.le_of_ble_eq_true rfl) hRl⟩ hKK hSS hS hA hP hD [0, 1, 2, 3, 4, 5, 6, 7, 8, 9, 10, 11, 12, 13, 14] (by decide) rfl rfl rfl 0 rfl rfl hl.1 rfl (Nat.le_of_ble_eq_true rfl) dX8_wander_54) hP hD hS hA [0, 1, 2, 3, 4, 5, 6, 7, 8, 9, 10, 11, 12, 13, 14] rfl (fun r_19 _ H locs hw hP hS => ?_)
      have hv := hv r_19 hw
      refine lv_if_ge (tgt := 65) hx hb dX8_wander_57 (by decide) (fun hc_20 => ?_) (fun hc_20 => ?_)
      · have hv := hv.1 hc_20
        refine lv_ldc2 (v := (-1)) hx hb hown kl152 dX8_wander_65 ?_
        obtain ⟨hin, hv⟩ := hv
        refine va_last hx hb hKK.1 hP hD hS 1 2 rfl rfl hin dX8_wander_68 (fun H locs hP hD hS => ?_)
        obtain ⟨fm1_21, ef⟩ : ∃ z9_, z9_ = (vp_updL mw2_10 ((20 + x).toNatClampNeg) (-1)) := ⟨_, rfl⟩
        have hP : va_P G.1 vwCl [(m0, .inr (8, [.ref m1, .ref m2, .ref m3, .ref m4, .ref m5, .ref m6, .ref m7, .ref m8, .ref m9, .int fu, .int fd, .int fi, .int nu, .int nw, .int nf, .int bf, .int bn, .ref m10, .int ts, .int ap, .int fs, .int ln, .int fo, .int fa, .ref m11, .ref m12, .ref m13, .ref m14, .int wr])), aJ G m1 560 fm1_21, aZ G m2 2 ik, aI G m3 20 zs, aI G m4 20 cl, aI G m5 20 hs, aI G m6 20 ks, aI G m7 20 wa, aI G m8 20 ne, aI G m9 4 mn, aI G m10 400 tx, aI G m11 6 th, aI G m12 6 od, aI G m13 30 bk, aI G m14 30 bh] H := by rw [ef]; exact hP
        have hD : va_D A [(m0, .inr (8, [.ref m1, .ref m2, .ref m3, .ref m4, .ref m5, .ref m6, .ref m7, .ref m8, .ref m9, .int fu, .int fd, .int fi, .int nu, .int nw, .int nf, .int bf, .int bn, .ref m10, .int ts, .int ap, .int fs, .int ln, .int fo, .int fa, .ref m11, .ref m12, .ref m13, .ref m14, .int wr])), aJ G m1 560 fm1_21, aZ G m2 2 ik, aI G m3 20 zs, aI G m4 20 cl, aI G m5 20 hs, aI G m6 20 ks, aI G m7 20 wa, aI G m8 20 ne, aI G m9 4 mn, aI G m10 400 tx, aI G m11 6 th, aI G m12 6 od, aI G m13 30 bk, aI G m14 30 bh] := by rw [ef]; exact hD
        have hv := hv fm1_21 ef
        exact x_vret fm1_21 hQ hx hb hr hlocks hS dX8_wander_69 hv hP hD
      · have hv := hv.2 hc_20
        refine lv_iload_n hx hb dX8_wander_60 rfl (lv_at hl 0 rfl) ?_
        refine lv_i2l hx hb dX8_wander_61 rfl ?_
        refine lv_goto (tgt := 68) hx hb dX8_wander_62 (by decide) ?_
        obtain ⟨hin, hv⟩ := hv
        refine va_last hx hb hKK.1 hP hD hS 1 2 rfl rfl hin dX8_wander_68 (fun H locs hP hD hS => ?_)
        obtain ⟨fm1_22, ef⟩ : ∃ z9_, z9_ = (vp_updL mw2_10 ((20 + x).toNatClampNeg) r_9.toInt64) := ⟨_, rfl⟩
        have hP : va_P G.1 vwCl [(m0, .inr (8, [.ref m1, .ref m2, .ref m3, .ref m4, .ref m5, .ref m6, .ref m7, .ref m8, .ref m9, .int fu, .int fd, .int fi, .int nu, .int nw, .int nf, .int bf, .int bn, .ref m10, .int ts, .int ap, .int fs, .int ln, .int fo, .int fa, .ref m11, .ref m12, .ref m13, .ref m14, .int wr])), aJ G m1 560 fm1_22, aZ G m2 2 ik, aI G m3 20 zs, aI G m4 20 cl, aI G m5 20 hs, aI G m6 20 ks, aI G m7 20 wa, aI G m8 20 ne, aI G m9 4 mn, aI G m10 400 tx, aI G m11 6 th, aI G m12 6 od, aI G m13 30 bk, aI G m14 30 bh] H := by rw [ef]; exact hP
        have hD : va_D A [(m0, .inr (8, [.ref m1, .ref m2, .ref m3, .ref m4, .ref m5, .ref m6, .ref m7, .ref m8, .ref m9, .int fu, .int fd, .int fi, .int nu, .int nw, .int nf, .int bf, .int bn, .ref m10, .int ts, .int ap, .int fs, .int ln, .int fo, .int fa, .ref m11, .ref m12, .ref m13, .ref m14, .int wr])), aJ G m1 560 fm1_22, aZ G m2 2 ik, aI G m3 20 zs, aI G m4 20 cl, aI G m5 20 hs, aI G m6 20 ks, aI G m7 20 wa, aI G m8 20 ne, aI G m9 4 mn, aI G m10 400 tx, aI G m11 6 th, aI G m12 6 od, aI G m13 30 bk, aI G m14 30 bh] := by rw [ef]; exact hD
        have hv := hv fm1_22 ef
        exact x_vret fm1_22 hQ hx hb hr hlocks hS dX8_wander_69 hv hP hD
theorem v_X8_wander (l : Launch) (G : Gt) (m0 m1 m2 m3 m4 m5 m6 m7 m8 m9 m10 m11 m12 m13 m14 : Nat) (sz : Nat) (mw : Nat → Int64) (ik : Nat → Int32) (zs : Nat → Int32) (cl : Nat → Int32) (hs : Nat → Int32) (ks : Nat → Int32) (wa : Nat → Int32) (ne : Nat → Int32) (mn : Nat → Int32) (tx : Nat → Int32) (th : Nat → Int32) (od : Nat → Int32) (bk : Nat → Int32) (bh : Nat → Int32) (fu : Int32) (fd : Int32) (fi : Int32) (nu : Int32) (nw : Int32) (nf : Int32) (bf : Int32) (bn : Int32) (ts : Int32) (ap : Int32) (fs : Int32) (ln : Int32) (fo : Int32) (fa : Int32) (wr : Int32) (x : Int32) (T : Nat → Nat → Int) (Ns : Nat) (Np : Nat) (v : Nat → Int) (ip : Nat) (hp : TOK T Ns Np ∧ MT T Ns Np fu fd fi zs cl ks ne mn ∧ MR 0 mw v ∧ 0 ≤ v 133 ∧ v 133 < 2147483648 ∧ x = nI ip ∧ ip < Np) : ∃ (gv_1 : Nat → Int) (gkn_2 : Nat), ((MR 0 mw gv_1 ∧ 0 ≤ gv_1 133 ∧ gv_1 133 < 2147483648 ∧ (4 : Int32) = nI gkn_2 ∧ 1 ≤ gkn_2 ∧ gkn_2 ≤ 10) ∧ (∀ (r_3 : Int32) (mw2_4 : Nat → Int64), (r_3.toInt = zDv (zDr (gv_1 133)) gkn_2 ∧ MR 0 mw2_4 (uz gv_1 133 (zDr (gv_1 133))) ∧ MF 0 mw mw2_4) → ((¬ r_3 = 0 → MR 0 mw2_4 (zWan Ns Np ip v) ∧ MF 0 mw mw2_4) ∧ (r_3 = 0 → (vp_in (20 + x) 560) ∧ (∀ (fm1_6 : (Nat → Int64)), (fm1_6 = (vp_updL mw2_4 ((20 + x).toNatClampNeg) (-1))) → (∃ (gv_7 : Nat → Int) (gkn_8 : Nat), ((MR 0 fm1_6 gv_7 ∧ 0 ≤ gv_7 133 ∧ gv_7 133 < 2147483648 ∧ ((mn 0) + 1) = nI gkn_8 ∧ 1 ≤ gkn_8 ∧ gkn_8 ≤ 10) ∧ (∀ (r_9 : Int32) (mw2_10 : Nat → Int64), (r_9.toInt = zDv (zDr (gv_7 133)) gkn_8 ∧ MR 0 mw2_10 (uz gv_7 133 (zDr (gv_7 133))) ∧ MF 0 fm1_6 mw2_10) → (((mn 0) ≤ r_9 → (vp_in (20 + x) 560) ∧ (∀ (fm1_12 : (Nat → Int64)), (fm1_12 = (vp_updL mw2_10 ((20 + x).toNatClampNeg) (-1))) → (MR 0 fm1_12 (zWan Ns Np ip v) ∧ MF 0 mw fm1_12))) ∧ (¬ ((mn 0) ≤ r_9) → ∃ (gT_13 : Nat → Nat → Int) (gNs_14 : Nat) (gNp_15 : Nat) (gX_16 : Nat) (gv_17 : Nat → Int) (gib_18 : Nat), ((TOK gT_13 gNs_14 gNp_15 ∧ MT gT_13 gNs_14 gNp_15 fu fd fi zs cl ks ne mn ∧ (0 : Int32) = nI gX_16 ∧ gX_16 + 140 ≤ 560 ∧ MR gX_16 mw2_10 gv_17 ∧ r_9 = nI gib_18 ∧ gib_18 < 9) ∧ (∀ (r_19 : Int32), ((r_19 < 0 ↔ zEmpty gv_17 gib_18 gNp_15) ∧ r_19 = zSitter gv_17 gib_18 gNp_15) → ((0 ≤ r_19 → (vp_in (20 + x) 560) ∧ (∀ (fm1_21 : (Nat → Int64)), (fm1_21 = (vp_updL mw2_10 ((20 + x).toNatClampNeg) (-1))) → (MR 0 fm1_21 (zWan Ns Np ip v) ∧ MF 0 mw fm1_21))) ∧ (¬ (0 ≤ r_19) → (vp_in (20 + x) 560) ∧ (∀ (fm1_22 : (Nat → Int64)), (fm1_22 = (vp_updL mw2_10 ((20 + x).toNatClampNeg) r_9.toInt64)) → (MR 0 fm1_22 (zWan Ns Np ip v) ∧ MF 0 mw fm1_22)))))))))))))))) := by
  obtain ⟨hT, hC, hR, h0, h1, rfl, hi⟩ := hp
  have t1 := hT.1
  have t2 := hT.2.1
  have d1 := zDr_in (v 133)
  have d2 := zDr_in (zDr (v 133))
  have e20 : 20 + nI ip = nI (20 + ip) := ix1 20 ip
  have c20 : (nI (20 + ip)).toNatClampNeg = 20 + ip := nI_clamp (by omega)
  simp only [e20, c20]
  have v20 : vp_in (nI (20 + ip)) 560 := vp_in_nI (by omega) (by omega)
  have hns := hC.1
  refine ⟨v, 4, ⟨hR, h0, h1, rfl, by omega, by omega⟩, fun r w hw => ⟨fun q => ?_, fun q => ⟨v20, fun w1 ew1 => ?_⟩⟩⟩
  · have q' : ¬ zDv (zDr (v 133)) 4 = 0 := fun z => q (by rw [← Int32.toInt_inj, hw.1]; exact z)
    unfold zWan; rw [if_neg q']; exact hw.2
  · have q' : zDv (zDr (v 133)) 4 = 0 := by have z := hw.1; rw [q] at z; exact z.symm
    have hR1 : MR 0 w1 (uz (uz v 133 (zDr (v 133))) (20 + ip) (-1)) := by rw [ew1]; exact hw.2.1.u0 rfl
    have hF1 : MF 0 mw w1 := by rw [ew1]; exact hw.2.2.u0 (by omega)
    have e133 : uz (uz v 133 (zDr (v 133))) (20 + ip) (-1) 133 = zDr (v 133) := by rw [uz_ne (by omega), uz_eq]
    have hk : mn 0 + 1 = nI (Ns + 1) := by rw [hns]; exact nI_1 Ns
    refine ⟨_, Ns + 1, ⟨hR1, by rw [e133]; exact d1.1, by rw [e133]; exact d1.2, hk, by omega, by omega⟩, fun r2 w2 hw2 => ?_⟩
    have ec : ((Ns + 1 : Nat) : Int) = (Ns : Int) + 1 := by omega
    rw [e133, ec] at hw2
    have dv := zDv_in (s := zDr (zDr (v 133))) (n := (Ns : Int) + 1) d2.1 (by omega)
    have hF2 : MF 0 mw w2 := hF1.tr hw2.2.2
    have eW : zWan Ns Np ip v = uz (uz (uz (uz v 133 (zDr (v 133))) (20 + ip) (-1)) 133 (zDr (zDr (v 133)))) (20 + ip) (if zDv (zDr (zDr (v 133))) (Ns + 1) < Ns ∧ zFirst (uz (uz (uz v 133 (zDr (v 133))) (20 + ip) (-1)) 133 (zDr (zDr (v 133)))) (zDv (zDr (zDr (v 133))) (Ns + 1)).toNat Np = none then zDv (zDr (zDr (v 133))) (Ns + 1) else -1) := by unfold zWan; rw [if_pos q']
    rw [eW]
    generalize uz (uz (uz v 133 (zDr (v 133))) (20 + ip) (-1)) 133 (zDr (zDr (v 133))) = V at hw2 ⊢
    generalize zDv (zDr (zDr (v 133))) (Ns + 1) = D at hw2 dv ⊢
    have hle : mn 0 ≤ r2 ↔ (Ns : Int) ≤ D := by rw [hns]; exact i_le (nI_toInt (by omega)) hw2.1
    refine ⟨fun a => ⟨v20, fun w3 ew3 => ?_⟩, fun a => ?_⟩
    · rw [if_neg (fun z => by have := hle.mp a; have := z.1; omega), ew3]; exact ⟨hw2.2.1.u0 rfl, hF2.u0 (by omega)⟩
    · have hlt : D < Ns := by have := mt hle.mpr a; omega
      obtain ⟨b, hb⟩ : ∃ b : Nat, D = (b : Int) := ⟨D.toNat, by omega⟩
      have er2 : r2 = nI b := by rw [← Int32.toInt_inj, hw2.1, hb, nI_toInt (by omega)]
      have eD : D.toNat = b := by omega
      refine ⟨T, Ns, Np, 0, _, b, ⟨hT, hC, rfl, by omega, hw2.2.1, er2, by omega⟩, fun r3 hr3 => ⟨fun a2 => ⟨v20, fun w3 ew3 => ?_⟩, fun a2 => ⟨v20, fun w3 ew3 => ?_⟩⟩⟩
      · rw [if_neg (fun z => by have z2 := z.2; rw [eD] at z2; exact absurd (hr3.1.mpr (zFirst_none_iff.mp z2)) (Int32.not_lt.mpr a2)), ew3]; exact ⟨hw2.2.1.u0 rfl, hF2.u0 (by omega)⟩
      · rw [if_pos ⟨hlt, by rw [eD]; exact zFirst_none (hr3.1.mp (Int32.not_le.mp a2))⟩, ew3]; exact ⟨hw2.2.1.u0 (i_l hw2.1), hF2.u0 (by omega)⟩
theorem k_X8_wander (l : Launch) (G : Gt) (m0 m1 m2 m3 m4 m5 m6 m7 m8 m9 m10 m11 m12 m13 m14 : Nat) (sz : Nat) (mw : Nat → Int64) (ik : Nat → Int32) (zs : Nat → Int32) (cl : Nat → Int32) (hs : Nat → Int32) (ks : Nat → Int32) (wa : Nat → Int32) (ne : Nat → Int32) (mn : Nat → Int32) (tx : Nat → Int32) (th : Nat → Int32) (od : Nat → Int32) (bk : Nat → Int32) (bh : Nat → Int32) (fu : Int32) (fd : Int32) (fi : Int32) (nu : Int32) (nw : Int32) (nf : Int32) (bf : Int32) (bn : Int32) (ts : Int32) (ap : Int32) (fs : Int32) (ln : Int32) (fo : Int32) (fa : Int32) (wr : Int32) (x : Int32) (T : Nat → Nat → Int) (Ns : Nat) (Np : Nat) (v : Nat → Int) (ip : Nat) (hp : TOK T Ns Np ∧ MT T Ns Np fu fd fi zs cl ks ne mn ∧ MR 0 mw v ∧ 0 ≤ v 133 ∧ v 133 < 2147483648 ∧ x = nI ip ∧ ip < Np) : MetV l yX8_wander wsX8_wander 1 23 G [.ref m0, .int x] [(m0, .inr (8, [.ref m1, .ref m2, .ref m3, .ref m4, .ref m5, .ref m6, .ref m7, .ref m8, .ref m9, .int fu, .int fd, .int fi, .int nu, .int nw, .int nf, .int bf, .int bn, .ref m10, .int ts, .int ap, .int fs, .int ln, .int fo, .int fa, .ref m11, .ref m12, .ref m13, .ref m14, .int wr])), aJ G m1 560 mw, aZ G m2 2 ik, aI G m3 20 zs, aI G m4 20 cl, aI G m5 20 hs, aI G m6 20 ks, aI G m7 20 wa, aI G m8 20 ne, aI G m9 4 mn, aI G m10 400 tx, aI G m11 6 th, aI G m12 6 od, aI G m13 30 bk, aI G m14 30 bh] sz (fun (u : (Nat → Int64)) => MR 0 u (zWan Ns Np ip v) ∧ MF 0 mw u) (fun (u : (Nat → Int64)) => [(m0, .inr (8, [.ref m1, .ref m2, .ref m3, .ref m4, .ref m5, .ref m6, .ref m7, .ref m8, .ref m9, .int fu, .int fd, .int fi, .int nu, .int nw, .int nf, .int bf, .int bn, .ref m10, .int ts, .int ap, .int fs, .int ln, .int fo, .int fa, .ref m11, .ref m12, .ref m13, .ref m14, .int wr])), aJ G m1 560 u, aZ G m2 2 ik, aI G m3 20 zs, aI G m4 20 cl, aI G m5 20 hs, aI G m6 20 ks, aI G m7 20 wa, aI G m8 20 ne, aI G m9 4 mn, aI G m10 400 tx, aI G m11 6 th, aI G m12 6 od, aI G m13 30 bk, aI G m14 30 bh]) :=
  c_X8_wander l G m0 m1 m2 m3 m4 m5 m6 m7 m8 m9 m10 m11 m12 m13 m14 sz mw ik zs cl hs ks wa ne mn tx th od bk bh fu fd fi nu nw nf bf bn ts ap fs ln fo fa wr x T Ns Np v ip (v_X8_wander l G m0 m1 m2 m3 m4 m5 m6 m7 m8 m9 m10 m11 m12 m13 m14 sz mw ik zs cl hs ks wa ne mn tx th od bk bh fu fd fi nu nw nf bf bn ts ap fs ln fo fa wr x T Ns Np v ip hp)

set_option maxHeartbeats 4000000 in
set_option maxRecDepth 100000 in
theorem c_X8_drift (l : Launch) (G : Gt) (m0 m1 m2 m3 m4 m5 m6 m7 m8 m9 m10 m11 m12 m13 m14 : Nat) (sz : Nat) (mw : Nat → Int64) (ik : Nat → Int32) (zs : Nat → Int32) (cl : Nat → Int32) (hs : Nat → Int32) (ks : Nat → Int32) (wa : Nat → Int32) (ne : Nat → Int32) (mn : Nat → Int32) (tx : Nat → Int32) (th : Nat → Int32) (od : Nat → Int32) (bk : Nat → Int32) (bh : Nat → Int32) (fu : Int32) (fd : Int32) (fi : Int32) (nu : Int32) (nw : Int32) (nf : Int32) (bf : Int32) (bn : Int32) (ts : Int32) (ap : Int32) (fs : Int32) (ln : Int32) (fo : Int32) (fa : Int32) (wr : Int32) (x : Int32) (T : Nat → Nat → Int) (Ns : Nat) (Np : Nat) (v : Nat → Int) (M : Int) (hv : (¬ x.toInt64 < 1 ∧ ¬ 999 < x.toInt64 → ∃ (I17_5 : (Nat → Int64) → Int32 → Prop) (μ17_6 : (Nat → Int64) → Int32 → Nat), I17_5 mw 0 ∧ (∀ (fm1_3 : (Nat → Int64)) (x2_4 : Int32), I17_5 fm1_3 x2_4 → (x ≤ x2_4 → ∃ (gT_10 : Nat → Nat → Int) (gNs_11 : Nat) (gNp_12 : Nat) (gv_13 : Nat → Int), ((TOK gT_10 gNs_11 gNp_12 ∧ MT gT_10 gNs_11 gNp_12 fu fd fi zs cl ks ne mn ∧ MR 0 fm1_3 gv_13) ∧ (∀ (r_14 : Int32), (r_14 = nI (zCs gT_10 gv_13 gNp_12)) → (r_14.toInt = (qDrift T Ns Np v x.toInt).1 ∧ MR 0 fm1_3 (qDrift T Ns Np v x.toInt).2 ∧ MF 0 mw fm1_3)))) ∧ (¬ (x ≤ x2_4) → ∃ (I24_17 : (Nat → Int64) → Int32 → Prop) (μ24_18 : (Nat → Int64) → Int32 → Nat), I24_17 fm1_3 0 ∧ (∀ (fm1_15 : (Nat → Int64)) (x3_16 : Int32), I24_17 fm1_15 x3_16 → ((mn 1) ≤ x3_16 → ∃ (gT_22 : Nat → Nat → Int) (gNs_23 : Nat) (gNp_24 : Nat) (gX_25 : Nat) (gv_26 : Nat → Int) (gM_27 : Int), ((TOK gT_22 gNs_23 gNp_24 ∧ MT gT_22 gNs_23 gNp_24 fu fd fi zs cl ks ne mn ∧ (0 : Int32) = nI gX_25 ∧ gX_25 + 140 ≤ 560 ∧ MR gX_25 fm1_15 gv_26 ∧ NOK gT_22 gNs_23 gNp_24 (fun _ => 2 * gM_27) gM_27 gv_26 ∧ gM_27 ≤ 1000000) ∧ (∀ (r_28 : Int32) (mw2_29 : Nat → Int64), (r_28 = nI (zCs gT_22 (zPass gT_22 gNs_23 gNp_24 gv_26) gNp_24) ∧ MR gX_25 mw2_29 (zPass gT_22 gNs_23 gNp_24 gv_26) ∧ MF gX_25 fm1_15 mw2_29) → (I17_5 mw2_29 (x2_4 + 1) ∧ μ17_6 mw2_29 (x2_4 + 1) < μ17_6 fm1_3 x2_4)))) ∧ (¬ ((mn 1) ≤ x3_16) → ∃ (gT_30 : Nat → Nat → Int) (gNs_31 : Nat) (gNp_32 : Nat) (gv_33 : Nat → Int) (gip_34 : Nat), ((TOK gT_30 gNs_31 gNp_32 ∧ MT gT_30 gNs_31 gNp_32 fu fd fi zs cl ks ne mn ∧ MR 0 fm1_15 gv_33 ∧ 0 ≤ gv_33 133 ∧ gv_33 133 < 2147483648 ∧ x3_16 = nI gip_34 ∧ gip_34 < gNp_32) ∧ (∀ (mw2_36 : Nat → Int64), (MR 0 mw2_36 (zWan gNs_31 gNp_32 gip_34 gv_33) ∧ MF 0 fm1_15 mw2_36) → (I24_17 mw2_36 (x3_16 + 1) ∧ μ24_18 mw2_36 (x3_16 + 1) < μ24_18 fm1_15 x3_16)))))))) ∧ (¬ (¬ x.toInt64 < 1 ∧ ¬ 999 < x.toInt64) → ((-1000000002) : Int32).toInt = (qDrift T Ns Np v x.toInt).1 ∧ MR 0 mw (qDrift T Ns Np v x.toInt).2 ∧ MF 0 mw mw)) : MetI l yX8_drift wsX8_drift 4 101 G [.ref m0, .int x] [(m0, .inr (8, [.ref m1, .ref m2, .ref m3, .ref m4, .ref m5, .ref m6, .ref m7, .ref m8, .ref m9, .int fu, .int fd, .int fi, .int nu, .int nw, .int nf, .int bf, .int bn, .ref m10, .int ts, .int ap, .int fs, .int ln, .int fo, .int fa, .ref m11, .ref m12, .ref m13, .ref m14, .int wr])), aJ G m1 560 mw, aZ G m2 2 ik, aI G m3 20 zs, aI G m4 20 cl, aI G m5 20 hs, aI G m6 20 ks, aI G m7 20 wa, aI G m8 20 ne, aI G m9 4 mn, aI G m10 400 tx, aI G m11 6 th, aI G m12 6 od, aI G m13 30 bk, aI G m14 30 bh] sz (fun (r : Int32) (u : (Nat → Int64)) => r.toInt = (qDrift T Ns Np v x.toInt).1 ∧ MR 0 u (qDrift T Ns Np v x.toInt).2 ∧ MF 0 mw u) (fun (u : (Nat → Int64)) => [(m0, .inr (8, [.ref m1, .ref m2, .ref m3, .ref m4, .ref m5, .ref m6, .ref m7, .ref m8, .ref m9, .int fu, .int fd, .int fi, .int nu, .int nw, .int nf, .int bf, .int bn, .ref m10, .int ts, .int ap, .int fs, .int ln, .int fo, .int fa, .ref m11, .ref m12, .ref m13, .ref m14, .int wr])), aJ G m1 560 u, aZ G m2 2 ik, aI G m3 20 zs, aI G m4 20 cl, aI G m5 20 hs, aI G m6 20 ks, aI G m7 20 wa, aI G m8 20 ne, aI G m9 4 mn, aI G m10 400 tx, aI G m11 6 th, aI G m12 6 od, aI G m13 30 bk, aI G m14 30 bh]) := by
  refine x_startI (cc := cX8_drift) (maxL := 4) (ret := (some .int)) (by decide) rfl (Nat.le_of_ble_eq_true rfl) ?_
  intro p e s m args below meth c A R Q ls hRf hRl hQ C hP hD hS hA hSS hl
  obtain ⟨hx, hb, hr, hml, hown, hts, hlocks, hKK⟩ := C
  have hown : s.vm.findClass RX8 = some m.cls := hown
  have hl : lv_has ls 4 [(0, .ref m0), (1, .int x)] := hl
  have hinX8 : ∀ w ∈ u_ws RX8 TX8 29, w ∈ wsX8_drift := by decide +kernel
  have kl199 := hts (.constantLong RX8 199 (999)) (by decide +kernel)
  have kl36 := hts (.fieldLink RX8 36 "WarmStonesModel" "many" "[I") (by decide +kernel)
  have kl73 := hts (.constant RX8 73 (-1000000002)) (by decide +kernel)
  refine lv_iload_n hx hb dX8_drift_0 rfl (lv_at hl 1 rfl) ?_
  refine lv_i2l hx hb dX8_drift_1 rfl ?_
  refine lv_lconst (v := 1) hx hb dX8_drift_2 (by decide) ?_
  refine lv_ldc2 (v := 999) hx hb hown kl199 dX8_drift_3 ?_
  refine x_calliR (x_runS (As := [.long x.toInt64, .long 1, .long 999]) (rest := []) (n := 3) ⟨hx, hb, hml, hown, hts⟩ (k_X8_in l G  _ x.toInt64 1 999) gX8_drift_X8_in rfl (by decide +kernel) ⟨Nat.le_trans (Nat.le_of_ble_eq_true rfl) hRf, Nat.le_trans (Nat.le_of_ble_eq_true rfl) hRl⟩ hKK hSS hS hA hP hD [] (by decide) rfl rfl hl.1 rfl (Nat.le_of_ble_eq_true rfl) dX8_drift_6) hP hD hS hA [] rfl (fun r_1 _ H locs hw hP hS => ?_)
  replace hw := hw.symm; subst hw
  refine lv_if_ne (tgt := 15) hx hb dX8_drift_9 (by decide) (fun hc_2 => ?_) (fun hc_2 => ?_)
  · have hv := hv.1 (tv_eqn.mp hc_2)
    refine lv_iconst (v := 0) hx hb dX8_drift_15 (by decide) ?_
    refine lv_istore_n (lv' := [(2, .int 0), (0, .ref m0), (1, .int x)]) hx hb dX8_drift_16 rfl hl (by decide) rfl (fun ls hl => ?_)
    obtain ⟨I17_5, μ17_6, hi0, hs_40⟩ := hv
    have Lm_42 : ∀ (n_41 : Nat) (fm1_3 : (Nat → Int64)) (x2_4 : Int32) (H : Heap) (locs : List Loc) (ls : Array Slot), μ17_6 fm1_3 x2_4 < n_41 → I17_5 fm1_3 x2_4 → va_P G.1 vwCl [(m0, .inr (8, [.ref m1, .ref m2, .ref m3, .ref m4, .ref m5, .ref m6, .ref m7, .ref m8, .ref m9, .int fu, .int fd, .int fi, .int nu, .int nw, .int nf, .int bf, .int bn, .ref m10, .int ts, .int ap, .int fs, .int ln, .int fo, .int fa, .ref m11, .ref m12, .ref m13, .ref m14, .int wr])), aJ G m1 560 fm1_3, aZ G m2 2 ik, aI G m3 20 zs, aI G m4 20 cl, aI G m5 20 hs, aI G m6 20 ks, aI G m7 20 wa, aI G m8 20 ne, aI G m9 4 mn, aI G m10 400 tx, aI G m11 6 th, aI G m12 6 od, aI G m13 30 bk, aI G m14 30 bh] H → va_D A [(m0, .inr (8, [.ref m1, .ref m2, .ref m3, .ref m4, .ref m5, .ref m6, .ref m7, .ref m8, .ref m9, .int fu, .int fd, .int fi, .int nu, .int nw, .int nf, .int bf, .int bn, .ref m10, .int ts, .int ap, .int fs, .int ln, .int fo, .int fa, .ref m11, .ref m12, .ref m13, .ref m14, .int wr])), aJ G m1 560 fm1_3, aZ G m2 2 ik, aI G m3 20 zs, aI G m4 20 cl, aI G m5 20 hs, aI G m6 20 ks, aI G m7 20 wa, aI G m8 20 ne, aI G m9 4 mn, aI G m10 400 tx, aI G m11 6 th, aI G m12 6 od, aI G m13 30 bk, aI G m14 30 bh] → va_S A s.heap H locs → lv_has ls 4 [(2, .int x2_4), (0, .ref m0), (1, .int x)] → W p l e R s m args below meth c H locs 0 0 Q (F0 m 17 ls []) := by
      intro n_41
      induction n_41 with
      | zero => intro fm1_3 x2_4 H locs ls hm; exact absurd hm (Nat.not_lt_zero _)
      | succ n_41 ih_7 =>
        intro fm1_3 x2_4 H locs ls hI_8 hi hP hD hS hl
        have hv := hs_40 fm1_3 x2_4 hi
        refine lv_iload_n hx hb dX8_drift_17 rfl (lv_at hl 0 rfl) ?_
        refine lv_iload_n hx hb dX8_drift_18 rfl (lv_at hl 2 rfl) ?_
        refine lv_icmp_ge (tgt := 57) hx hb dX8_drift_19 (by decide) (fun hc_9 => ?_) (fun hc_9 => ?_)
        · have hv := hv.1 hc_9
          refine lv_aload_n hx hb dX8_drift_57 rfl (lv_at hl 1 rfl) ?_
          obtain ⟨gT_10, gNs_11, gNp_12, gv_13, hv⟩ := hv
          obtain ⟨hp, hv⟩ := hv
          refine x_calliR (x_runV (As := []) (rest := []) (n := 0) (C := RX8) (ci := 8) ⟨hx, hb, hml, hown, hts⟩ (k_X8_coldNow l G m0 m1 m2 m3 m4 m5 m6 m7 m8 m9 m10 m11 m12 m13 m14 _ fm1_3 ik zs cl hs ks wa ne mn tx th od bk bh fu fd fi nu nw nf bf bn ts ap fs ln fo fa wr gT_10 gNs_11 gNp_12 gv_13 hp) gX8_drift_X8_coldNow rfl (by decide +kernel) ⟨Nat.le_trans (Nat.le_of_ble_eq_true rfl) hRf, Nat.le_trans (Nat.le_of_ble_eq_true rfl) hRl⟩ hKK hSS hS hA hP hD [0, 1, 2, 3, 4, 5, 6, 7, 8, 9, 10, 11, 12, 13, 14] (by decide) rfl rfl rfl 0 rfl rfl hl.1 rfl (Nat.le_of_ble_eq_true rfl) dX8_drift_58) hP hD hS hA [0, 1, 2, 3, 4, 5, 6, 7, 8, 9, 10, 11, 12, 13, 14] rfl (fun r_14 _ H locs hw hP hS => ?_)
          have hv := hv r_14 hw
          exact x_iret (v := r_14) fm1_3 hQ hx hb hr hlocks hS dX8_drift_61 hv hP hD
        · have hv := hv.2 hc_9
          refine lv_iconst (v := 0) hx hb dX8_drift_22 (by decide) ?_
          refine lv_istore_n (lv' := [(3, .int 0), (2, .int x2_4), (0, .ref m0), (1, .int x)]) hx hb dX8_drift_23 rfl hl (by decide) rfl (fun ls hl => ?_)
          obtain ⟨I24_17, μ24_18, hi0, hs_37⟩ := hv
          have Lm_39 : ∀ (n_38 : Nat) (fm1_15 : (Nat → Int64)) (x3_16 : Int32) (H : Heap) (locs : List Loc) (ls : Array Slot), μ24_18 fm1_15 x3_16 < n_38 → I24_17 fm1_15 x3_16 → va_P G.1 vwCl [(m0, .inr (8, [.ref m1, .ref m2, .ref m3, .ref m4, .ref m5, .ref m6, .ref m7, .ref m8, .ref m9, .int fu, .int fd, .int fi, .int nu, .int nw, .int nf, .int bf, .int bn, .ref m10, .int ts, .int ap, .int fs, .int ln, .int fo, .int fa, .ref m11, .ref m12, .ref m13, .ref m14, .int wr])), aJ G m1 560 fm1_15, aZ G m2 2 ik, aI G m3 20 zs, aI G m4 20 cl, aI G m5 20 hs, aI G m6 20 ks, aI G m7 20 wa, aI G m8 20 ne, aI G m9 4 mn, aI G m10 400 tx, aI G m11 6 th, aI G m12 6 od, aI G m13 30 bk, aI G m14 30 bh] H → va_D A [(m0, .inr (8, [.ref m1, .ref m2, .ref m3, .ref m4, .ref m5, .ref m6, .ref m7, .ref m8, .ref m9, .int fu, .int fd, .int fi, .int nu, .int nw, .int nf, .int bf, .int bn, .ref m10, .int ts, .int ap, .int fs, .int ln, .int fo, .int fa, .ref m11, .ref m12, .ref m13, .ref m14, .int wr])), aJ G m1 560 fm1_15, aZ G m2 2 ik, aI G m3 20 zs, aI G m4 20 cl, aI G m5 20 hs, aI G m6 20 ks, aI G m7 20 wa, aI G m8 20 ne, aI G m9 4 mn, aI G m10 400 tx, aI G m11 6 th, aI G m12 6 od, aI G m13 30 bk, aI G m14 30 bh] → va_S A s.heap H locs → lv_has ls 4 [(3, .int x3_16), (2, .int x2_4), (0, .ref m0), (1, .int x)] → W p l e R s m args below meth c H locs 0 0 Q (F0 m 24 ls []) := by
            intro n_38
            induction n_38 with
            | zero => intro fm1_15 x3_16 H locs ls hm; exact absurd hm (Nat.not_lt_zero _)
            | succ n_38 ih_19 =>
              intro fm1_15 x3_16 H locs ls hI_20 hi hP hD hS hl
              have hv := hs_37 fm1_15 x3_16 hi
              refine lv_iload_n hx hb dX8_drift_24 rfl (lv_at hl 0 rfl) ?_
              refine lv_aload_n hx hb dX8_drift_25 rfl (lv_at hl 2 rfl) ?_
              refine va_get (D := G.1) (ci := 8) (v := .ref m9) (C := RX8) (T := TX8) (N := 29) hx hb hts hinX8 hown hKK.1 hP 0 rfl rfl 8 (by decide) kl36 (fun _ h9 => h9) rfl dX8_drift_26 ?_
              refine lv_iconst (v := 1) hx hb dX8_drift_29 (by decide) ?_
              refine va_iald hx hb hKK.1 hP 9 0 rfl rfl (by unfold vp_in; decide) dX8_drift_30 ?_
              refine lv_icmp_ge (tgt := 45) hx hb dX8_drift_31 (by decide) (fun hc_21 => ?_) (fun hc_21 => ?_)
              · have hv := hv.1 hc_21
                refine lv_aload_n hx hb dX8_drift_45 rfl (lv_at hl 2 rfl) ?_
                refine lv_iconst (v := 0) hx hb dX8_drift_46 (by decide) ?_
                obtain ⟨gT_22, gNs_23, gNp_24, gX_25, gv_26, gM_27, hv⟩ := hv
                obtain ⟨hp, hv⟩ := hv
                refine x_calli (wr := []) (w' := fun (u : (Nat → Int64)) => [(m0, .inr (8, [.ref m1, .ref m2, .ref m3, .ref m4, .ref m5, .ref m6, .ref m7, .ref m8, .ref m9, .int fu, .int fd, .int fi, .int nu, .int nw, .int nf, .int bf, .int bn, .ref m10, .int ts, .int ap, .int fs, .int ln, .int fo, .int fa, .ref m11, .ref m12, .ref m13, .ref m14, .int wr])), aJ G m1 560 u, aZ G m2 2 ik, aI G m3 20 zs, aI G m4 20 cl, aI G m5 20 hs, aI G m6 20 ks, aI G m7 20 wa, aI G m8 20 ne, aI G m9 4 mn, aI G m10 400 tx, aI G m11 6 th, aI G m12 6 od, aI G m13 30 bk, aI G m14 30 bh]) (x_runV (As := [.int 0]) (rest := []) (n := 1) (C := RX8) (ci := 8) ⟨hx, hb, hml, hown, hts⟩ (k_X8_pass l G m0 m1 m2 m3 m4 m5 m6 m7 m8 m9 m10 m11 m12 m13 m14 _ fm1_15 ik zs cl hs ks wa ne mn tx th od bk bh fu fd fi nu nw nf bf bn ts ap fs ln fo fa wr 0 gT_22 gNs_23 gNp_24 gX_25 gv_26 gM_27 hp) gX8_drift_X8_pass rfl (by decide +kernel) ⟨Nat.le_trans (Nat.le_of_ble_eq_true rfl) hRf, Nat.le_trans (Nat.le_of_ble_eq_true rfl) hRl⟩ hKK hSS hS hA hP hD [0, 1, 2, 3, 4, 5, 6, 7, 8, 9, 10, 11, 12, 13, 14] (by decide) rfl rfl rfl 0 rfl rfl hl.1 rfl (Nat.le_of_ble_eq_true rfl) dX8_drift_47) hP hD hS hA [0, 1, 2, 3, 4, 5, 6, 7, 8, 9, 10, 11, 12, 13, 14] [] [0, 1, 2, 3, 4, 5, 6, 7, 8, 9, 10, 11, 12, 13, 14] rfl rfl (by decide) (by decide) (by decide) (fun _ => rfl) (fun r_28 u H locs hw hP hD hS => ?_)
                obtain ⟨mw2_29, rfl⟩ : ∃ z9_, z9_ = u := ⟨_, rfl⟩
                have hP : va_P G.1 vwCl [(m0, .inr (8, [.ref m1, .ref m2, .ref m3, .ref m4, .ref m5, .ref m6, .ref m7, .ref m8, .ref m9, .int fu, .int fd, .int fi, .int nu, .int nw, .int nf, .int bf, .int bn, .ref m10, .int ts, .int ap, .int fs, .int ln, .int fo, .int fa, .ref m11, .ref m12, .ref m13, .ref m14, .int wr])), aJ G m1 560 mw2_29, aZ G m2 2 ik, aI G m3 20 zs, aI G m4 20 cl, aI G m5 20 hs, aI G m6 20 ks, aI G m7 20 wa, aI G m8 20 ne, aI G m9 4 mn, aI G m10 400 tx, aI G m11 6 th, aI G m12 6 od, aI G m13 30 bk, aI G m14 30 bh] H := hP
                have hD : va_D A [(m0, .inr (8, [.ref m1, .ref m2, .ref m3, .ref m4, .ref m5, .ref m6, .ref m7, .ref m8, .ref m9, .int fu, .int fd, .int fi, .int nu, .int nw, .int nf, .int bf, .int bn, .ref m10, .int ts, .int ap, .int fs, .int ln, .int fo, .int fa, .ref m11, .ref m12, .ref m13, .ref m14, .int wr])), aJ G m1 560 mw2_29, aZ G m2 2 ik, aI G m3 20 zs, aI G m4 20 cl, aI G m5 20 hs, aI G m6 20 ks, aI G m7 20 wa, aI G m8 20 ne, aI G m9 4 mn, aI G m10 400 tx, aI G m11 6 th, aI G m12 6 od, aI G m13 30 bk, aI G m14 30 bh] := hD
                have hv := hv r_28 mw2_29 hw
                refine lv_istore_n (lv' := [(3, .int r_28), (2, .int x2_4), (0, .ref m0), (1, .int x)]) hx hb dX8_drift_50 rfl hl (by decide) rfl (fun ls hl => ?_)
                refine lv_iinc (v := (x2_4 + 1)) (lv' := [(2, .int (x2_4 + 1)), (3, .int r_28), (0, .ref m0), (1, .int x)]) hx hb dX8_drift_51 hl (k := 1) rfl rfl (by decide) rfl (fun ls hl => ?_)
                refine lv_goto (tgt := 17) hx hb dX8_drift_54 (by decide) ?_
                exact ih_7 _ _ _ _ _ (Nat.lt_of_lt_of_le hv.2 (Nat.le_of_lt_succ hI_8)) hv.1 hP hD hS (lv_sub hl [0, 2, 3] rfl)
              · have hv := hv.2 hc_21
                refine lv_aload_n hx hb dX8_drift_34 rfl (lv_at hl 2 rfl) ?_
                refine lv_iload_n hx hb dX8_drift_35 rfl (lv_at hl 0 rfl) ?_
                obtain ⟨gT_30, gNs_31, gNp_32, gv_33, gip_34, hv⟩ := hv
                obtain ⟨hp, hv⟩ := hv
                refine x_callv (wr := []) (w' := fun (u : (Nat → Int64)) => [(m0, .inr (8, [.ref m1, .ref m2, .ref m3, .ref m4, .ref m5, .ref m6, .ref m7, .ref m8, .ref m9, .int fu, .int fd, .int fi, .int nu, .int nw, .int nf, .int bf, .int bn, .ref m10, .int ts, .int ap, .int fs, .int ln, .int fo, .int fa, .ref m11, .ref m12, .ref m13, .ref m14, .int wr])), aJ G m1 560 u, aZ G m2 2 ik, aI G m3 20 zs, aI G m4 20 cl, aI G m5 20 hs, aI G m6 20 ks, aI G m7 20 wa, aI G m8 20 ne, aI G m9 4 mn, aI G m10 400 tx, aI G m11 6 th, aI G m12 6 od, aI G m13 30 bk, aI G m14 30 bh]) (x_runV (As := [.int x3_16]) (rest := []) (n := 1) (C := RX8) (ci := 8) ⟨hx, hb, hml, hown, hts⟩ (k_X8_wander l G m0 m1 m2 m3 m4 m5 m6 m7 m8 m9 m10 m11 m12 m13 m14 _ fm1_15 ik zs cl hs ks wa ne mn tx th od bk bh fu fd fi nu nw nf bf bn ts ap fs ln fo fa wr x3_16 gT_30 gNs_31 gNp_32 gv_33 gip_34 hp) gX8_drift_X8_wander rfl (by decide +kernel) ⟨Nat.le_trans (Nat.le_of_ble_eq_true rfl) hRf, Nat.le_trans (Nat.le_of_ble_eq_true rfl) hRl⟩ hKK hSS hS hA hP hD [0, 1, 2, 3, 4, 5, 6, 7, 8, 9, 10, 11, 12, 13, 14] (by decide) rfl rfl rfl 0 rfl rfl hl.1 rfl (Nat.le_of_ble_eq_true rfl) dX8_drift_36) hP hD hS hA [0, 1, 2, 3, 4, 5, 6, 7, 8, 9, 10, 11, 12, 13, 14] [] [0, 1, 2, 3, 4, 5, 6, 7, 8, 9, 10, 11, 12, 13, 14] rfl rfl (by decide) (by decide) (by decide) (fun _ => rfl) (fun  u H locs hw hP hD hS => ?_)
                obtain ⟨mw2_36, rfl⟩ : ∃ z9_, z9_ = u := ⟨_, rfl⟩
                have hP : va_P G.1 vwCl [(m0, .inr (8, [.ref m1, .ref m2, .ref m3, .ref m4, .ref m5, .ref m6, .ref m7, .ref m8, .ref m9, .int fu, .int fd, .int fi, .int nu, .int nw, .int nf, .int bf, .int bn, .ref m10, .int ts, .int ap, .int fs, .int ln, .int fo, .int fa, .ref m11, .ref m12, .ref m13, .ref m14, .int wr])), aJ G m1 560 mw2_36, aZ G m2 2 ik, aI G m3 20 zs, aI G m4 20 cl, aI G m5 20 hs, aI G m6 20 ks, aI G m7 20 wa, aI G m8 20 ne, aI G m9 4 mn, aI G m10 400 tx, aI G m11 6 th, aI G m12 6 od, aI G m13 30 bk, aI G m14 30 bh] H := hP
                have hD : va_D A [(m0, .inr (8, [.ref m1, .ref m2, .ref m3, .ref m4, .ref m5, .ref m6, .ref m7, .ref m8, .ref m9, .int fu, .int fd, .int fi, .int nu, .int nw, .int nf, .int bf, .int bn, .ref m10, .int ts, .int ap, .int fs, .int ln, .int fo, .int fa, .ref m11, .ref m12, .ref m13, .ref m14, .int wr])), aJ G m1 560 mw2_36, aZ G m2 2 ik, aI G m3 20 zs, aI G m4 20 cl, aI G m5 20 hs, aI G m6 20 ks, aI G m7 20 wa, aI G m8 20 ne, aI G m9 4 mn, aI G m10 400 tx, aI G m11 6 th, aI G m12 6 od, aI G m13 30 bk, aI G m14 30 bh] := hD
                have hv := hv mw2_36 hw
                refine lv_iinc (v := (x3_16 + 1)) (lv' := [(3, .int (x3_16 + 1)), (2, .int x2_4), (0, .ref m0), (1, .int x)]) hx hb dX8_drift_39 hl (k := 0) rfl rfl (by decide) rfl (fun ls hl => ?_)
                refine lv_goto (tgt := 24) hx hb dX8_drift_42 (by decide) ?_
                exact ih_19 _ _ _ _ _ (Nat.lt_of_lt_of_le hv.2 (Nat.le_of_lt_succ hI_20)) hv.1 hP hD hS hl
          exact Lm_39 _ _ _ _ _ _ (Nat.lt_succ_self _) hi0 hP hD hS hl
    exact Lm_42 _ _ _ _ _ _ (Nat.lt_succ_self _) hi0 hP hD hS hl
  · have hv := hv.2 (tv_eq.mp hc_2)
    refine lv_ldc (v := (-1000000002)) hx hb hown kl73 dX8_drift_12 ?_
    exact x_iret (v := (-1000000002)) mw hQ hx hb hr hlocks hS dX8_drift_14 hv hP hD
theorem v_X8_drift (l : Launch) (G : Gt) (m0 m1 m2 m3 m4 m5 m6 m7 m8 m9 m10 m11 m12 m13 m14 : Nat) (sz : Nat) (mw : Nat → Int64) (ik : Nat → Int32) (zs : Nat → Int32) (cl : Nat → Int32) (hs : Nat → Int32) (ks : Nat → Int32) (wa : Nat → Int32) (ne : Nat → Int32) (mn : Nat → Int32) (tx : Nat → Int32) (th : Nat → Int32) (od : Nat → Int32) (bk : Nat → Int32) (bh : Nat → Int32) (fu : Int32) (fd : Int32) (fi : Int32) (nu : Int32) (nw : Int32) (nf : Int32) (bf : Int32) (bn : Int32) (ts : Int32) (ap : Int32) (fs : Int32) (ln : Int32) (fo : Int32) (fa : Int32) (wr : Int32) (x : Int32) (T : Nat → Nat → Int) (Ns : Nat) (Np : Nat) (v : Nat → Int) (M : Int) (hp : TOK T Ns Np ∧ MT T Ns Np fu fd fi zs cl ks ne mn ∧ MR 0 mw v ∧ NOK T Ns Np (fun _ => 2 * M) M v ∧ M ≤ 900000) : (¬ x.toInt64 < 1 ∧ ¬ 999 < x.toInt64 → ∃ (I17_5 : (Nat → Int64) → Int32 → Prop) (μ17_6 : (Nat → Int64) → Int32 → Nat), I17_5 mw 0 ∧ (∀ (fm1_3 : (Nat → Int64)) (x2_4 : Int32), I17_5 fm1_3 x2_4 → (x ≤ x2_4 → ∃ (gT_10 : Nat → Nat → Int) (gNs_11 : Nat) (gNp_12 : Nat) (gv_13 : Nat → Int), ((TOK gT_10 gNs_11 gNp_12 ∧ MT gT_10 gNs_11 gNp_12 fu fd fi zs cl ks ne mn ∧ MR 0 fm1_3 gv_13) ∧ (∀ (r_14 : Int32), (r_14 = nI (zCs gT_10 gv_13 gNp_12)) → (r_14.toInt = (qDrift T Ns Np v x.toInt).1 ∧ MR 0 fm1_3 (qDrift T Ns Np v x.toInt).2 ∧ MF 0 mw fm1_3)))) ∧ (¬ (x ≤ x2_4) → ∃ (I24_17 : (Nat → Int64) → Int32 → Prop) (μ24_18 : (Nat → Int64) → Int32 → Nat), I24_17 fm1_3 0 ∧ (∀ (fm1_15 : (Nat → Int64)) (x3_16 : Int32), I24_17 fm1_15 x3_16 → ((mn 1) ≤ x3_16 → ∃ (gT_22 : Nat → Nat → Int) (gNs_23 : Nat) (gNp_24 : Nat) (gX_25 : Nat) (gv_26 : Nat → Int) (gM_27 : Int), ((TOK gT_22 gNs_23 gNp_24 ∧ MT gT_22 gNs_23 gNp_24 fu fd fi zs cl ks ne mn ∧ (0 : Int32) = nI gX_25 ∧ gX_25 + 140 ≤ 560 ∧ MR gX_25 fm1_15 gv_26 ∧ NOK gT_22 gNs_23 gNp_24 (fun _ => 2 * gM_27) gM_27 gv_26 ∧ gM_27 ≤ 1000000) ∧ (∀ (r_28 : Int32) (mw2_29 : Nat → Int64), (r_28 = nI (zCs gT_22 (zPass gT_22 gNs_23 gNp_24 gv_26) gNp_24) ∧ MR gX_25 mw2_29 (zPass gT_22 gNs_23 gNp_24 gv_26) ∧ MF gX_25 fm1_15 mw2_29) → (I17_5 mw2_29 (x2_4 + 1) ∧ μ17_6 mw2_29 (x2_4 + 1) < μ17_6 fm1_3 x2_4)))) ∧ (¬ ((mn 1) ≤ x3_16) → ∃ (gT_30 : Nat → Nat → Int) (gNs_31 : Nat) (gNp_32 : Nat) (gv_33 : Nat → Int) (gip_34 : Nat), ((TOK gT_30 gNs_31 gNp_32 ∧ MT gT_30 gNs_31 gNp_32 fu fd fi zs cl ks ne mn ∧ MR 0 fm1_15 gv_33 ∧ 0 ≤ gv_33 133 ∧ gv_33 133 < 2147483648 ∧ x3_16 = nI gip_34 ∧ gip_34 < gNp_32) ∧ (∀ (mw2_36 : Nat → Int64), (MR 0 mw2_36 (zWan gNs_31 gNp_32 gip_34 gv_33) ∧ MF 0 fm1_15 mw2_36) → (I24_17 mw2_36 (x3_16 + 1) ∧ μ24_18 mw2_36 (x3_16 + 1) < μ24_18 fm1_15 x3_16)))))))) ∧ (¬ (¬ x.toInt64 < 1 ∧ ¬ 999 < x.toInt64) → ((-1000000002) : Int32).toInt = (qDrift T Ns Np v x.toInt).1 ∧ MR 0 mw (qDrift T Ns Np v x.toInt).2 ∧ MF 0 mw mw) := by
  obtain ⟨hT, hC, hR, hO, hM⟩ := hp
  have t2 := hT.2.1
  have hnp := hC.2.1
  have ex : x.toInt64.toInt = x.toInt := i_l rfl
  have hc : (¬ x.toInt64 < 1 ∧ ¬ 999 < x.toInt64) ↔ (1 ≤ x.toInt ∧ x.toInt ≤ 999) := by
    rw [l_lt ex (show (1 : Int64).toInt = 1 from rfl), l_lt (show (999 : Int64).toInt = 999 from rfl) ex]
    omega
  simp only [hc]
  refine ⟨fun hq => ?_, fun h => by rw [qDrift, if_neg h]; exact ⟨rfl, hR, MF.rf 0 mw⟩⟩
  rw [qDrift, if_pos hq]
  obtain ⟨n, hn, rfl, hxn, hxt⟩ := in_nat (x := x) (n := 1000) (by omega) (by omega)
  rw [hxt]
  refine ⟨fun w z => ∃ i, i ≤ n ∧ z = nI i ∧ MR 0 w (zDrift T Ns Np v i) ∧ MF 0 mw w, fun _ z => n - z.toNatClampNeg, ⟨0, by omega, rfl, hR, MF.rf 0 mw⟩, ?_⟩
  rintro w z ⟨i, hi, rfl, hRi, hFi⟩
  have ei : (nI i).toNatClampNeg = i := nI_clamp (by omega)
  have ei1 : nI i + 1 = nI (i + 1) := nI_1 i
  have ej : (nI (i + 1)).toNatClampNeg = i + 1 := nI_clamp (by omega)
  simp only [ei, ei1, ej]
  refine ⟨fun h => ?_, fun h => ?_⟩
  · have e : n = i := by have := (nI_leI (a := n) (b := i) (by omega) (by omega)).mp h; omega
    subst e
    refine ⟨T, Ns, Np, _, ⟨hT, hC, hRi⟩, fun r hr => ⟨?_, hRi, hFi⟩⟩
    rw [hr, nI_toInt]
    have := zCs_lt T (zDrift T Ns Np v n) Np
    exact Nat.lt_trans this (Nat.pow_lt_pow_right (by omega) (by omega))
  · have hlt : i < n := by
      rcases Nat.lt_or_ge i n with q | q
      · exact q
      · exact absurd ((nI_leI (by omega) (by omega)).mpr q) h
    have hOi := zDrift_ok hT hO i
    refine ⟨fun w z => ∃ p, p ≤ Np ∧ z = nI p ∧ MR 0 w (zWans Ns Np (zDrift T Ns Np v i) p) ∧ MF 0 mw w, fun _ z => 9 - z.toNatClampNeg, ⟨0, by omega, rfl, hRi, hFi⟩, ?_⟩
    rintro w z ⟨p, hp, rfl, hRp, hFp⟩
    have ep : (nI p).toNatClampNeg = p := nI_clamp (by omega)
    have ep1 : nI p + 1 = nI (p + 1) := nI_1 p
    have ep2 : (nI (p + 1)).toNatClampNeg = p + 1 := nI_clamp (by omega)
    simp only [ep, ep1, ep2, hnp]
    have hOp := zWans_ok hT hOi p hp
    have bs := hOp.2.2.2.2.2.1
    refine ⟨fun h => ?_, fun h => ?_⟩
    · have e : Np = p := by have := (nI_leI (a := Np) (b := p) (by omega) (by omega)).mp h; omega
      subst e
      exact ⟨T, Ns, Np, 0, _, M + i, ⟨hT, hC, rfl, by omega, hRp, hOp, by omega⟩, fun r w2 hw => ⟨⟨i + 1, by omega, rfl, hw.2.1, hFp.tr hw.2.2⟩, by omega⟩⟩
    · have hlt2 : p < Np := by
        rcases Nat.lt_or_ge p Np with q | q
        · exact q
        · exact absurd ((nI_leI (by omega) (by omega)).mpr q) h
      exact ⟨T, Ns, Np, _, p, ⟨hT, hC, hRp, bs.1, bs.2, rfl, hlt2⟩, fun w2 hw => ⟨⟨p + 1, by omega, rfl, hw.1, hFp.tr hw.2⟩, by omega⟩⟩
theorem k_X8_drift (l : Launch) (G : Gt) (m0 m1 m2 m3 m4 m5 m6 m7 m8 m9 m10 m11 m12 m13 m14 : Nat) (sz : Nat) (mw : Nat → Int64) (ik : Nat → Int32) (zs : Nat → Int32) (cl : Nat → Int32) (hs : Nat → Int32) (ks : Nat → Int32) (wa : Nat → Int32) (ne : Nat → Int32) (mn : Nat → Int32) (tx : Nat → Int32) (th : Nat → Int32) (od : Nat → Int32) (bk : Nat → Int32) (bh : Nat → Int32) (fu : Int32) (fd : Int32) (fi : Int32) (nu : Int32) (nw : Int32) (nf : Int32) (bf : Int32) (bn : Int32) (ts : Int32) (ap : Int32) (fs : Int32) (ln : Int32) (fo : Int32) (fa : Int32) (wr : Int32) (x : Int32) (T : Nat → Nat → Int) (Ns : Nat) (Np : Nat) (v : Nat → Int) (M : Int) (hp : TOK T Ns Np ∧ MT T Ns Np fu fd fi zs cl ks ne mn ∧ MR 0 mw v ∧ NOK T Ns Np (fun _ => 2 * M) M v ∧ M ≤ 900000) : MetI l yX8_drift wsX8_drift 4 101 G [.ref m0, .int x] [(m0, .inr (8, [.ref m1, .ref m2, .ref m3, .ref m4, .ref m5, .ref m6, .ref m7, .ref m8, .ref m9, .int fu, .int fd, .int fi, .int nu, .int nw, .int nf, .int bf, .int bn, .ref m10, .int ts, .int ap, .int fs, .int ln, .int fo, .int fa, .ref m11, .ref m12, .ref m13, .ref m14, .int wr])), aJ G m1 560 mw, aZ G m2 2 ik, aI G m3 20 zs, aI G m4 20 cl, aI G m5 20 hs, aI G m6 20 ks, aI G m7 20 wa, aI G m8 20 ne, aI G m9 4 mn, aI G m10 400 tx, aI G m11 6 th, aI G m12 6 od, aI G m13 30 bk, aI G m14 30 bh] sz (fun (r : Int32) (u : (Nat → Int64)) => r.toInt = (qDrift T Ns Np v x.toInt).1 ∧ MR 0 u (qDrift T Ns Np v x.toInt).2 ∧ MF 0 mw u) (fun (u : (Nat → Int64)) => [(m0, .inr (8, [.ref m1, .ref m2, .ref m3, .ref m4, .ref m5, .ref m6, .ref m7, .ref m8, .ref m9, .int fu, .int fd, .int fi, .int nu, .int nw, .int nf, .int bf, .int bn, .ref m10, .int ts, .int ap, .int fs, .int ln, .int fo, .int fa, .ref m11, .ref m12, .ref m13, .ref m14, .int wr])), aJ G m1 560 u, aZ G m2 2 ik, aI G m3 20 zs, aI G m4 20 cl, aI G m5 20 hs, aI G m6 20 ks, aI G m7 20 wa, aI G m8 20 ne, aI G m9 4 mn, aI G m10 400 tx, aI G m11 6 th, aI G m12 6 od, aI G m13 30 bk, aI G m14 30 bh]) :=
  c_X8_drift l G m0 m1 m2 m3 m4 m5 m6 m7 m8 m9 m10 m11 m12 m13 m14 sz mw ik zs cl hs ks wa ne mn tx th od bk bh fu fd fi nu nw nf bf bn ts ap fs ln fo fa wr x T Ns Np v M (v_X8_drift l G m0 m1 m2 m3 m4 m5 m6 m7 m8 m9 m10 m11 m12 m13 m14 sz mw ik zs cl hs ks wa ne mn tx th od bk bh fu fd fi nu nw nf bf bn ts ap fs ln fo fa wr x T Ns Np v M hp)

set_option maxHeartbeats 4000000 in
set_option maxRecDepth 100000 in
theorem c_X8_own (l : Launch) (G : Gt) (m0 m1 m2 m3 m4 m5 m6 m7 m8 m9 m10 m11 m12 m13 m14 : Nat) (sz : Nat) (mw : Nat → Int64) (ik : Nat → Int32) (zs : Nat → Int32) (cl : Nat → Int32) (hs : Nat → Int32) (ks : Nat → Int32) (wa : Nat → Int32) (ne : Nat → Int32) (mn : Nat → Int32) (tx : Nat → Int32) (th : Nat → Int32) (od : Nat → Int32) (bk : Nat → Int32) (bh : Nat → Int32) (fu : Int32) (fd : Int32) (fi : Int32) (nu : Int32) (nw : Int32) (nf : Int32) (bf : Int32) (bn : Int32) (ts : Int32) (ap : Int32) (fs : Int32) (ln : Int32) (fo : Int32) (fa : Int32) (wr : Int32) (x : Int32) (y : Int32) (z : Int32) (T : Nat → Nat → Int) (Ns : Nat) (Np : Nat) (v : Nat → Int) (M : Int) (hv : (¬ (inR x (mn 1)) → ((-1000000001) : Int32).toInt = (qOwn Ns Np v x.toInt y.toInt z.toInt).1 ∧ MR 0 mw (qOwn Ns Np v x.toInt y.toInt z.toInt).2 ∧ MF 0 mw mw) ∧ (inR x (mn 1) → (inR y (mn 0) → (¬ z.toInt64 < 1 ∧ ¬ 9999 < z.toInt64 → ∀ (y_7 : Int32), (y_7 = ((60 + (9 * x)) + y)) → ((vp_in y_7 560) ∧ ((vp_in y_7 560) ∧ (∀ (fm1_9 : (Nat → Int64)), (fm1_9 = (vp_updL mw y_7.toNatClampNeg (if 99999 < ((mw y_7.toNatClampNeg) + z.toInt64) then 99999 else ((mw y_7.toNatClampNeg) + z.toInt64)))) → ((vp_in y_7 560) ∧ (((fm1_9 y_7.toNatClampNeg).toInt32).toInt = (qOwn Ns Np v x.toInt y.toInt z.toInt).1 ∧ MR 0 fm1_9 (qOwn Ns Np v x.toInt y.toInt z.toInt).2 ∧ MF 0 mw fm1_9)))))) ∧ (¬ (¬ z.toInt64 < 1 ∧ ¬ 9999 < z.toInt64) → ((-1000000002) : Int32).toInt = (qOwn Ns Np v x.toInt y.toInt z.toInt).1 ∧ MR 0 mw (qOwn Ns Np v x.toInt y.toInt z.toInt).2 ∧ MF 0 mw mw)) ∧ (¬ (inR y (mn 0)) → ((-1000000001) : Int32).toInt = (qOwn Ns Np v x.toInt y.toInt z.toInt).1 ∧ MR 0 mw (qOwn Ns Np v x.toInt y.toInt z.toInt).2 ∧ MF 0 mw mw))) : MetI l yX8_own wsX8_own 2 46 G [.ref m0, .int x, .int y, .int z] [(m0, .inr (8, [.ref m1, .ref m2, .ref m3, .ref m4, .ref m5, .ref m6, .ref m7, .ref m8, .ref m9, .int fu, .int fd, .int fi, .int nu, .int nw, .int nf, .int bf, .int bn, .ref m10, .int ts, .int ap, .int fs, .int ln, .int fo, .int fa, .ref m11, .ref m12, .ref m13, .ref m14, .int wr])), aJ G m1 560 mw, aZ G m2 2 ik, aI G m3 20 zs, aI G m4 20 cl, aI G m5 20 hs, aI G m6 20 ks, aI G m7 20 wa, aI G m8 20 ne, aI G m9 4 mn, aI G m10 400 tx, aI G m11 6 th, aI G m12 6 od, aI G m13 30 bk, aI G m14 30 bh] sz (fun (r : Int32) (u : (Nat → Int64)) => r.toInt = (qOwn Ns Np v x.toInt y.toInt z.toInt).1 ∧ MR 0 u (qOwn Ns Np v x.toInt y.toInt z.toInt).2 ∧ MF 0 mw u) (fun (u : (Nat → Int64)) => [(m0, .inr (8, [.ref m1, .ref m2, .ref m3, .ref m4, .ref m5, .ref m6, .ref m7, .ref m8, .ref m9, .int fu, .int fd, .int fi, .int nu, .int nw, .int nf, .int bf, .int bn, .ref m10, .int ts, .int ap, .int fs, .int ln, .int fo, .int fa, .ref m11, .ref m12, .ref m13, .ref m14, .int wr])), aJ G m1 560 u, aZ G m2 2 ik, aI G m3 20 zs, aI G m4 20 cl, aI G m5 20 hs, aI G m6 20 ks, aI G m7 20 wa, aI G m8 20 ne, aI G m9 4 mn, aI G m10 400 tx, aI G m11 6 th, aI G m12 6 od, aI G m13 30 bk, aI G m14 30 bh]) := by
  refine x_startI (cc := cX8_own) (maxL := 5) (ret := (some .int)) (by decide) rfl (Nat.le_of_ble_eq_true rfl) ?_
  intro p e s m args below meth c A R Q ls hRf hRl hQ C hP hD hS hA hSS hl
  obtain ⟨hx, hb, hr, hml, hown, hts, hlocks, hKK⟩ := C
  have hown : s.vm.findClass RX8 = some m.cls := hown
  have hl : lv_has ls 5 [(0, .ref m0), (1, .int x), (2, .int y), (3, .int z)] := hl
  have hinX8 : ∀ w ∈ u_ws RX8 TX8 29, w ∈ wsX8_own := by decide +kernel
  have kl164 := hts (.constant RX8 164 (-1000000001)) (by decide +kernel)
  have kl222 := hts (.constantLong RX8 222 (9999)) (by decide +kernel)
  have kl224 := hts (.constantLong RX8 224 (99999)) (by decide +kernel)
  have kl7 := hts (.fieldLink RX8 7 "WarmStonesModel" "w" "[J") (by decide +kernel)
  have kl73 := hts (.constant RX8 73 (-1000000002)) (by decide +kernel)
  refine lv_aload_n hx hb dX8_own_0 rfl (lv_at hl 0 rfl) ?_
  refine lv_iload_n hx hb dX8_own_1 rfl (lv_at hl 1 rfl) ?_
  refine x_calliR (x_runV (As := [.int x]) (rest := []) (n := 1) (C := RX8) (ci := 8) ⟨hx, hb, hml, hown, hts⟩ (k_X8_isPerson l G m0 m1 m2 m3 m4 m5 m6 m7 m8 m9 m10 m11 m12 m13 m14 _ mw ik zs cl hs ks wa ne mn tx th od bk bh fu fd fi nu nw nf bf bn ts ap fs ln fo fa wr x) gX8_own_X8_isPerson rfl (by decide +kernel) ⟨Nat.le_trans (Nat.le_of_ble_eq_true rfl) hRf, Nat.le_trans (Nat.le_of_ble_eq_true rfl) hRl⟩ hKK hSS hS hA hP hD [0, 1, 2, 3, 4, 5, 6, 7, 8, 9, 10, 11, 12, 13, 14] (by decide) rfl rfl rfl 0 rfl rfl hl.1 rfl (Nat.le_of_ble_eq_true rfl) dX8_own_2) hP hD hS hA [0, 1, 2, 3, 4, 5, 6, 7, 8, 9, 10, 11, 12, 13, 14] rfl (fun r_1 _ H locs hw hP hS => ?_)
  replace hw := hw.symm; subst hw
  refine lv_if_eq (tgt := 16) hx hb dX8_own_5 (by decide) (fun hc_2 => ?_) (fun hc_2 => ?_)
  · have hv := hv.1 (tv_eq.mp hc_2)
    refine lv_ldc (v := (-1000000001)) hx hb hown kl164 dX8_own_16 ?_
    exact x_iret (v := (-1000000001)) mw hQ hx hb hr hlocks hS dX8_own_18 hv hP hD
  · have hv := hv.2 (tv_eqn.mp hc_2)
    refine lv_aload_n hx hb dX8_own_8 rfl (lv_at hl 0 rfl) ?_
    refine lv_iload_n hx hb dX8_own_9 rfl (lv_at hl 2 rfl) ?_
    refine x_calliR (x_runV (As := [.int y]) (rest := []) (n := 1) (C := RX8) (ci := 8) ⟨hx, hb, hml, hown, hts⟩ (k_X8_isStone l G m0 m1 m2 m3 m4 m5 m6 m7 m8 m9 m10 m11 m12 m13 m14 _ mw ik zs cl hs ks wa ne mn tx th od bk bh fu fd fi nu nw nf bf bn ts ap fs ln fo fa wr y) gX8_own_X8_isStone rfl (by decide +kernel) ⟨Nat.le_trans (Nat.le_of_ble_eq_true rfl) hRf, Nat.le_trans (Nat.le_of_ble_eq_true rfl) hRl⟩ hKK hSS hS hA hP hD [0, 1, 2, 3, 4, 5, 6, 7, 8, 9, 10, 11, 12, 13, 14] (by decide) rfl rfl rfl 0 rfl rfl hl.1 rfl (Nat.le_of_ble_eq_true rfl) dX8_own_10) hP hD hS hA [0, 1, 2, 3, 4, 5, 6, 7, 8, 9, 10, 11, 12, 13, 14] rfl (fun r_3 _ H locs hw hP hS => ?_)
    replace hw := hw.symm; subst hw
    refine lv_if_ne (tgt := 19) hx hb dX8_own_13 (by decide) (fun hc_4 => ?_) (fun hc_4 => ?_)
    · have hv := hv.1 (tv_eqn.mp hc_4)
      refine lv_iload_n hx hb dX8_own_19 rfl (lv_at hl 3 rfl) ?_
      refine lv_i2l hx hb dX8_own_20 rfl ?_
      refine lv_lconst (v := 1) hx hb dX8_own_21 (by decide) ?_
      refine lv_ldc2 (v := 9999) hx hb hown kl222 dX8_own_22 ?_
      refine x_calliR (x_runS (As := [.long z.toInt64, .long 1, .long 9999]) (rest := []) (n := 3) ⟨hx, hb, hml, hown, hts⟩ (k_X8_in l G  _ z.toInt64 1 9999) gX8_own_X8_in rfl (by decide +kernel) ⟨Nat.le_trans (Nat.le_of_ble_eq_true rfl) hRf, Nat.le_trans (Nat.le_of_ble_eq_true rfl) hRl⟩ hKK hSS hS hA hP hD [] (by decide) rfl rfl hl.1 rfl (Nat.le_of_ble_eq_true rfl) dX8_own_25) hP hD hS hA [] rfl (fun r_5 _ H locs hw hP hS => ?_)
      replace hw := hw.symm; subst hw
      refine lv_if_ne (tgt := 34) hx hb dX8_own_28 (by decide) (fun hc_6 => ?_) (fun hc_6 => ?_)
      · have hv := hv.1 (tv_eqn.mp hc_6)
        refine lv_bipush (v := 60) hx hb dX8_own_34 (by decide) ?_
        refine lv_bipush (v := 9) hx hb dX8_own_36 (by decide) ?_
        refine lv_iload_n hx hb dX8_own_38 rfl (lv_at hl 1 rfl) ?_
        refine lv_imul hx hb dX8_own_39 ?_
        refine lv_iadd hx hb dX8_own_40 ?_
        refine lv_iload_n hx hb dX8_own_41 rfl (lv_at hl 2 rfl) ?_
        refine lv_iadd hx hb dX8_own_42 ?_
        refine lv_topi (fun y_7 ey => ?_)
        have hv := hv y_7 ey
        refine lv_istore (lv' := [(4, .int y_7), (0, .ref m0), (1, .int x), (2, .int y), (3, .int z)]) hx hb dX8_own_43 hl (by decide) rfl (fun ls hl => ?_)
        refine lv_aload_n hx hb dX8_own_45 rfl (lv_at hl 1 rfl) ?_
        refine va_get (D := G.1) (ci := 8) (v := .ref m1) (C := RX8) (T := TX8) (N := 29) hx hb hts hinX8 hown hKK.1 hP 0 rfl rfl 0 (by decide) kl7 (fun _ h9 => h9) rfl dX8_own_46 ?_
        refine lv_iload hx hb dX8_own_49 (lv_at hl 0 rfl) ?_
        refine lv_ldc2 (v := 99999) hx hb hown kl224 dX8_own_51 ?_
        refine lv_aload_n hx hb dX8_own_54 rfl (lv_at hl 1 rfl) ?_
        refine va_get (D := G.1) (ci := 8) (v := .ref m1) (C := RX8) (T := TX8) (N := 29) hx hb hts hinX8 hown hKK.1 hP 0 rfl rfl 0 (by decide) kl7 (fun _ h9 => h9) rfl dX8_own_55 ?_
        refine lv_iload hx hb dX8_own_58 (lv_at hl 0 rfl) ?_
        obtain ⟨hin, hv⟩ := hv
        refine va_lald hx hb hKK.1 hP 1 2 rfl rfl hin dX8_own_60 ?_
        refine lv_iload_n hx hb dX8_own_61 rfl (lv_at hl 4 rfl) ?_
        refine lv_i2l hx hb dX8_own_62 rfl ?_
        refine lv_ladd hx hb dX8_own_63 ?_
        refine x_calllR (x_runS (As := [.long 99999, .long ((mw y_7.toNatClampNeg) + z.toInt64)]) (rest := [.int y_7, .ref m1]) (n := 2) ⟨hx, hb, hml, hown, hts⟩ (k_X8_less l G  _ 99999 ((mw y_7.toNatClampNeg) + z.toInt64)) gX8_own_X8_less rfl (by decide +kernel) ⟨Nat.le_trans (Nat.le_of_ble_eq_true rfl) hRf, Nat.le_trans (Nat.le_of_ble_eq_true rfl) hRl⟩ hKK hSS hS hA hP hD [] (by decide) rfl rfl hl.1 rfl (Nat.le_of_ble_eq_true rfl) dX8_own_64) hP hD hS hA [] rfl (fun r_8 _ H locs hw hP hS => ?_)
        replace hw := hw.symm; subst hw
        obtain ⟨hin, hv⟩ := hv
        refine va_last hx hb hKK.1 hP hD hS 1 2 rfl rfl hin dX8_own_67 (fun H locs hP hD hS => ?_)
        obtain ⟨fm1_9, ef⟩ : ∃ z9_, z9_ = (vp_updL mw y_7.toNatClampNeg (if 99999 < ((mw y_7.toNatClampNeg) + z.toInt64) then 99999 else ((mw y_7.toNatClampNeg) + z.toInt64))) := ⟨_, rfl⟩
        have hP : va_P G.1 vwCl [(m0, .inr (8, [.ref m1, .ref m2, .ref m3, .ref m4, .ref m5, .ref m6, .ref m7, .ref m8, .ref m9, .int fu, .int fd, .int fi, .int nu, .int nw, .int nf, .int bf, .int bn, .ref m10, .int ts, .int ap, .int fs, .int ln, .int fo, .int fa, .ref m11, .ref m12, .ref m13, .ref m14, .int wr])), aJ G m1 560 fm1_9, aZ G m2 2 ik, aI G m3 20 zs, aI G m4 20 cl, aI G m5 20 hs, aI G m6 20 ks, aI G m7 20 wa, aI G m8 20 ne, aI G m9 4 mn, aI G m10 400 tx, aI G m11 6 th, aI G m12 6 od, aI G m13 30 bk, aI G m14 30 bh] H := by rw [ef]; exact hP
        have hD : va_D A [(m0, .inr (8, [.ref m1, .ref m2, .ref m3, .ref m4, .ref m5, .ref m6, .ref m7, .ref m8, .ref m9, .int fu, .int fd, .int fi, .int nu, .int nw, .int nf, .int bf, .int bn, .ref m10, .int ts, .int ap, .int fs, .int ln, .int fo, .int fa, .ref m11, .ref m12, .ref m13, .ref m14, .int wr])), aJ G m1 560 fm1_9, aZ G m2 2 ik, aI G m3 20 zs, aI G m4 20 cl, aI G m5 20 hs, aI G m6 20 ks, aI G m7 20 wa, aI G m8 20 ne, aI G m9 4 mn, aI G m10 400 tx, aI G m11 6 th, aI G m12 6 od, aI G m13 30 bk, aI G m14 30 bh] := by rw [ef]; exact hD
        have hv := hv fm1_9 ef
        refine lv_aload_n hx hb dX8_own_68 rfl (lv_at hl 1 rfl) ?_
        refine va_get (D := G.1) (ci := 8) (v := .ref m1) (C := RX8) (T := TX8) (N := 29) hx hb hts hinX8 hown hKK.1 hP 0 rfl rfl 0 (by decide) kl7 (fun _ h9 => h9) rfl dX8_own_69 ?_
        refine lv_iload hx hb dX8_own_72 (lv_at hl 0 rfl) ?_
        obtain ⟨hin, hv⟩ := hv
        refine va_lald hx hb hKK.1 hP 1 2 rfl rfl hin dX8_own_74 ?_
        refine lv_l2i hx hb dX8_own_75 rfl ?_
        exact x_iret (v := (fm1_9 y_7.toNatClampNeg).toInt32) fm1_9 hQ hx hb hr hlocks hS dX8_own_76 hv hP hD
      · have hv := hv.2 (tv_eq.mp hc_6)
        refine lv_ldc (v := (-1000000002)) hx hb hown kl73 dX8_own_31 ?_
        exact x_iret (v := (-1000000002)) mw hQ hx hb hr hlocks hS dX8_own_33 hv hP hD
    · have hv := hv.2 (tv_eq.mp hc_4)
      refine lv_ldc (v := (-1000000001)) hx hb hown kl164 dX8_own_16 ?_
      exact x_iret (v := (-1000000001)) mw hQ hx hb hr hlocks hS dX8_own_18 hv hP hD
theorem v_X8_own (l : Launch) (G : Gt) (m0 m1 m2 m3 m4 m5 m6 m7 m8 m9 m10 m11 m12 m13 m14 : Nat) (sz : Nat) (mw : Nat → Int64) (ik : Nat → Int32) (zs : Nat → Int32) (cl : Nat → Int32) (hs : Nat → Int32) (ks : Nat → Int32) (wa : Nat → Int32) (ne : Nat → Int32) (mn : Nat → Int32) (tx : Nat → Int32) (th : Nat → Int32) (od : Nat → Int32) (bk : Nat → Int32) (bh : Nat → Int32) (fu : Int32) (fd : Int32) (fi : Int32) (nu : Int32) (nw : Int32) (nf : Int32) (bf : Int32) (bn : Int32) (ts : Int32) (ap : Int32) (fs : Int32) (ln : Int32) (fo : Int32) (fa : Int32) (wr : Int32) (x : Int32) (y : Int32) (z : Int32) (T : Nat → Nat → Int) (Ns : Nat) (Np : Nat) (v : Nat → Int) (M : Int) (hp : TOK T Ns Np ∧ MT T Ns Np fu fd fi zs cl ks ne mn ∧ MR 0 mw v ∧ NOK T Ns Np (fun _ => 2 * M) M v ∧ M ≤ 900000) : (¬ (inR x (mn 1)) → ((-1000000001) : Int32).toInt = (qOwn Ns Np v x.toInt y.toInt z.toInt).1 ∧ MR 0 mw (qOwn Ns Np v x.toInt y.toInt z.toInt).2 ∧ MF 0 mw mw) ∧ (inR x (mn 1) → (inR y (mn 0) → (¬ z.toInt64 < 1 ∧ ¬ 9999 < z.toInt64 → ∀ (y_7 : Int32), (y_7 = ((60 + (9 * x)) + y)) → ((vp_in y_7 560) ∧ ((vp_in y_7 560) ∧ (∀ (fm1_9 : (Nat → Int64)), (fm1_9 = (vp_updL mw y_7.toNatClampNeg (if 99999 < ((mw y_7.toNatClampNeg) + z.toInt64) then 99999 else ((mw y_7.toNatClampNeg) + z.toInt64)))) → ((vp_in y_7 560) ∧ (((fm1_9 y_7.toNatClampNeg).toInt32).toInt = (qOwn Ns Np v x.toInt y.toInt z.toInt).1 ∧ MR 0 fm1_9 (qOwn Ns Np v x.toInt y.toInt z.toInt).2 ∧ MF 0 mw fm1_9)))))) ∧ (¬ (¬ z.toInt64 < 1 ∧ ¬ 9999 < z.toInt64) → ((-1000000002) : Int32).toInt = (qOwn Ns Np v x.toInt y.toInt z.toInt).1 ∧ MR 0 mw (qOwn Ns Np v x.toInt y.toInt z.toInt).2 ∧ MF 0 mw mw)) ∧ (¬ (inR y (mn 0)) → ((-1000000001) : Int32).toInt = (qOwn Ns Np v x.toInt y.toInt z.toInt).1 ∧ MR 0 mw (qOwn Ns Np v x.toInt y.toInt z.toInt).2 ∧ MF 0 mw mw)) := by
  obtain ⟨hT, hC, hR, hO, hM⟩ := hp
  have t1 := hT.1
  have t2 := hT.2.1
  have hp_ := inR_iff (x := x) hC.2.1 (by omega)
  have hs_ := inR_iff (x := y) hC.1 (by omega)
  have ez : z.toInt64.toInt = z.toInt := i_l rfl
  have hz_ : (¬ z.toInt64 < 1 ∧ ¬ 9999 < z.toInt64) ↔ (1 ≤ z.toInt ∧ z.toInt ≤ 9999) := by
    rw [l_lt ez (show (1 : Int64).toInt = 1 from rfl), l_lt (show (9999 : Int64).toInt = 9999 from rfl) ez]
    omega
  simp only [hp_, hs_, hz_]
  refine ⟨fun h1 => ?_, fun h1 => ⟨fun h2 => ⟨fun h3 => ?_, fun h3 => ?_⟩, fun h2 => ?_⟩⟩
  · rw [qOwn, if_pos (Or.inl h1)]; exact ⟨rfl, hR, MF.rf 0 mw⟩
  · rw [qOwn, if_neg (fun q => q.elim (fun q => q h1) (fun q => q h2)), if_neg (fun q => q h3)]
    obtain ⟨i, hi, rfl, hxi, hxt⟩ := in_nat h1 (by omega)
    obtain ⟨b, hb, rfl, hyb, hyt⟩ := in_nat h2 (by omega)
    rw [hxt, hyt]
    intro k ek
    have e : ∀ i b : Nat, 60 + 9 * nI i + nI b = nI (60 + (9 * i + b)) := fun i b => by rw [show (9 : Int32) = nI 9 from rfl, show (60 : Int32) = nI 60 from rfl, pk_mul, nI_add, nI_add, Nat.add_assoc]
    rw [e] at ek
    subst ek
    have c : (nI (60 + (9 * i + b))).toNatClampNeg = 60 + (9 * i + b) := nI_clamp (by omega)
    have bo := hO.2.2.2.1 i b hi hb
    have vo : vp_in (nI (60 + (9 * i + b))) 560 := vp_in_nI (by omega) (by omega)
    simp only [c]
    refine ⟨vo, vo, fun w ew => ⟨vo, ?_⟩⟩
    have eo := hR.z (i := 60 + (9 * i + b)) (by omega)
    have ea := l_add eo ez (by omega) (by omega)
    have em : (if 99999 < mw (60 + (9 * i + b)) + z.toInt64 then 99999 else mw (60 + (9 * i + b)) + z.toInt64).toInt = minZ (v (60 + (9 * i + b)) + z.toInt) 99999 := l_if (l_lt (show (99999 : Int64).toInt = 99999 from rfl) ea) (show (99999 : Int64).toInt = 99999 from rfl) ea
    have hR1 : MR 0 w (uz v (60 + (9 * i + b)) (minZ (v (60 + (9 * i + b)) + z.toInt) 99999)) := by rw [ew]; exact hR.u0 em
    have mb := minZ_bd (x := v (60 + (9 * i + b)) + z.toInt) (y := 99999) (by omega) (by omega)
    refine ⟨?_, hR1, by rw [ew]; exact (MF.rf 0 mw).u0 (by omega)⟩
    have := hR1.z (i := 60 + (9 * i + b)) (by omega)
    rw [uz_eq] at this
    exact l_iZ this (by omega) (by omega)
  · rw [qOwn, if_neg (fun q => q.elim (fun q => q h1) (fun q => q h2)), if_pos h3]; exact ⟨rfl, hR, MF.rf 0 mw⟩
  · rw [qOwn, if_pos (Or.inr h2)]; exact ⟨rfl, hR, MF.rf 0 mw⟩
theorem k_X8_own (l : Launch) (G : Gt) (m0 m1 m2 m3 m4 m5 m6 m7 m8 m9 m10 m11 m12 m13 m14 : Nat) (sz : Nat) (mw : Nat → Int64) (ik : Nat → Int32) (zs : Nat → Int32) (cl : Nat → Int32) (hs : Nat → Int32) (ks : Nat → Int32) (wa : Nat → Int32) (ne : Nat → Int32) (mn : Nat → Int32) (tx : Nat → Int32) (th : Nat → Int32) (od : Nat → Int32) (bk : Nat → Int32) (bh : Nat → Int32) (fu : Int32) (fd : Int32) (fi : Int32) (nu : Int32) (nw : Int32) (nf : Int32) (bf : Int32) (bn : Int32) (ts : Int32) (ap : Int32) (fs : Int32) (ln : Int32) (fo : Int32) (fa : Int32) (wr : Int32) (x : Int32) (y : Int32) (z : Int32) (T : Nat → Nat → Int) (Ns : Nat) (Np : Nat) (v : Nat → Int) (M : Int) (hp : TOK T Ns Np ∧ MT T Ns Np fu fd fi zs cl ks ne mn ∧ MR 0 mw v ∧ NOK T Ns Np (fun _ => 2 * M) M v ∧ M ≤ 900000) : MetI l yX8_own wsX8_own 2 46 G [.ref m0, .int x, .int y, .int z] [(m0, .inr (8, [.ref m1, .ref m2, .ref m3, .ref m4, .ref m5, .ref m6, .ref m7, .ref m8, .ref m9, .int fu, .int fd, .int fi, .int nu, .int nw, .int nf, .int bf, .int bn, .ref m10, .int ts, .int ap, .int fs, .int ln, .int fo, .int fa, .ref m11, .ref m12, .ref m13, .ref m14, .int wr])), aJ G m1 560 mw, aZ G m2 2 ik, aI G m3 20 zs, aI G m4 20 cl, aI G m5 20 hs, aI G m6 20 ks, aI G m7 20 wa, aI G m8 20 ne, aI G m9 4 mn, aI G m10 400 tx, aI G m11 6 th, aI G m12 6 od, aI G m13 30 bk, aI G m14 30 bh] sz (fun (r : Int32) (u : (Nat → Int64)) => r.toInt = (qOwn Ns Np v x.toInt y.toInt z.toInt).1 ∧ MR 0 u (qOwn Ns Np v x.toInt y.toInt z.toInt).2 ∧ MF 0 mw u) (fun (u : (Nat → Int64)) => [(m0, .inr (8, [.ref m1, .ref m2, .ref m3, .ref m4, .ref m5, .ref m6, .ref m7, .ref m8, .ref m9, .int fu, .int fd, .int fi, .int nu, .int nw, .int nf, .int bf, .int bn, .ref m10, .int ts, .int ap, .int fs, .int ln, .int fo, .int fa, .ref m11, .ref m12, .ref m13, .ref m14, .int wr])), aJ G m1 560 u, aZ G m2 2 ik, aI G m3 20 zs, aI G m4 20 cl, aI G m5 20 hs, aI G m6 20 ks, aI G m7 20 wa, aI G m8 20 ne, aI G m9 4 mn, aI G m10 400 tx, aI G m11 6 th, aI G m12 6 od, aI G m13 30 bk, aI G m14 30 bh]) :=
  c_X8_own l G m0 m1 m2 m3 m4 m5 m6 m7 m8 m9 m10 m11 m12 m13 m14 sz mw ik zs cl hs ks wa ne mn tx th od bk bh fu fd fi nu nw nf bf bn ts ap fs ln fo fa wr x y z T Ns Np v M (v_X8_own l G m0 m1 m2 m3 m4 m5 m6 m7 m8 m9 m10 m11 m12 m13 m14 sz mw ik zs cl hs ks wa ne mn tx th od bk bh fu fd fi nu nw nf bf bn ts ap fs ln fo fa wr x y z T Ns Np v M hp)

set_option maxHeartbeats 4000000 in
set_option maxRecDepth 100000 in
theorem c_X8_trade (l : Launch) (G : Gt) (m0 m1 m2 m3 m4 m5 m6 m7 m8 m9 m10 m11 m12 m13 m14 : Nat) (sz : Nat) (mw : Nat → Int64) (ik : Nat → Int32) (zs : Nat → Int32) (cl : Nat → Int32) (hs : Nat → Int32) (ks : Nat → Int32) (wa : Nat → Int32) (ne : Nat → Int32) (mn : Nat → Int32) (tx : Nat → Int32) (th : Nat → Int32) (od : Nat → Int32) (bk : Nat → Int32) (bh : Nat → Int32) (fu : Int32) (fd : Int32) (fi : Int32) (nu : Int32) (nw : Int32) (nf : Int32) (bf : Int32) (bn : Int32) (ts : Int32) (ap : Int32) (fs : Int32) (ln : Int32) (fo : Int32) (fa : Int32) (wr : Int32) (x : Int32) (y : Int32) (z : Int32) (u_ : Int32) (T : Nat → Nat → Int) (Ns : Nat) (Np : Nat) (v : Nat → Int) (M : Int) (hv : (¬ (inR x (mn 1)) → ((-1000000001) : Int32).toInt = (qTrade Ns Np v x.toInt y.toInt z.toInt u_.toInt).1 ∧ MR 0 mw (qTrade Ns Np v x.toInt y.toInt z.toInt u_.toInt).2 ∧ MF 0 mw mw) ∧ (inR x (mn 1) → (¬ (inR y (mn 1)) → ((-1000000001) : Int32).toInt = (qTrade Ns Np v x.toInt y.toInt z.toInt u_.toInt).1 ∧ MR 0 mw (qTrade Ns Np v x.toInt y.toInt z.toInt u_.toInt).2 ∧ MF 0 mw mw) ∧ (inR y (mn 1) → (x = y → ((-1000000001) : Int32).toInt = (qTrade Ns Np v x.toInt y.toInt z.toInt u_.toInt).1 ∧ MR 0 mw (qTrade Ns Np v x.toInt y.toInt z.toInt u_.toInt).2 ∧ MF 0 mw mw) ∧ (¬ (x = y) → (inR z (mn 0) → (¬ u_.toInt64 < 1 ∧ ¬ 9999 < u_.toInt64 → ∀ (y_10 : Int32), (y_10 = ((60 + (9 * x)) + z)) → (∀ (y_11 : Int32), (y_11 = ((60 + (9 * y)) + z)) → ((vp_in y_10 560) ∧ ((u_.toInt64 ≤ (mw y_10.toNatClampNeg) → (vp_in y_11 560) ∧ ((((mw y_11.toNatClampNeg) + u_.toInt64) ≤ 99999 → (vp_in y_10 560) ∧ ((vp_in y_10 560) ∧ (∀ (fm1_14 : (Nat → Int64)), (fm1_14 = (vp_updL mw y_10.toNatClampNeg ((mw y_10.toNatClampNeg) - u_.toInt64))) → ((vp_in y_11 560) ∧ ((vp_in y_11 560) ∧ (∀ (fm1_15 : (Nat → Int64)), (fm1_15 = (vp_updL fm1_14 y_11.toNatClampNeg ((fm1_14 y_11.toNatClampNeg) + u_.toInt64))) → ((vp_in y_10 560) ∧ (((fm1_15 y_10.toNatClampNeg).toInt32).toInt = (qTrade Ns Np v x.toInt y.toInt z.toInt u_.toInt).1 ∧ MR 0 fm1_15 (qTrade Ns Np v x.toInt y.toInt z.toInt u_.toInt).2 ∧ MF 0 mw fm1_15)))))))) ∧ (¬ (((mw y_11.toNatClampNeg) + u_.toInt64) ≤ 99999) → ((-1000000004) : Int32).toInt = (qTrade Ns Np v x.toInt y.toInt z.toInt u_.toInt).1 ∧ MR 0 mw (qTrade Ns Np v x.toInt y.toInt z.toInt u_.toInt).2 ∧ MF 0 mw mw))) ∧ (¬ (u_.toInt64 ≤ (mw y_10.toNatClampNeg)) → ((-1000000003) : Int32).toInt = (qTrade Ns Np v x.toInt y.toInt z.toInt u_.toInt).1 ∧ MR 0 mw (qTrade Ns Np v x.toInt y.toInt z.toInt u_.toInt).2 ∧ MF 0 mw mw))))) ∧ (¬ (¬ u_.toInt64 < 1 ∧ ¬ 9999 < u_.toInt64) → ((-1000000002) : Int32).toInt = (qTrade Ns Np v x.toInt y.toInt z.toInt u_.toInt).1 ∧ MR 0 mw (qTrade Ns Np v x.toInt y.toInt z.toInt u_.toInt).2 ∧ MF 0 mw mw)) ∧ (¬ (inR z (mn 0)) → ((-1000000001) : Int32).toInt = (qTrade Ns Np v x.toInt y.toInt z.toInt u_.toInt).1 ∧ MR 0 mw (qTrade Ns Np v x.toInt y.toInt z.toInt u_.toInt).2 ∧ MF 0 mw mw))))) : MetI l yX8_trade wsX8_trade 2 46 G [.ref m0, .int x, .int y, .int z, .int u_] [(m0, .inr (8, [.ref m1, .ref m2, .ref m3, .ref m4, .ref m5, .ref m6, .ref m7, .ref m8, .ref m9, .int fu, .int fd, .int fi, .int nu, .int nw, .int nf, .int bf, .int bn, .ref m10, .int ts, .int ap, .int fs, .int ln, .int fo, .int fa, .ref m11, .ref m12, .ref m13, .ref m14, .int wr])), aJ G m1 560 mw, aZ G m2 2 ik, aI G m3 20 zs, aI G m4 20 cl, aI G m5 20 hs, aI G m6 20 ks, aI G m7 20 wa, aI G m8 20 ne, aI G m9 4 mn, aI G m10 400 tx, aI G m11 6 th, aI G m12 6 od, aI G m13 30 bk, aI G m14 30 bh] sz (fun (r : Int32) (u : (Nat → Int64)) => r.toInt = (qTrade Ns Np v x.toInt y.toInt z.toInt u_.toInt).1 ∧ MR 0 u (qTrade Ns Np v x.toInt y.toInt z.toInt u_.toInt).2 ∧ MF 0 mw u) (fun (u : (Nat → Int64)) => [(m0, .inr (8, [.ref m1, .ref m2, .ref m3, .ref m4, .ref m5, .ref m6, .ref m7, .ref m8, .ref m9, .int fu, .int fd, .int fi, .int nu, .int nw, .int nf, .int bf, .int bn, .ref m10, .int ts, .int ap, .int fs, .int ln, .int fo, .int fa, .ref m11, .ref m12, .ref m13, .ref m14, .int wr])), aJ G m1 560 u, aZ G m2 2 ik, aI G m3 20 zs, aI G m4 20 cl, aI G m5 20 hs, aI G m6 20 ks, aI G m7 20 wa, aI G m8 20 ne, aI G m9 4 mn, aI G m10 400 tx, aI G m11 6 th, aI G m12 6 od, aI G m13 30 bk, aI G m14 30 bh]) := by
  refine x_startI (cc := cX8_trade) (maxL := 7) (ret := (some .int)) (by decide) rfl (Nat.le_of_ble_eq_true rfl) ?_
  intro p e s m args below meth c A R Q ls hRf hRl hQ C hP hD hS hA hSS hl
  obtain ⟨hx, hb, hr, hml, hown, hts, hlocks, hKK⟩ := C
  have hown : s.vm.findClass RX8 = some m.cls := hown
  have hl : lv_has ls 7 [(0, .ref m0), (1, .int x), (2, .int y), (3, .int z), (4, .int u_)] := hl
  have hinX8 : ∀ w ∈ u_ws RX8 TX8 29, w ∈ wsX8_trade := by decide +kernel
  have kl164 := hts (.constant RX8 164 (-1000000001)) (by decide +kernel)
  have kl198 := hts (.constant RX8 198 (-1000000003)) (by decide +kernel)
  have kl222 := hts (.constantLong RX8 222 (9999)) (by decide +kernel)
  have kl224 := hts (.constantLong RX8 224 (99999)) (by decide +kernel)
  have kl7 := hts (.fieldLink RX8 7 "WarmStonesModel" "w" "[J") (by decide +kernel)
  have kl73 := hts (.constant RX8 73 (-1000000002)) (by decide +kernel)
  have kl77 := hts (.constant RX8 77 (-1000000004)) (by decide +kernel)
  refine lv_aload_n hx hb dX8_trade_0 rfl (lv_at hl 0 rfl) ?_
  refine lv_iload_n hx hb dX8_trade_1 rfl (lv_at hl 1 rfl) ?_
  refine x_calliR (x_runV (As := [.int x]) (rest := []) (n := 1) (C := RX8) (ci := 8) ⟨hx, hb, hml, hown, hts⟩ (k_X8_isPerson l G m0 m1 m2 m3 m4 m5 m6 m7 m8 m9 m10 m11 m12 m13 m14 _ mw ik zs cl hs ks wa ne mn tx th od bk bh fu fd fi nu nw nf bf bn ts ap fs ln fo fa wr x) gX8_trade_X8_isPerson rfl (by decide +kernel) ⟨Nat.le_trans (Nat.le_of_ble_eq_true rfl) hRf, Nat.le_trans (Nat.le_of_ble_eq_true rfl) hRl⟩ hKK hSS hS hA hP hD [0, 1, 2, 3, 4, 5, 6, 7, 8, 9, 10, 11, 12, 13, 14] (by decide) rfl rfl rfl 0 rfl rfl hl.1 rfl (Nat.le_of_ble_eq_true rfl) dX8_trade_2) hP hD hS hA [0, 1, 2, 3, 4, 5, 6, 7, 8, 9, 10, 11, 12, 13, 14] rfl (fun r_1 _ H locs hw hP hS => ?_)
  replace hw := hw.symm; subst hw
  refine lv_if_eq (tgt := 29) hx hb dX8_trade_5 (by decide) (fun hc_2 => ?_) (fun hc_2 => ?_)
  · have hv := hv.1 (tv_eq.mp hc_2)
    refine lv_ldc (v := (-1000000001)) hx hb hown kl164 dX8_trade_29 ?_
    exact x_iret (v := (-1000000001)) mw hQ hx hb hr hlocks hS dX8_trade_31 hv hP hD
  · have hv := hv.2 (tv_eqn.mp hc_2)
    refine lv_aload_n hx hb dX8_trade_8 rfl (lv_at hl 0 rfl) ?_
    refine lv_iload_n hx hb dX8_trade_9 rfl (lv_at hl 2 rfl) ?_
    refine x_calliR (x_runV (As := [.int y]) (rest := []) (n := 1) (C := RX8) (ci := 8) ⟨hx, hb, hml, hown, hts⟩ (k_X8_isPerson l G m0 m1 m2 m3 m4 m5 m6 m7 m8 m9 m10 m11 m12 m13 m14 _ mw ik zs cl hs ks wa ne mn tx th od bk bh fu fd fi nu nw nf bf bn ts ap fs ln fo fa wr y) gX8_trade_X8_isPerson rfl (by decide +kernel) ⟨Nat.le_trans (Nat.le_of_ble_eq_true rfl) hRf, Nat.le_trans (Nat.le_of_ble_eq_true rfl) hRl⟩ hKK hSS hS hA hP hD [0, 1, 2, 3, 4, 5, 6, 7, 8, 9, 10, 11, 12, 13, 14] (by decide) rfl rfl rfl 0 rfl rfl hl.1 rfl (Nat.le_of_ble_eq_true rfl) dX8_trade_10) hP hD hS hA [0, 1, 2, 3, 4, 5, 6, 7, 8, 9, 10, 11, 12, 13, 14] rfl (fun r_3 _ H locs hw hP hS => ?_)
    replace hw := hw.symm; subst hw
    refine lv_if_eq (tgt := 29) hx hb dX8_trade_13 (by decide) (fun hc_4 => ?_) (fun hc_4 => ?_)
    · have hv := hv.1 (tv_eq.mp hc_4)
      refine lv_ldc (v := (-1000000001)) hx hb hown kl164 dX8_trade_29 ?_
      exact x_iret (v := (-1000000001)) mw hQ hx hb hr hlocks hS dX8_trade_31 hv hP hD
    · have hv := hv.2 (tv_eqn.mp hc_4)
      refine lv_iload_n hx hb dX8_trade_16 rfl (lv_at hl 1 rfl) ?_
      refine lv_iload_n hx hb dX8_trade_17 rfl (lv_at hl 2 rfl) ?_
      refine lv_icmp_eq (tgt := 29) hx hb dX8_trade_18 (by decide) (fun hc_5 => ?_) (fun hc_5 => ?_)
      · have hv := hv.1 hc_5
        refine lv_ldc (v := (-1000000001)) hx hb hown kl164 dX8_trade_29 ?_
        exact x_iret (v := (-1000000001)) mw hQ hx hb hr hlocks hS dX8_trade_31 hv hP hD
      · have hv := hv.2 hc_5
        refine lv_aload_n hx hb dX8_trade_21 rfl (lv_at hl 0 rfl) ?_
        refine lv_iload_n hx hb dX8_trade_22 rfl (lv_at hl 3 rfl) ?_
        refine x_calliR (x_runV (As := [.int z]) (rest := []) (n := 1) (C := RX8) (ci := 8) ⟨hx, hb, hml, hown, hts⟩ (k_X8_isStone l G m0 m1 m2 m3 m4 m5 m6 m7 m8 m9 m10 m11 m12 m13 m14 _ mw ik zs cl hs ks wa ne mn tx th od bk bh fu fd fi nu nw nf bf bn ts ap fs ln fo fa wr z) gX8_trade_X8_isStone rfl (by decide +kernel) ⟨Nat.le_trans (Nat.le_of_ble_eq_true rfl) hRf, Nat.le_trans (Nat.le_of_ble_eq_true rfl) hRl⟩ hKK hSS hS hA hP hD [0, 1, 2, 3, 4, 5, 6, 7, 8, 9, 10, 11, 12, 13, 14] (by decide) rfl rfl rfl 0 rfl rfl hl.1 rfl (Nat.le_of_ble_eq_true rfl) dX8_trade_23) hP hD hS hA [0, 1, 2, 3, 4, 5, 6, 7, 8, 9, 10, 11, 12, 13, 14] rfl (fun r_6 _ H locs hw hP hS => ?_)
        replace hw := hw.symm; subst hw
        refine lv_if_ne (tgt := 32) hx hb dX8_trade_26 (by decide) (fun hc_7 => ?_) (fun hc_7 => ?_)
        · have hv := hv.1 (tv_eqn.mp hc_7)
          refine lv_iload hx hb dX8_trade_32 (lv_at hl 4 rfl) ?_
          refine lv_i2l hx hb dX8_trade_34 rfl ?_
          refine lv_lconst (v := 1) hx hb dX8_trade_35 (by decide) ?_
          refine lv_ldc2 (v := 9999) hx hb hown kl222 dX8_trade_36 ?_
          refine x_calliR (x_runS (As := [.long u_.toInt64, .long 1, .long 9999]) (rest := []) (n := 3) ⟨hx, hb, hml, hown, hts⟩ (k_X8_in l G  _ u_.toInt64 1 9999) gX8_trade_X8_in rfl (by decide +kernel) ⟨Nat.le_trans (Nat.le_of_ble_eq_true rfl) hRf, Nat.le_trans (Nat.le_of_ble_eq_true rfl) hRl⟩ hKK hSS hS hA hP hD [] (by decide) rfl rfl hl.1 rfl (Nat.le_of_ble_eq_true rfl) dX8_trade_39) hP hD hS hA [] rfl (fun r_8 _ H locs hw hP hS => ?_)
          replace hw := hw.symm; subst hw
          refine lv_if_ne (tgt := 48) hx hb dX8_trade_42 (by decide) (fun hc_9 => ?_) (fun hc_9 => ?_)
          · have hv := hv.1 (tv_eqn.mp hc_9)
            refine lv_bipush (v := 60) hx hb dX8_trade_48 (by decide) ?_
            refine lv_bipush (v := 9) hx hb dX8_trade_50 (by decide) ?_
            refine lv_iload_n hx hb dX8_trade_52 rfl (lv_at hl 1 rfl) ?_
            refine lv_imul hx hb dX8_trade_53 ?_
            refine lv_iadd hx hb dX8_trade_54 ?_
            refine lv_iload_n hx hb dX8_trade_55 rfl (lv_at hl 3 rfl) ?_
            refine lv_iadd hx hb dX8_trade_56 ?_
            refine lv_topi (fun y_10 ey => ?_)
            have hv := hv y_10 ey
            refine lv_istore (lv' := [(5, .int y_10), (0, .ref m0), (1, .int x), (2, .int y), (3, .int z), (4, .int u_)]) hx hb dX8_trade_57 hl (by decide) rfl (fun ls hl => ?_)
            refine lv_bipush (v := 60) hx hb dX8_trade_59 (by decide) ?_
            refine lv_bipush (v := 9) hx hb dX8_trade_61 (by decide) ?_
            refine lv_iload_n hx hb dX8_trade_63 rfl (lv_at hl 3 rfl) ?_
            refine lv_imul hx hb dX8_trade_64 ?_
            refine lv_iadd hx hb dX8_trade_65 ?_
            refine lv_iload_n hx hb dX8_trade_66 rfl (lv_at hl 4 rfl) ?_
            refine lv_iadd hx hb dX8_trade_67 ?_
            refine lv_topi (fun y_11 ey => ?_)
            have hv := hv y_11 ey
            refine lv_istore (lv' := [(6, .int y_11), (5, .int y_10), (0, .ref m0), (1, .int x), (2, .int y), (3, .int z), (4, .int u_)]) hx hb dX8_trade_68 hl (by decide) rfl (fun ls hl => ?_)
            refine lv_aload_n hx hb dX8_trade_70 rfl (lv_at hl 2 rfl) ?_
            refine va_get (D := G.1) (ci := 8) (v := .ref m1) (C := RX8) (T := TX8) (N := 29) hx hb hts hinX8 hown hKK.1 hP 0 rfl rfl 0 (by decide) kl7 (fun _ h9 => h9) rfl dX8_trade_71 ?_
            refine lv_iload hx hb dX8_trade_74 (lv_at hl 1 rfl) ?_
            obtain ⟨hin, hv⟩ := hv
            refine va_lald hx hb hKK.1 hP 1 2 rfl rfl hin dX8_trade_76 ?_
            refine lv_iload hx hb dX8_trade_77 (lv_at hl 6 rfl) ?_
            refine lv_i2l hx hb dX8_trade_79 rfl ?_
            refine W.lcmp hx hb dX8_trade_80 ?_
            refine lv_if_ge (tgt := 87) hx hb dX8_trade_81 (by decide) (fun hc_12 => ?_) (fun hc_12 => ?_)
            · have hv := hv.1 ((lg_cmp_ge _ _).mp hc_12)
              refine lv_aload_n hx hb dX8_trade_87 rfl (lv_at hl 2 rfl) ?_
              refine va_get (D := G.1) (ci := 8) (v := .ref m1) (C := RX8) (T := TX8) (N := 29) hx hb hts hinX8 hown hKK.1 hP 0 rfl rfl 0 (by decide) kl7 (fun _ h9 => h9) rfl dX8_trade_88 ?_
              refine lv_iload hx hb dX8_trade_91 (lv_at hl 0 rfl) ?_
              obtain ⟨hin, hv⟩ := hv
              refine va_lald hx hb hKK.1 hP 1 2 rfl rfl hin dX8_trade_93 ?_
              refine lv_iload hx hb dX8_trade_94 (lv_at hl 6 rfl) ?_
              refine lv_i2l hx hb dX8_trade_96 rfl ?_
              refine lv_ladd hx hb dX8_trade_97 ?_
              refine lv_ldc2 (v := 99999) hx hb hown kl224 dX8_trade_98 ?_
              refine W.lcmp hx hb dX8_trade_101 ?_
              refine lv_if_le (tgt := 108) hx hb dX8_trade_102 (by decide) (fun hc_13 => ?_) (fun hc_13 => ?_)
              · have hv := hv.1 ((lg_cmp_le _ _).mp hc_13)
                refine lv_aload_n hx hb dX8_trade_108 rfl (lv_at hl 2 rfl) ?_
                refine va_get (D := G.1) (ci := 8) (v := .ref m1) (C := RX8) (T := TX8) (N := 29) hx hb hts hinX8 hown hKK.1 hP 0 rfl rfl 0 (by decide) kl7 (fun _ h9 => h9) rfl dX8_trade_109 ?_
                refine lv_iload hx hb dX8_trade_112 (lv_at hl 1 rfl) ?_
                refine lv_dup2_11 hx hb dX8_trade_114 rfl rfl ?_
                obtain ⟨hin, hv⟩ := hv
                refine va_lald hx hb hKK.1 hP 1 2 rfl rfl hin dX8_trade_115 ?_
                refine lv_iload hx hb dX8_trade_116 (lv_at hl 6 rfl) ?_
                refine lv_i2l hx hb dX8_trade_118 rfl ?_
                refine lv_lsub hx hb dX8_trade_119 ?_
                obtain ⟨hin, hv⟩ := hv
                refine va_last hx hb hKK.1 hP hD hS 1 2 rfl rfl hin dX8_trade_120 (fun H locs hP hD hS => ?_)
                obtain ⟨fm1_14, ef⟩ : ∃ z9_, z9_ = (vp_updL mw y_10.toNatClampNeg ((mw y_10.toNatClampNeg) - u_.toInt64)) := ⟨_, rfl⟩
                have hP : va_P G.1 vwCl [(m0, .inr (8, [.ref m1, .ref m2, .ref m3, .ref m4, .ref m5, .ref m6, .ref m7, .ref m8, .ref m9, .int fu, .int fd, .int fi, .int nu, .int nw, .int nf, .int bf, .int bn, .ref m10, .int ts, .int ap, .int fs, .int ln, .int fo, .int fa, .ref m11, .ref m12, .ref m13, .ref m14, .int wr])), aJ G m1 560 fm1_14, aZ G m2 2 ik, aI G m3 20 zs, aI G m4 20 cl, aI G m5 20 hs, aI G m6 20 ks, aI G m7 20 wa, aI G m8 20 ne, aI G m9 4 mn, aI G m10 400 tx, aI G m11 6 th, aI G m12 6 od, aI G m13 30 bk, aI G m14 30 bh] H := by rw [ef]; exact hP
                have hD : va_D A [(m0, .inr (8, [.ref m1, .ref m2, .ref m3, .ref m4, .ref m5, .ref m6, .ref m7, .ref m8, .ref m9, .int fu, .int fd, .int fi, .int nu, .int nw, .int nf, .int bf, .int bn, .ref m10, .int ts, .int ap, .int fs, .int ln, .int fo, .int fa, .ref m11, .ref m12, .ref m13, .ref m14, .int wr])), aJ G m1 560 fm1_14, aZ G m2 2 ik, aI G m3 20 zs, aI G m4 20 cl, aI G m5 20 hs, aI G m6 20 ks, aI G m7 20 wa, aI G m8 20 ne, aI G m9 4 mn, aI G m10 400 tx, aI G m11 6 th, aI G m12 6 od, aI G m13 30 bk, aI G m14 30 bh] := by rw [ef]; exact hD
                have hv := hv fm1_14 ef
                refine lv_aload_n hx hb dX8_trade_121 rfl (lv_at hl 2 rfl) ?_
                refine va_get (D := G.1) (ci := 8) (v := .ref m1) (C := RX8) (T := TX8) (N := 29) hx hb hts hinX8 hown hKK.1 hP 0 rfl rfl 0 (by decide) kl7 (fun _ h9 => h9) rfl dX8_trade_122 ?_
                refine lv_iload hx hb dX8_trade_125 (lv_at hl 0 rfl) ?_
                refine lv_dup2_11 hx hb dX8_trade_127 rfl rfl ?_
                obtain ⟨hin, hv⟩ := hv
                refine va_lald hx hb hKK.1 hP 1 2 rfl rfl hin dX8_trade_128 ?_
                refine lv_iload hx hb dX8_trade_129 (lv_at hl 6 rfl) ?_
                refine lv_i2l hx hb dX8_trade_131 rfl ?_
                refine lv_ladd hx hb dX8_trade_132 ?_
                obtain ⟨hin, hv⟩ := hv
                refine va_last hx hb hKK.1 hP hD hS 1 2 rfl rfl hin dX8_trade_133 (fun H locs hP hD hS => ?_)
                obtain ⟨fm1_15, ef⟩ : ∃ z9_, z9_ = (vp_updL fm1_14 y_11.toNatClampNeg ((fm1_14 y_11.toNatClampNeg) + u_.toInt64)) := ⟨_, rfl⟩
                have hP : va_P G.1 vwCl [(m0, .inr (8, [.ref m1, .ref m2, .ref m3, .ref m4, .ref m5, .ref m6, .ref m7, .ref m8, .ref m9, .int fu, .int fd, .int fi, .int nu, .int nw, .int nf, .int bf, .int bn, .ref m10, .int ts, .int ap, .int fs, .int ln, .int fo, .int fa, .ref m11, .ref m12, .ref m13, .ref m14, .int wr])), aJ G m1 560 fm1_15, aZ G m2 2 ik, aI G m3 20 zs, aI G m4 20 cl, aI G m5 20 hs, aI G m6 20 ks, aI G m7 20 wa, aI G m8 20 ne, aI G m9 4 mn, aI G m10 400 tx, aI G m11 6 th, aI G m12 6 od, aI G m13 30 bk, aI G m14 30 bh] H := by rw [ef]; exact hP
                have hD : va_D A [(m0, .inr (8, [.ref m1, .ref m2, .ref m3, .ref m4, .ref m5, .ref m6, .ref m7, .ref m8, .ref m9, .int fu, .int fd, .int fi, .int nu, .int nw, .int nf, .int bf, .int bn, .ref m10, .int ts, .int ap, .int fs, .int ln, .int fo, .int fa, .ref m11, .ref m12, .ref m13, .ref m14, .int wr])), aJ G m1 560 fm1_15, aZ G m2 2 ik, aI G m3 20 zs, aI G m4 20 cl, aI G m5 20 hs, aI G m6 20 ks, aI G m7 20 wa, aI G m8 20 ne, aI G m9 4 mn, aI G m10 400 tx, aI G m11 6 th, aI G m12 6 od, aI G m13 30 bk, aI G m14 30 bh] := by rw [ef]; exact hD
                have hv := hv fm1_15 ef
                refine lv_aload_n hx hb dX8_trade_134 rfl (lv_at hl 2 rfl) ?_
                refine va_get (D := G.1) (ci := 8) (v := .ref m1) (C := RX8) (T := TX8) (N := 29) hx hb hts hinX8 hown hKK.1 hP 0 rfl rfl 0 (by decide) kl7 (fun _ h9 => h9) rfl dX8_trade_135 ?_
                refine lv_iload hx hb dX8_trade_138 (lv_at hl 1 rfl) ?_
                obtain ⟨hin, hv⟩ := hv
                refine va_lald hx hb hKK.1 hP 1 2 rfl rfl hin dX8_trade_140 ?_
                refine lv_l2i hx hb dX8_trade_141 rfl ?_
                exact x_iret (v := (fm1_15 y_10.toNatClampNeg).toInt32) fm1_15 hQ hx hb hr hlocks hS dX8_trade_142 hv hP hD
              · have hv := hv.2 (fun h => hc_13 ((lg_cmp_le _ _).mpr h))
                refine lv_ldc (v := (-1000000004)) hx hb hown kl77 dX8_trade_105 ?_
                exact x_iret (v := (-1000000004)) mw hQ hx hb hr hlocks hS dX8_trade_107 hv hP hD
            · have hv := hv.2 (fun h => hc_12 ((lg_cmp_ge _ _).mpr h))
              refine lv_ldc (v := (-1000000003)) hx hb hown kl198 dX8_trade_84 ?_
              exact x_iret (v := (-1000000003)) mw hQ hx hb hr hlocks hS dX8_trade_86 hv hP hD
          · have hv := hv.2 (tv_eq.mp hc_9)
            refine lv_ldc (v := (-1000000002)) hx hb hown kl73 dX8_trade_45 ?_
            exact x_iret (v := (-1000000002)) mw hQ hx hb hr hlocks hS dX8_trade_47 hv hP hD
        · have hv := hv.2 (tv_eq.mp hc_7)
          refine lv_ldc (v := (-1000000001)) hx hb hown kl164 dX8_trade_29 ?_
          exact x_iret (v := (-1000000001)) mw hQ hx hb hr hlocks hS dX8_trade_31 hv hP hD
theorem v_X8_trade (l : Launch) (G : Gt) (m0 m1 m2 m3 m4 m5 m6 m7 m8 m9 m10 m11 m12 m13 m14 : Nat) (sz : Nat) (mw : Nat → Int64) (ik : Nat → Int32) (zs : Nat → Int32) (cl : Nat → Int32) (hs : Nat → Int32) (ks : Nat → Int32) (wa : Nat → Int32) (ne : Nat → Int32) (mn : Nat → Int32) (tx : Nat → Int32) (th : Nat → Int32) (od : Nat → Int32) (bk : Nat → Int32) (bh : Nat → Int32) (fu : Int32) (fd : Int32) (fi : Int32) (nu : Int32) (nw : Int32) (nf : Int32) (bf : Int32) (bn : Int32) (ts : Int32) (ap : Int32) (fs : Int32) (ln : Int32) (fo : Int32) (fa : Int32) (wr : Int32) (x : Int32) (y : Int32) (z : Int32) (u_ : Int32) (T : Nat → Nat → Int) (Ns : Nat) (Np : Nat) (v : Nat → Int) (M : Int) (hp : TOK T Ns Np ∧ MT T Ns Np fu fd fi zs cl ks ne mn ∧ MR 0 mw v ∧ NOK T Ns Np (fun _ => 2 * M) M v ∧ M ≤ 900000) : (¬ (inR x (mn 1)) → ((-1000000001) : Int32).toInt = (qTrade Ns Np v x.toInt y.toInt z.toInt u_.toInt).1 ∧ MR 0 mw (qTrade Ns Np v x.toInt y.toInt z.toInt u_.toInt).2 ∧ MF 0 mw mw) ∧ (inR x (mn 1) → (¬ (inR y (mn 1)) → ((-1000000001) : Int32).toInt = (qTrade Ns Np v x.toInt y.toInt z.toInt u_.toInt).1 ∧ MR 0 mw (qTrade Ns Np v x.toInt y.toInt z.toInt u_.toInt).2 ∧ MF 0 mw mw) ∧ (inR y (mn 1) → (x = y → ((-1000000001) : Int32).toInt = (qTrade Ns Np v x.toInt y.toInt z.toInt u_.toInt).1 ∧ MR 0 mw (qTrade Ns Np v x.toInt y.toInt z.toInt u_.toInt).2 ∧ MF 0 mw mw) ∧ (¬ (x = y) → (inR z (mn 0) → (¬ u_.toInt64 < 1 ∧ ¬ 9999 < u_.toInt64 → ∀ (y_10 : Int32), (y_10 = ((60 + (9 * x)) + z)) → (∀ (y_11 : Int32), (y_11 = ((60 + (9 * y)) + z)) → ((vp_in y_10 560) ∧ ((u_.toInt64 ≤ (mw y_10.toNatClampNeg) → (vp_in y_11 560) ∧ ((((mw y_11.toNatClampNeg) + u_.toInt64) ≤ 99999 → (vp_in y_10 560) ∧ ((vp_in y_10 560) ∧ (∀ (fm1_14 : (Nat → Int64)), (fm1_14 = (vp_updL mw y_10.toNatClampNeg ((mw y_10.toNatClampNeg) - u_.toInt64))) → ((vp_in y_11 560) ∧ ((vp_in y_11 560) ∧ (∀ (fm1_15 : (Nat → Int64)), (fm1_15 = (vp_updL fm1_14 y_11.toNatClampNeg ((fm1_14 y_11.toNatClampNeg) + u_.toInt64))) → ((vp_in y_10 560) ∧ (((fm1_15 y_10.toNatClampNeg).toInt32).toInt = (qTrade Ns Np v x.toInt y.toInt z.toInt u_.toInt).1 ∧ MR 0 fm1_15 (qTrade Ns Np v x.toInt y.toInt z.toInt u_.toInt).2 ∧ MF 0 mw fm1_15)))))))) ∧ (¬ (((mw y_11.toNatClampNeg) + u_.toInt64) ≤ 99999) → ((-1000000004) : Int32).toInt = (qTrade Ns Np v x.toInt y.toInt z.toInt u_.toInt).1 ∧ MR 0 mw (qTrade Ns Np v x.toInt y.toInt z.toInt u_.toInt).2 ∧ MF 0 mw mw))) ∧ (¬ (u_.toInt64 ≤ (mw y_10.toNatClampNeg)) → ((-1000000003) : Int32).toInt = (qTrade Ns Np v x.toInt y.toInt z.toInt u_.toInt).1 ∧ MR 0 mw (qTrade Ns Np v x.toInt y.toInt z.toInt u_.toInt).2 ∧ MF 0 mw mw))))) ∧ (¬ (¬ u_.toInt64 < 1 ∧ ¬ 9999 < u_.toInt64) → ((-1000000002) : Int32).toInt = (qTrade Ns Np v x.toInt y.toInt z.toInt u_.toInt).1 ∧ MR 0 mw (qTrade Ns Np v x.toInt y.toInt z.toInt u_.toInt).2 ∧ MF 0 mw mw)) ∧ (¬ (inR z (mn 0)) → ((-1000000001) : Int32).toInt = (qTrade Ns Np v x.toInt y.toInt z.toInt u_.toInt).1 ∧ MR 0 mw (qTrade Ns Np v x.toInt y.toInt z.toInt u_.toInt).2 ∧ MF 0 mw mw)))) := by
  obtain ⟨hT, hC, hR, hO, hM⟩ := hp
  have t1 := hT.1
  have t2 := hT.2.1
  have hp_ := inR_iff (x := x) hC.2.1 (by omega)
  have hq_ := inR_iff (x := y) hC.2.1 (by omega)
  have hs_ := inR_iff (x := z) hC.1 (by omega)
  have hxy : x = y ↔ x.toInt = y.toInt := i_eq rfl rfl
  have ez : u_.toInt64.toInt = u_.toInt := i_l rfl
  have hz_ : (¬ u_.toInt64 < 1 ∧ ¬ 9999 < u_.toInt64) ↔ (1 ≤ u_.toInt ∧ u_.toInt ≤ 9999) := by
    rw [l_lt ez (show (1 : Int64).toInt = 1 from rfl), l_lt (show (9999 : Int64).toInt = 9999 from rfl) ez]
    omega
  simp only [hp_, hq_, hs_, hz_, hxy]
  refine ⟨fun h1 => ?_, fun h1 => ⟨fun h2 => ?_, fun h2 => ⟨fun h3 => ?_, fun h3 => ⟨fun h4 => ⟨fun h5 => ?_, fun h5 => ?_⟩, fun h4 => ?_⟩⟩⟩⟩
  · rw [qTrade, if_pos (Or.inl h1)]; exact ⟨rfl, hR, MF.rf 0 mw⟩
  · rw [qTrade, if_pos (Or.inr (Or.inl h2))]; exact ⟨rfl, hR, MF.rf 0 mw⟩
  · rw [qTrade, if_pos (Or.inr (Or.inr (Or.inl h3)))]; exact ⟨rfl, hR, MF.rf 0 mw⟩
  · rw [qTrade, if_neg (fun q => q.elim (fun q => q h1) (fun q => q.elim (fun q => q h2) (fun q => q.elim h3 (fun q => q h4)))), if_neg (fun q => q h5)]
    obtain ⟨i, hi, rfl, hxi, hxt⟩ := in_nat h1 (by omega)
    obtain ⟨j, hj, rfl, hyj, hyt⟩ := in_nat h2 (by omega)
    obtain ⟨b, hb, rfl, hzb, hzt⟩ := in_nat h4 (by omega)
    rw [hxt, hyt, hzt]
    have hij : i ≠ j := by omega
    intro k ek k2 ek2
    have e : ∀ i b : Nat, 60 + 9 * nI i + nI b = nI (60 + (9 * i + b)) := fun i b => by rw [show (9 : Int32) = nI 9 from rfl, show (60 : Int32) = nI 60 from rfl, pk_mul, nI_add, nI_add, Nat.add_assoc]
    rw [e] at ek ek2
    subst ek
    subst ek2
    have c : (nI (60 + (9 * i + b))).toNatClampNeg = 60 + (9 * i + b) := nI_clamp (by omega)
    have c2 : (nI (60 + (9 * j + b))).toNatClampNeg = 60 + (9 * j + b) := nI_clamp (by omega)
    have bo := hO.2.2.2.1 i b hi hb
    have bo2 := hO.2.2.2.1 j b hj hb
    have vo : vp_in (nI (60 + (9 * i + b))) 560 := vp_in_nI (by omega) (by omega)
    have vo2 : vp_in (nI (60 + (9 * j + b))) 560 := vp_in_nI (by omega) (by omega)
    have eo := hR.z (i := 60 + (9 * i + b)) (by omega)
    have eo2 := hR.z (i := 60 + (9 * j + b)) (by omega)
    have ea := l_add eo2 ez (by omega) (by omega)
    simp only [c, c2]
    have hle : u_.toInt64 ≤ mw (60 + (9 * i + b)) ↔ u_.toInt ≤ v (60 + (9 * i + b)) := l_le ez eo
    have hle2 : mw (60 + (9 * j + b)) + u_.toInt64 ≤ 99999 ↔ v (60 + (9 * j + b)) + u_.toInt ≤ 99999 := l_le ea (show (99999 : Int64).toInt = 99999 from rfl)
    simp only [hle, hle2]
    refine ⟨vo, fun h6 => ⟨vo2, fun h7 => ?_, fun h7 => ?_⟩, fun h6 => ?_⟩
    · rw [if_neg (by omega), if_neg (by omega)]
      refine ⟨vo, vo, fun w1 ew1 => ⟨vo2, vo2, fun w2 ew2 => ⟨vo, ?_⟩⟩⟩
      have hR1 : MR 0 w1 (uz v (60 + (9 * i + b)) (v (60 + (9 * i + b)) - u_.toInt)) := by rw [ew1]; exact hR.u0 (l_sub eo ez (by omega) (by omega))
      have hR2 : MR 0 w2 (uz (uz v (60 + (9 * i + b)) (v (60 + (9 * i + b)) - u_.toInt)) (60 + (9 * j + b)) (v (60 + (9 * j + b)) + u_.toInt)) := by
        rw [ew2]
        refine hR1.u0 (l_add ?_ ez (by omega) (by omega))
        rw [hR1.z (by omega), uz_ne (by omega)]
      refine ⟨?_, hR2, by rw [ew2, ew1]; exact ((MF.rf 0 mw).u0 (by omega)).u0 (by omega)⟩
      have := hR2.z (i := 60 + (9 * i + b)) (by omega)
      rw [uz_ne (by omega), uz_eq] at this
      exact l_iZ this (by omega) (by omega)
    · rw [if_neg (by omega), if_pos (by omega)]; exact ⟨rfl, hR, MF.rf 0 mw⟩
    · rw [if_pos (by omega)]; exact ⟨rfl, hR, MF.rf 0 mw⟩
  · rw [qTrade, if_neg (fun q => q.elim (fun q => q h1) (fun q => q.elim (fun q => q h2) (fun q => q.elim h3 (fun q => q h4)))), if_pos h5]; exact ⟨rfl, hR, MF.rf 0 mw⟩
  · rw [qTrade, if_pos (Or.inr (Or.inr (Or.inr h4)))]; exact ⟨rfl, hR, MF.rf 0 mw⟩
theorem k_X8_trade (l : Launch) (G : Gt) (m0 m1 m2 m3 m4 m5 m6 m7 m8 m9 m10 m11 m12 m13 m14 : Nat) (sz : Nat) (mw : Nat → Int64) (ik : Nat → Int32) (zs : Nat → Int32) (cl : Nat → Int32) (hs : Nat → Int32) (ks : Nat → Int32) (wa : Nat → Int32) (ne : Nat → Int32) (mn : Nat → Int32) (tx : Nat → Int32) (th : Nat → Int32) (od : Nat → Int32) (bk : Nat → Int32) (bh : Nat → Int32) (fu : Int32) (fd : Int32) (fi : Int32) (nu : Int32) (nw : Int32) (nf : Int32) (bf : Int32) (bn : Int32) (ts : Int32) (ap : Int32) (fs : Int32) (ln : Int32) (fo : Int32) (fa : Int32) (wr : Int32) (x : Int32) (y : Int32) (z : Int32) (u_ : Int32) (T : Nat → Nat → Int) (Ns : Nat) (Np : Nat) (v : Nat → Int) (M : Int) (hp : TOK T Ns Np ∧ MT T Ns Np fu fd fi zs cl ks ne mn ∧ MR 0 mw v ∧ NOK T Ns Np (fun _ => 2 * M) M v ∧ M ≤ 900000) : MetI l yX8_trade wsX8_trade 2 46 G [.ref m0, .int x, .int y, .int z, .int u_] [(m0, .inr (8, [.ref m1, .ref m2, .ref m3, .ref m4, .ref m5, .ref m6, .ref m7, .ref m8, .ref m9, .int fu, .int fd, .int fi, .int nu, .int nw, .int nf, .int bf, .int bn, .ref m10, .int ts, .int ap, .int fs, .int ln, .int fo, .int fa, .ref m11, .ref m12, .ref m13, .ref m14, .int wr])), aJ G m1 560 mw, aZ G m2 2 ik, aI G m3 20 zs, aI G m4 20 cl, aI G m5 20 hs, aI G m6 20 ks, aI G m7 20 wa, aI G m8 20 ne, aI G m9 4 mn, aI G m10 400 tx, aI G m11 6 th, aI G m12 6 od, aI G m13 30 bk, aI G m14 30 bh] sz (fun (r : Int32) (u : (Nat → Int64)) => r.toInt = (qTrade Ns Np v x.toInt y.toInt z.toInt u_.toInt).1 ∧ MR 0 u (qTrade Ns Np v x.toInt y.toInt z.toInt u_.toInt).2 ∧ MF 0 mw u) (fun (u : (Nat → Int64)) => [(m0, .inr (8, [.ref m1, .ref m2, .ref m3, .ref m4, .ref m5, .ref m6, .ref m7, .ref m8, .ref m9, .int fu, .int fd, .int fi, .int nu, .int nw, .int nf, .int bf, .int bn, .ref m10, .int ts, .int ap, .int fs, .int ln, .int fo, .int fa, .ref m11, .ref m12, .ref m13, .ref m14, .int wr])), aJ G m1 560 u, aZ G m2 2 ik, aI G m3 20 zs, aI G m4 20 cl, aI G m5 20 hs, aI G m6 20 ks, aI G m7 20 wa, aI G m8 20 ne, aI G m9 4 mn, aI G m10 400 tx, aI G m11 6 th, aI G m12 6 od, aI G m13 30 bk, aI G m14 30 bh]) :=
  c_X8_trade l G m0 m1 m2 m3 m4 m5 m6 m7 m8 m9 m10 m11 m12 m13 m14 sz mw ik zs cl hs ks wa ne mn tx th od bk bh fu fd fi nu nw nf bf bn ts ap fs ln fo fa wr x y z u_ T Ns Np v M (v_X8_trade l G m0 m1 m2 m3 m4 m5 m6 m7 m8 m9 m10 m11 m12 m13 m14 sz mw ik zs cl hs ks wa ne mn tx th od bk bh fu fd fi nu nw nf bf bn ts ap fs ln fo fa wr x y z u_ T Ns Np v M hp)

set_option maxHeartbeats 4000000 in
set_option maxRecDepth 100000 in
theorem c_X8_forgive (l : Launch) (G : Gt) (m0 m1 m2 m3 m4 m5 m6 m7 m8 m9 m10 m11 m12 m13 m14 : Nat) (sz : Nat) (mw : Nat → Int64) (ik : Nat → Int32) (zs : Nat → Int32) (cl : Nat → Int32) (hs : Nat → Int32) (ks : Nat → Int32) (wa : Nat → Int32) (ne : Nat → Int32) (mn : Nat → Int32) (tx : Nat → Int32) (th : Nat → Int32) (od : Nat → Int32) (bk : Nat → Int32) (bh : Nat → Int32) (fu : Int32) (fd : Int32) (fi : Int32) (nu : Int32) (nw : Int32) (nf : Int32) (bf : Int32) (bn : Int32) (ts : Int32) (ap : Int32) (fs : Int32) (ln : Int32) (fo : Int32) (fa : Int32) (wr : Int32) (x : Int32) (T : Nat → Nat → Int) (Ns : Nat) (Np : Nat) (v : Nat → Int) (M : Int) (hv : (inR x (mn 1) → (vp_in (50 + x) 560) ∧ (∀ (y_3 : Int32), (y_3 = (mw (50 + x).toNatClampNeg).toInt32) → ((vp_in (50 + x) 560) ∧ (∀ (fm1_4 : (Nat → Int64)), (fm1_4 = (vp_updL mw ((50 + x).toNatClampNeg) 0)) → ((vp_in (40 + x) 560) ∧ (∀ (fm1_5 : (Nat → Int64)), (fm1_5 = (vp_updL fm1_4 ((40 + x).toNatClampNeg) 0)) → (y_3.toInt = (qForgive Np v x.toInt).1 ∧ MR 0 fm1_5 (qForgive Np v x.toInt).2 ∧ MF 0 mw fm1_5))))))) ∧ (¬ (inR x (mn 1)) → ((-1000000001) : Int32).toInt = (qForgive Np v x.toInt).1 ∧ MR 0 mw (qForgive Np v x.toInt).2 ∧ MF 0 mw mw)) : MetI l yX8_forgive wsX8_forgive 2 46 G [.ref m0, .int x] [(m0, .inr (8, [.ref m1, .ref m2, .ref m3, .ref m4, .ref m5, .ref m6, .ref m7, .ref m8, .ref m9, .int fu, .int fd, .int fi, .int nu, .int nw, .int nf, .int bf, .int bn, .ref m10, .int ts, .int ap, .int fs, .int ln, .int fo, .int fa, .ref m11, .ref m12, .ref m13, .ref m14, .int wr])), aJ G m1 560 mw, aZ G m2 2 ik, aI G m3 20 zs, aI G m4 20 cl, aI G m5 20 hs, aI G m6 20 ks, aI G m7 20 wa, aI G m8 20 ne, aI G m9 4 mn, aI G m10 400 tx, aI G m11 6 th, aI G m12 6 od, aI G m13 30 bk, aI G m14 30 bh] sz (fun (r : Int32) (u : (Nat → Int64)) => r.toInt = (qForgive Np v x.toInt).1 ∧ MR 0 u (qForgive Np v x.toInt).2 ∧ MF 0 mw u) (fun (u : (Nat → Int64)) => [(m0, .inr (8, [.ref m1, .ref m2, .ref m3, .ref m4, .ref m5, .ref m6, .ref m7, .ref m8, .ref m9, .int fu, .int fd, .int fi, .int nu, .int nw, .int nf, .int bf, .int bn, .ref m10, .int ts, .int ap, .int fs, .int ln, .int fo, .int fa, .ref m11, .ref m12, .ref m13, .ref m14, .int wr])), aJ G m1 560 u, aZ G m2 2 ik, aI G m3 20 zs, aI G m4 20 cl, aI G m5 20 hs, aI G m6 20 ks, aI G m7 20 wa, aI G m8 20 ne, aI G m9 4 mn, aI G m10 400 tx, aI G m11 6 th, aI G m12 6 od, aI G m13 30 bk, aI G m14 30 bh]) := by
  refine x_startI (cc := cX8_forgive) (maxL := 3) (ret := (some .int)) (by decide) rfl (Nat.le_of_ble_eq_true rfl) ?_
  intro p e s m args below meth c A R Q ls hRf hRl hQ C hP hD hS hA hSS hl
  obtain ⟨hx, hb, hr, hml, hown, hts, hlocks, hKK⟩ := C
  have hown : s.vm.findClass RX8 = some m.cls := hown
  have hl : lv_has ls 3 [(0, .ref m0), (1, .int x)] := hl
  have hinX8 : ∀ w ∈ u_ws RX8 TX8 29, w ∈ wsX8_forgive := by decide +kernel
  have kl164 := hts (.constant RX8 164 (-1000000001)) (by decide +kernel)
  have kl7 := hts (.fieldLink RX8 7 "WarmStonesModel" "w" "[J") (by decide +kernel)
  refine lv_aload_n hx hb dX8_forgive_0 rfl (lv_at hl 0 rfl) ?_
  refine lv_iload_n hx hb dX8_forgive_1 rfl (lv_at hl 1 rfl) ?_
  refine x_calliR (x_runV (As := [.int x]) (rest := []) (n := 1) (C := RX8) (ci := 8) ⟨hx, hb, hml, hown, hts⟩ (k_X8_isPerson l G m0 m1 m2 m3 m4 m5 m6 m7 m8 m9 m10 m11 m12 m13 m14 _ mw ik zs cl hs ks wa ne mn tx th od bk bh fu fd fi nu nw nf bf bn ts ap fs ln fo fa wr x) gX8_forgive_X8_isPerson rfl (by decide +kernel) ⟨Nat.le_trans (Nat.le_of_ble_eq_true rfl) hRf, Nat.le_trans (Nat.le_of_ble_eq_true rfl) hRl⟩ hKK hSS hS hA hP hD [0, 1, 2, 3, 4, 5, 6, 7, 8, 9, 10, 11, 12, 13, 14] (by decide) rfl rfl rfl 0 rfl rfl hl.1 rfl (Nat.le_of_ble_eq_true rfl) dX8_forgive_2) hP hD hS hA [0, 1, 2, 3, 4, 5, 6, 7, 8, 9, 10, 11, 12, 13, 14] rfl (fun r_1 _ H locs hw hP hS => ?_)
  replace hw := hw.symm; subst hw
  refine lv_if_ne (tgt := 11) hx hb dX8_forgive_5 (by decide) (fun hc_2 => ?_) (fun hc_2 => ?_)
  · have hv := hv.1 (tv_eqn.mp hc_2)
    refine lv_aload_n hx hb dX8_forgive_11 rfl (lv_at hl 0 rfl) ?_
    refine va_get (D := G.1) (ci := 8) (v := .ref m1) (C := RX8) (T := TX8) (N := 29) hx hb hts hinX8 hown hKK.1 hP 0 rfl rfl 0 (by decide) kl7 (fun _ h9 => h9) rfl dX8_forgive_12 ?_
    refine lv_bipush (v := 50) hx hb dX8_forgive_15 (by decide) ?_
    refine lv_iload_n hx hb dX8_forgive_17 rfl (lv_at hl 1 rfl) ?_
    refine lv_iadd hx hb dX8_forgive_18 ?_
    obtain ⟨hin, hv⟩ := hv
    refine va_lald hx hb hKK.1 hP 1 2 rfl rfl hin dX8_forgive_19 ?_
    refine lv_l2i hx hb dX8_forgive_20 rfl ?_
    refine lv_topi (fun y_3 ey => ?_)
    have hv := hv y_3 ey
    refine lv_istore_n (lv' := [(2, .int y_3), (0, .ref m0), (1, .int x)]) hx hb dX8_forgive_21 rfl hl (by decide) rfl (fun ls hl => ?_)
    refine lv_aload_n hx hb dX8_forgive_22 rfl (lv_at hl 1 rfl) ?_
    refine va_get (D := G.1) (ci := 8) (v := .ref m1) (C := RX8) (T := TX8) (N := 29) hx hb hts hinX8 hown hKK.1 hP 0 rfl rfl 0 (by decide) kl7 (fun _ h9 => h9) rfl dX8_forgive_23 ?_
    refine lv_bipush (v := 50) hx hb dX8_forgive_26 (by decide) ?_
    refine lv_iload_n hx hb dX8_forgive_28 rfl (lv_at hl 2 rfl) ?_
    refine lv_iadd hx hb dX8_forgive_29 ?_
    refine lv_lconst (v := 0) hx hb dX8_forgive_30 (by decide) ?_
    obtain ⟨hin, hv⟩ := hv
    refine va_last hx hb hKK.1 hP hD hS 1 2 rfl rfl hin dX8_forgive_31 (fun H locs hP hD hS => ?_)
    obtain ⟨fm1_4, ef⟩ : ∃ z9_, z9_ = (vp_updL mw ((50 + x).toNatClampNeg) 0) := ⟨_, rfl⟩
    have hP : va_P G.1 vwCl [(m0, .inr (8, [.ref m1, .ref m2, .ref m3, .ref m4, .ref m5, .ref m6, .ref m7, .ref m8, .ref m9, .int fu, .int fd, .int fi, .int nu, .int nw, .int nf, .int bf, .int bn, .ref m10, .int ts, .int ap, .int fs, .int ln, .int fo, .int fa, .ref m11, .ref m12, .ref m13, .ref m14, .int wr])), aJ G m1 560 fm1_4, aZ G m2 2 ik, aI G m3 20 zs, aI G m4 20 cl, aI G m5 20 hs, aI G m6 20 ks, aI G m7 20 wa, aI G m8 20 ne, aI G m9 4 mn, aI G m10 400 tx, aI G m11 6 th, aI G m12 6 od, aI G m13 30 bk, aI G m14 30 bh] H := by rw [ef]; exact hP
    have hD : va_D A [(m0, .inr (8, [.ref m1, .ref m2, .ref m3, .ref m4, .ref m5, .ref m6, .ref m7, .ref m8, .ref m9, .int fu, .int fd, .int fi, .int nu, .int nw, .int nf, .int bf, .int bn, .ref m10, .int ts, .int ap, .int fs, .int ln, .int fo, .int fa, .ref m11, .ref m12, .ref m13, .ref m14, .int wr])), aJ G m1 560 fm1_4, aZ G m2 2 ik, aI G m3 20 zs, aI G m4 20 cl, aI G m5 20 hs, aI G m6 20 ks, aI G m7 20 wa, aI G m8 20 ne, aI G m9 4 mn, aI G m10 400 tx, aI G m11 6 th, aI G m12 6 od, aI G m13 30 bk, aI G m14 30 bh] := by rw [ef]; exact hD
    have hv := hv fm1_4 ef
    refine lv_aload_n hx hb dX8_forgive_32 rfl (lv_at hl 1 rfl) ?_
    refine va_get (D := G.1) (ci := 8) (v := .ref m1) (C := RX8) (T := TX8) (N := 29) hx hb hts hinX8 hown hKK.1 hP 0 rfl rfl 0 (by decide) kl7 (fun _ h9 => h9) rfl dX8_forgive_33 ?_
    refine lv_bipush (v := 40) hx hb dX8_forgive_36 (by decide) ?_
    refine lv_iload_n hx hb dX8_forgive_38 rfl (lv_at hl 2 rfl) ?_
    refine lv_iadd hx hb dX8_forgive_39 ?_
    refine lv_lconst (v := 0) hx hb dX8_forgive_40 (by decide) ?_
    obtain ⟨hin, hv⟩ := hv
    refine va_last hx hb hKK.1 hP hD hS 1 2 rfl rfl hin dX8_forgive_41 (fun H locs hP hD hS => ?_)
    obtain ⟨fm1_5, ef⟩ : ∃ z9_, z9_ = (vp_updL fm1_4 ((40 + x).toNatClampNeg) 0) := ⟨_, rfl⟩
    have hP : va_P G.1 vwCl [(m0, .inr (8, [.ref m1, .ref m2, .ref m3, .ref m4, .ref m5, .ref m6, .ref m7, .ref m8, .ref m9, .int fu, .int fd, .int fi, .int nu, .int nw, .int nf, .int bf, .int bn, .ref m10, .int ts, .int ap, .int fs, .int ln, .int fo, .int fa, .ref m11, .ref m12, .ref m13, .ref m14, .int wr])), aJ G m1 560 fm1_5, aZ G m2 2 ik, aI G m3 20 zs, aI G m4 20 cl, aI G m5 20 hs, aI G m6 20 ks, aI G m7 20 wa, aI G m8 20 ne, aI G m9 4 mn, aI G m10 400 tx, aI G m11 6 th, aI G m12 6 od, aI G m13 30 bk, aI G m14 30 bh] H := by rw [ef]; exact hP
    have hD : va_D A [(m0, .inr (8, [.ref m1, .ref m2, .ref m3, .ref m4, .ref m5, .ref m6, .ref m7, .ref m8, .ref m9, .int fu, .int fd, .int fi, .int nu, .int nw, .int nf, .int bf, .int bn, .ref m10, .int ts, .int ap, .int fs, .int ln, .int fo, .int fa, .ref m11, .ref m12, .ref m13, .ref m14, .int wr])), aJ G m1 560 fm1_5, aZ G m2 2 ik, aI G m3 20 zs, aI G m4 20 cl, aI G m5 20 hs, aI G m6 20 ks, aI G m7 20 wa, aI G m8 20 ne, aI G m9 4 mn, aI G m10 400 tx, aI G m11 6 th, aI G m12 6 od, aI G m13 30 bk, aI G m14 30 bh] := by rw [ef]; exact hD
    have hv := hv fm1_5 ef
    refine lv_iload_n hx hb dX8_forgive_42 rfl (lv_at hl 0 rfl) ?_
    exact x_iret (v := y_3) fm1_5 hQ hx hb hr hlocks hS dX8_forgive_43 hv hP hD
  · have hv := hv.2 (tv_eq.mp hc_2)
    refine lv_ldc (v := (-1000000001)) hx hb hown kl164 dX8_forgive_8 ?_
    exact x_iret (v := (-1000000001)) mw hQ hx hb hr hlocks hS dX8_forgive_10 hv hP hD
theorem v_X8_forgive (l : Launch) (G : Gt) (m0 m1 m2 m3 m4 m5 m6 m7 m8 m9 m10 m11 m12 m13 m14 : Nat) (sz : Nat) (mw : Nat → Int64) (ik : Nat → Int32) (zs : Nat → Int32) (cl : Nat → Int32) (hs : Nat → Int32) (ks : Nat → Int32) (wa : Nat → Int32) (ne : Nat → Int32) (mn : Nat → Int32) (tx : Nat → Int32) (th : Nat → Int32) (od : Nat → Int32) (bk : Nat → Int32) (bh : Nat → Int32) (fu : Int32) (fd : Int32) (fi : Int32) (nu : Int32) (nw : Int32) (nf : Int32) (bf : Int32) (bn : Int32) (ts : Int32) (ap : Int32) (fs : Int32) (ln : Int32) (fo : Int32) (fa : Int32) (wr : Int32) (x : Int32) (T : Nat → Nat → Int) (Ns : Nat) (Np : Nat) (v : Nat → Int) (M : Int) (hp : TOK T Ns Np ∧ MT T Ns Np fu fd fi zs cl ks ne mn ∧ MR 0 mw v ∧ NOK T Ns Np (fun _ => 2 * M) M v ∧ M ≤ 900000) : (inR x (mn 1) → (vp_in (50 + x) 560) ∧ (∀ (y_3 : Int32), (y_3 = (mw (50 + x).toNatClampNeg).toInt32) → ((vp_in (50 + x) 560) ∧ (∀ (fm1_4 : (Nat → Int64)), (fm1_4 = (vp_updL mw ((50 + x).toNatClampNeg) 0)) → ((vp_in (40 + x) 560) ∧ (∀ (fm1_5 : (Nat → Int64)), (fm1_5 = (vp_updL fm1_4 ((40 + x).toNatClampNeg) 0)) → (y_3.toInt = (qForgive Np v x.toInt).1 ∧ MR 0 fm1_5 (qForgive Np v x.toInt).2 ∧ MF 0 mw fm1_5))))))) ∧ (¬ (inR x (mn 1)) → ((-1000000001) : Int32).toInt = (qForgive Np v x.toInt).1 ∧ MR 0 mw (qForgive Np v x.toInt).2 ∧ MF 0 mw mw) := by
  obtain ⟨hT, hC, hR, hO, hM⟩ := hp
  have t2 := hT.2.1
  have hp_ := inR_iff (x := x) hC.2.1 (by omega)
  simp only [hp_]
  refine ⟨fun h1 => ?_, fun h1 => by rw [qForgive, if_neg h1]; exact ⟨rfl, hR, MF.rf 0 mw⟩⟩
  rw [qForgive, if_pos h1]
  obtain ⟨i, hi, rfl, hxi, hxt⟩ := in_nat h1 (by omega)
  rw [hxt]
  have e50 : 50 + nI i = nI (50 + i) := ix1 50 i
  have c50 : (nI (50 + i)).toNatClampNeg = 50 + i := nI_clamp (by omega)
  have e40 : 40 + nI i = nI (40 + i) := ix1 40 i
  have c40 : (nI (40 + i)).toNatClampNeg = 40 + i := nI_clamp (by omega)
  simp only [e50, c50, e40, c40]
  have b := nok_p hO hi
  have v50 : vp_in (nI (50 + i)) 560 := vp_in_nI (by omega) (by omega)
  have v40 : vp_in (nI (40 + i)) 560 := vp_in_nI (by omega) (by omega)
  refine ⟨v50, fun y ey => ⟨v50, fun w1 ew1 => ⟨v40, fun w2 ew2 => ⟨?_, ?_, ?_⟩⟩⟩⟩
  · rw [ey]; exact l_iZ (hR.z (by omega)) (by omega) (by omega)
  · rw [ew2, ew1]; exact (hR.u0 rfl).u0 rfl
  · rw [ew2, ew1]; exact ((MF.rf 0 mw).u0 (by omega)).u0 (by omega)
theorem k_X8_forgive (l : Launch) (G : Gt) (m0 m1 m2 m3 m4 m5 m6 m7 m8 m9 m10 m11 m12 m13 m14 : Nat) (sz : Nat) (mw : Nat → Int64) (ik : Nat → Int32) (zs : Nat → Int32) (cl : Nat → Int32) (hs : Nat → Int32) (ks : Nat → Int32) (wa : Nat → Int32) (ne : Nat → Int32) (mn : Nat → Int32) (tx : Nat → Int32) (th : Nat → Int32) (od : Nat → Int32) (bk : Nat → Int32) (bh : Nat → Int32) (fu : Int32) (fd : Int32) (fi : Int32) (nu : Int32) (nw : Int32) (nf : Int32) (bf : Int32) (bn : Int32) (ts : Int32) (ap : Int32) (fs : Int32) (ln : Int32) (fo : Int32) (fa : Int32) (wr : Int32) (x : Int32) (T : Nat → Nat → Int) (Ns : Nat) (Np : Nat) (v : Nat → Int) (M : Int) (hp : TOK T Ns Np ∧ MT T Ns Np fu fd fi zs cl ks ne mn ∧ MR 0 mw v ∧ NOK T Ns Np (fun _ => 2 * M) M v ∧ M ≤ 900000) : MetI l yX8_forgive wsX8_forgive 2 46 G [.ref m0, .int x] [(m0, .inr (8, [.ref m1, .ref m2, .ref m3, .ref m4, .ref m5, .ref m6, .ref m7, .ref m8, .ref m9, .int fu, .int fd, .int fi, .int nu, .int nw, .int nf, .int bf, .int bn, .ref m10, .int ts, .int ap, .int fs, .int ln, .int fo, .int fa, .ref m11, .ref m12, .ref m13, .ref m14, .int wr])), aJ G m1 560 mw, aZ G m2 2 ik, aI G m3 20 zs, aI G m4 20 cl, aI G m5 20 hs, aI G m6 20 ks, aI G m7 20 wa, aI G m8 20 ne, aI G m9 4 mn, aI G m10 400 tx, aI G m11 6 th, aI G m12 6 od, aI G m13 30 bk, aI G m14 30 bh] sz (fun (r : Int32) (u : (Nat → Int64)) => r.toInt = (qForgive Np v x.toInt).1 ∧ MR 0 u (qForgive Np v x.toInt).2 ∧ MF 0 mw u) (fun (u : (Nat → Int64)) => [(m0, .inr (8, [.ref m1, .ref m2, .ref m3, .ref m4, .ref m5, .ref m6, .ref m7, .ref m8, .ref m9, .int fu, .int fd, .int fi, .int nu, .int nw, .int nf, .int bf, .int bn, .ref m10, .int ts, .int ap, .int fs, .int ln, .int fo, .int fa, .ref m11, .ref m12, .ref m13, .ref m14, .int wr])), aJ G m1 560 u, aZ G m2 2 ik, aI G m3 20 zs, aI G m4 20 cl, aI G m5 20 hs, aI G m6 20 ks, aI G m7 20 wa, aI G m8 20 ne, aI G m9 4 mn, aI G m10 400 tx, aI G m11 6 th, aI G m12 6 od, aI G m13 30 bk, aI G m14 30 bh]) :=
  c_X8_forgive l G m0 m1 m2 m3 m4 m5 m6 m7 m8 m9 m10 m11 m12 m13 m14 sz mw ik zs cl hs ks wa ne mn tx th od bk bh fu fd fi nu nw nf bf bn ts ap fs ln fo fa wr x T Ns Np v M (v_X8_forgive l G m0 m1 m2 m3 m4 m5 m6 m7 m8 m9 m10 m11 m12 m13 m14 sz mw ik zs cl hs ks wa ne mn tx th od bk bh fu fd fi nu nw nf bf bn ts ap fs ln fo fa wr x T Ns Np v M hp)

set_option maxHeartbeats 4000000 in
set_option maxRecDepth 100000 in
theorem c_X8_copy (l : Launch) (G : Gt) (m0 m1 m2 m3 m4 m5 m6 m7 m8 m9 m10 m11 m12 m13 m14 : Nat) (sz : Nat) (mw : Nat → Int64) (ik : Nat → Int32) (zs : Nat → Int32) (cl : Nat → Int32) (hs : Nat → Int32) (ks : Nat → Int32) (wa : Nat → Int32) (ne : Nat → Int32) (mn : Nat → Int32) (tx : Nat → Int32) (th : Nat → Int32) (od : Nat → Int32) (bk : Nat → Int32) (bh : Nat → Int32) (fu : Int32) (fd : Int32) (fi : Int32) (nu : Int32) (nw : Int32) (nf : Int32) (bf : Int32) (bn : Int32) (ts : Int32) (ap : Int32) (fs : Int32) (ln : Int32) (fo : Int32) (fa : Int32) (wr : Int32) (x : Int32) (y : Int32) (X : Nat) (Y : Nat) (v : Nat → Int) (hv : ∃ (I2_3 : (Nat → Int64) → Int32 → Prop) (μ2_4 : (Nat → Int64) → Int32 → Nat), I2_3 mw 0 ∧ (∀ (fm1_1 : (Nat → Int64)) (x3_2 : Int32), I2_3 fm1_1 x3_2 → (140 ≤ x3_2 → MR Y fm1_1 v ∧ MF Y mw fm1_1) ∧ (¬ (140 ≤ x3_2) → (vp_in (x + x3_2) 560) ∧ ((vp_in (y + x3_2) 560) ∧ (∀ (fm1_8 : (Nat → Int64)), (fm1_8 = (vp_updL fm1_1 ((y + x3_2).toNatClampNeg) (fm1_1 (x + x3_2).toNatClampNeg))) → (I2_3 fm1_8 (x3_2 + 1) ∧ μ2_4 fm1_8 (x3_2 + 1) < μ2_4 fm1_1 x3_2)))))) : MetV l yX8_copy wsX8_copy 0 0 G [.ref m0, .int x, .int y] [(m0, .inr (8, [.ref m1, .ref m2, .ref m3, .ref m4, .ref m5, .ref m6, .ref m7, .ref m8, .ref m9, .int fu, .int fd, .int fi, .int nu, .int nw, .int nf, .int bf, .int bn, .ref m10, .int ts, .int ap, .int fs, .int ln, .int fo, .int fa, .ref m11, .ref m12, .ref m13, .ref m14, .int wr])), aJ G m1 560 mw, aZ G m2 2 ik, aI G m3 20 zs, aI G m4 20 cl, aI G m5 20 hs, aI G m6 20 ks, aI G m7 20 wa, aI G m8 20 ne, aI G m9 4 mn, aI G m10 400 tx, aI G m11 6 th, aI G m12 6 od, aI G m13 30 bk, aI G m14 30 bh] sz (fun (u : (Nat → Int64)) => MR Y u v ∧ MF Y mw u) (fun (u : (Nat → Int64)) => [(m0, .inr (8, [.ref m1, .ref m2, .ref m3, .ref m4, .ref m5, .ref m6, .ref m7, .ref m8, .ref m9, .int fu, .int fd, .int fi, .int nu, .int nw, .int nf, .int bf, .int bn, .ref m10, .int ts, .int ap, .int fs, .int ln, .int fo, .int fa, .ref m11, .ref m12, .ref m13, .ref m14, .int wr])), aJ G m1 560 u, aZ G m2 2 ik, aI G m3 20 zs, aI G m4 20 cl, aI G m5 20 hs, aI G m6 20 ks, aI G m7 20 wa, aI G m8 20 ne, aI G m9 4 mn, aI G m10 400 tx, aI G m11 6 th, aI G m12 6 od, aI G m13 30 bk, aI G m14 30 bh]) := by
  refine x_startV (cc := cX8_copy) (maxL := 4) (ret := none) (by decide) rfl (Nat.le_of_ble_eq_true rfl) ?_
  intro p e s m args below meth c A R Q ls hRf hRl hQ C hP hD hS hA hSS hl
  obtain ⟨hx, hb, hr, hml, hown, hts, hlocks, hKK⟩ := C
  have hown : s.vm.findClass RX8 = some m.cls := hown
  have hl : lv_has ls 4 [(0, .ref m0), (1, .int x), (2, .int y)] := hl
  have hinX8 : ∀ w ∈ u_ws RX8 TX8 29, w ∈ wsX8_copy := by decide +kernel
  have kl7 := hts (.fieldLink RX8 7 "WarmStonesModel" "w" "[J") (by decide +kernel)
  refine lv_iconst (v := 0) hx hb dX8_copy_0 (by decide) ?_
  refine lv_istore_n (lv' := [(3, .int 0), (0, .ref m0), (1, .int x), (2, .int y)]) hx hb dX8_copy_1 rfl hl (by decide) rfl (fun ls hl => ?_)
  obtain ⟨I2_3, μ2_4, hi0, hs_9⟩ := hv
  have Lm_11 : ∀ (n_10 : Nat) (fm1_1 : (Nat → Int64)) (x3_2 : Int32) (H : Heap) (locs : List Loc) (ls : Array Slot), μ2_4 fm1_1 x3_2 < n_10 → I2_3 fm1_1 x3_2 → va_P G.1 vwCl [(m0, .inr (8, [.ref m1, .ref m2, .ref m3, .ref m4, .ref m5, .ref m6, .ref m7, .ref m8, .ref m9, .int fu, .int fd, .int fi, .int nu, .int nw, .int nf, .int bf, .int bn, .ref m10, .int ts, .int ap, .int fs, .int ln, .int fo, .int fa, .ref m11, .ref m12, .ref m13, .ref m14, .int wr])), aJ G m1 560 fm1_1, aZ G m2 2 ik, aI G m3 20 zs, aI G m4 20 cl, aI G m5 20 hs, aI G m6 20 ks, aI G m7 20 wa, aI G m8 20 ne, aI G m9 4 mn, aI G m10 400 tx, aI G m11 6 th, aI G m12 6 od, aI G m13 30 bk, aI G m14 30 bh] H → va_D A [(m0, .inr (8, [.ref m1, .ref m2, .ref m3, .ref m4, .ref m5, .ref m6, .ref m7, .ref m8, .ref m9, .int fu, .int fd, .int fi, .int nu, .int nw, .int nf, .int bf, .int bn, .ref m10, .int ts, .int ap, .int fs, .int ln, .int fo, .int fa, .ref m11, .ref m12, .ref m13, .ref m14, .int wr])), aJ G m1 560 fm1_1, aZ G m2 2 ik, aI G m3 20 zs, aI G m4 20 cl, aI G m5 20 hs, aI G m6 20 ks, aI G m7 20 wa, aI G m8 20 ne, aI G m9 4 mn, aI G m10 400 tx, aI G m11 6 th, aI G m12 6 od, aI G m13 30 bk, aI G m14 30 bh] → va_S A s.heap H locs → lv_has ls 4 [(3, .int x3_2), (0, .ref m0), (1, .int x), (2, .int y)] → W p l e R s m args below meth c H locs 0 0 Q (F0 m 2 ls []) := by
    intro n_10
    induction n_10 with
    | zero => intro fm1_1 x3_2 H locs ls hm; exact absurd hm (Nat.not_lt_zero _)
    | succ n_10 ih_5 =>
      intro fm1_1 x3_2 H locs ls hI_6 hi hP hD hS hl
      have hv := hs_9 fm1_1 x3_2 hi
      refine lv_iload_n hx hb dX8_copy_2 rfl (lv_at hl 0 rfl) ?_
      refine lv_sipush (v := 140) hx hb dX8_copy_3 (by decide) ?_
      refine lv_icmp_ge (tgt := 31) hx hb dX8_copy_6 (by decide) (fun hc_7 => ?_) (fun hc_7 => ?_)
      · have hv := hv.1 hc_7
        exact x_vret fm1_1 hQ hx hb hr hlocks hS dX8_copy_31 hv hP hD
      · have hv := hv.2 hc_7
        refine lv_aload_n hx hb dX8_copy_9 rfl (lv_at hl 1 rfl) ?_
        refine va_get (D := G.1) (ci := 8) (v := .ref m1) (C := RX8) (T := TX8) (N := 29) hx hb hts hinX8 hown hKK.1 hP 0 rfl rfl 0 (by decide) kl7 (fun _ h9 => h9) rfl dX8_copy_10 ?_
        refine lv_iload_n hx hb dX8_copy_13 rfl (lv_at hl 3 rfl) ?_
        refine lv_iload_n hx hb dX8_copy_14 rfl (lv_at hl 0 rfl) ?_
        refine lv_iadd hx hb dX8_copy_15 ?_
        refine lv_aload_n hx hb dX8_copy_16 rfl (lv_at hl 1 rfl) ?_
        refine va_get (D := G.1) (ci := 8) (v := .ref m1) (C := RX8) (T := TX8) (N := 29) hx hb hts hinX8 hown hKK.1 hP 0 rfl rfl 0 (by decide) kl7 (fun _ h9 => h9) rfl dX8_copy_17 ?_
        refine lv_iload_n hx hb dX8_copy_20 rfl (lv_at hl 2 rfl) ?_
        refine lv_iload_n hx hb dX8_copy_21 rfl (lv_at hl 0 rfl) ?_
        refine lv_iadd hx hb dX8_copy_22 ?_
        obtain ⟨hin, hv⟩ := hv
        refine va_lald hx hb hKK.1 hP 1 2 rfl rfl hin dX8_copy_23 ?_
        obtain ⟨hin, hv⟩ := hv
        refine va_last hx hb hKK.1 hP hD hS 1 2 rfl rfl hin dX8_copy_24 (fun H locs hP hD hS => ?_)
        obtain ⟨fm1_8, ef⟩ : ∃ z9_, z9_ = (vp_updL fm1_1 ((y + x3_2).toNatClampNeg) (fm1_1 (x + x3_2).toNatClampNeg)) := ⟨_, rfl⟩
        have hP : va_P G.1 vwCl [(m0, .inr (8, [.ref m1, .ref m2, .ref m3, .ref m4, .ref m5, .ref m6, .ref m7, .ref m8, .ref m9, .int fu, .int fd, .int fi, .int nu, .int nw, .int nf, .int bf, .int bn, .ref m10, .int ts, .int ap, .int fs, .int ln, .int fo, .int fa, .ref m11, .ref m12, .ref m13, .ref m14, .int wr])), aJ G m1 560 fm1_8, aZ G m2 2 ik, aI G m3 20 zs, aI G m4 20 cl, aI G m5 20 hs, aI G m6 20 ks, aI G m7 20 wa, aI G m8 20 ne, aI G m9 4 mn, aI G m10 400 tx, aI G m11 6 th, aI G m12 6 od, aI G m13 30 bk, aI G m14 30 bh] H := by rw [ef]; exact hP
        have hD : va_D A [(m0, .inr (8, [.ref m1, .ref m2, .ref m3, .ref m4, .ref m5, .ref m6, .ref m7, .ref m8, .ref m9, .int fu, .int fd, .int fi, .int nu, .int nw, .int nf, .int bf, .int bn, .ref m10, .int ts, .int ap, .int fs, .int ln, .int fo, .int fa, .ref m11, .ref m12, .ref m13, .ref m14, .int wr])), aJ G m1 560 fm1_8, aZ G m2 2 ik, aI G m3 20 zs, aI G m4 20 cl, aI G m5 20 hs, aI G m6 20 ks, aI G m7 20 wa, aI G m8 20 ne, aI G m9 4 mn, aI G m10 400 tx, aI G m11 6 th, aI G m12 6 od, aI G m13 30 bk, aI G m14 30 bh] := by rw [ef]; exact hD
        have hv := hv fm1_8 ef
        refine lv_iinc (v := (x3_2 + 1)) (lv' := [(3, .int (x3_2 + 1)), (0, .ref m0), (1, .int x), (2, .int y)]) hx hb dX8_copy_25 hl (k := 0) rfl rfl (by decide) rfl (fun ls hl => ?_)
        refine lv_goto (tgt := 2) hx hb dX8_copy_28 (by decide) ?_
        exact ih_5 _ _ _ _ _ (Nat.lt_of_lt_of_le hv.2 (Nat.le_of_lt_succ hI_6)) hv.1 hP hD hS hl
  exact Lm_11 _ _ _ _ _ _ (Nat.lt_succ_self _) hi0 hP hD hS hl
theorem v_X8_copy (l : Launch) (G : Gt) (m0 m1 m2 m3 m4 m5 m6 m7 m8 m9 m10 m11 m12 m13 m14 : Nat) (sz : Nat) (mw : Nat → Int64) (ik : Nat → Int32) (zs : Nat → Int32) (cl : Nat → Int32) (hs : Nat → Int32) (ks : Nat → Int32) (wa : Nat → Int32) (ne : Nat → Int32) (mn : Nat → Int32) (tx : Nat → Int32) (th : Nat → Int32) (od : Nat → Int32) (bk : Nat → Int32) (bh : Nat → Int32) (fu : Int32) (fd : Int32) (fi : Int32) (nu : Int32) (nw : Int32) (nf : Int32) (bf : Int32) (bn : Int32) (ts : Int32) (ap : Int32) (fs : Int32) (ln : Int32) (fo : Int32) (fa : Int32) (wr : Int32) (x : Int32) (y : Int32) (X : Nat) (Y : Nat) (v : Nat → Int) (hp : x = nI X ∧ y = nI Y ∧ X + 140 ≤ 560 ∧ Y + 140 ≤ 560 ∧ (X + 140 ≤ Y ∨ Y + 140 ≤ X) ∧ MR X mw v) : ∃ (I2_3 : (Nat → Int64) → Int32 → Prop) (μ2_4 : (Nat → Int64) → Int32 → Nat), I2_3 mw 0 ∧ (∀ (fm1_1 : (Nat → Int64)) (x3_2 : Int32), I2_3 fm1_1 x3_2 → (140 ≤ x3_2 → MR Y fm1_1 v ∧ MF Y mw fm1_1) ∧ (¬ (140 ≤ x3_2) → (vp_in (x + x3_2) 560) ∧ ((vp_in (y + x3_2) 560) ∧ (∀ (fm1_8 : (Nat → Int64)), (fm1_8 = (vp_updL fm1_1 ((y + x3_2).toNatClampNeg) (fm1_1 (x + x3_2).toNatClampNeg))) → (I2_3 fm1_8 (x3_2 + 1) ∧ μ2_4 fm1_8 (x3_2 + 1) < μ2_4 fm1_1 x3_2))))) := by
  obtain ⟨rfl, rfl, hX, hY, hd, hR⟩ := hp
  refine ⟨fun w z => ∃ i, i ≤ 140 ∧ z = nI i ∧ ∀ j, w j = if Y ≤ j ∧ j < Y + i then mw (X + (j - Y)) else mw j, fun _ z => 140 - z.toNatClampNeg, ⟨0, by omega, rfl, fun j => by rw [if_neg (by omega)]⟩, ?_⟩
  rintro w z ⟨i, hi, rfl, hw⟩
  have ei : (nI i).toNatClampNeg = i := nI_clamp (by omega)
  have ei1 : nI i + 1 = nI (i + 1) := nI_1 i
  have ej : (nI (i + 1)).toNatClampNeg = i + 1 := nI_clamp (by omega)
  have eX : nI X + nI i = nI (X + i) := ix1 X i
  have cX : (nI (X + i)).toNatClampNeg = X + i := nI_clamp (by omega)
  have eY : nI Y + nI i = nI (Y + i) := ix1 Y i
  have cY : (nI (Y + i)).toNatClampNeg = Y + i := nI_clamp (by omega)
  simp only [ei, ei1, ej, eX, cX, eY, cY]
  have h140 : (140 : Int32) ≤ nI i ↔ 140 ≤ i := nI_leI (a := 140) (by omega) (by omega)
  rw [h140]
  refine ⟨fun h => ?_, fun h => ?_⟩
  · have e : i = 140 := by omega
    subst e
    refine ⟨fun k hk => ?_, fun j hj => ?_⟩
    · rw [hw, if_pos (by omega), show Y + k - Y = k by omega]; exact hR k hk
    · rw [hw, if_neg (by omega)]
  · refine ⟨vp_in_nI (by omega) (by omega), vp_in_nI (by omega) (by omega), fun w2 ew2 => ⟨⟨i + 1, by omega, rfl, fun j => ?_⟩, by omega⟩⟩
    rw [ew2, vp_updL]
    by_cases e : j = Y + i
    · rw [if_pos e, hw (X + i), if_neg (by omega), if_pos (by omega), e, show Y + i - Y = i by omega]
    · rw [if_neg e, hw j]
      by_cases l : Y ≤ j ∧ j < Y + i
      · rw [if_pos l, if_pos (by omega)]
      · rw [if_neg l, if_neg (by omega)]
theorem k_X8_copy (l : Launch) (G : Gt) (m0 m1 m2 m3 m4 m5 m6 m7 m8 m9 m10 m11 m12 m13 m14 : Nat) (sz : Nat) (mw : Nat → Int64) (ik : Nat → Int32) (zs : Nat → Int32) (cl : Nat → Int32) (hs : Nat → Int32) (ks : Nat → Int32) (wa : Nat → Int32) (ne : Nat → Int32) (mn : Nat → Int32) (tx : Nat → Int32) (th : Nat → Int32) (od : Nat → Int32) (bk : Nat → Int32) (bh : Nat → Int32) (fu : Int32) (fd : Int32) (fi : Int32) (nu : Int32) (nw : Int32) (nf : Int32) (bf : Int32) (bn : Int32) (ts : Int32) (ap : Int32) (fs : Int32) (ln : Int32) (fo : Int32) (fa : Int32) (wr : Int32) (x : Int32) (y : Int32) (X : Nat) (Y : Nat) (v : Nat → Int) (hp : x = nI X ∧ y = nI Y ∧ X + 140 ≤ 560 ∧ Y + 140 ≤ 560 ∧ (X + 140 ≤ Y ∨ Y + 140 ≤ X) ∧ MR X mw v) : MetV l yX8_copy wsX8_copy 0 0 G [.ref m0, .int x, .int y] [(m0, .inr (8, [.ref m1, .ref m2, .ref m3, .ref m4, .ref m5, .ref m6, .ref m7, .ref m8, .ref m9, .int fu, .int fd, .int fi, .int nu, .int nw, .int nf, .int bf, .int bn, .ref m10, .int ts, .int ap, .int fs, .int ln, .int fo, .int fa, .ref m11, .ref m12, .ref m13, .ref m14, .int wr])), aJ G m1 560 mw, aZ G m2 2 ik, aI G m3 20 zs, aI G m4 20 cl, aI G m5 20 hs, aI G m6 20 ks, aI G m7 20 wa, aI G m8 20 ne, aI G m9 4 mn, aI G m10 400 tx, aI G m11 6 th, aI G m12 6 od, aI G m13 30 bk, aI G m14 30 bh] sz (fun (u : (Nat → Int64)) => MR Y u v ∧ MF Y mw u) (fun (u : (Nat → Int64)) => [(m0, .inr (8, [.ref m1, .ref m2, .ref m3, .ref m4, .ref m5, .ref m6, .ref m7, .ref m8, .ref m9, .int fu, .int fd, .int fi, .int nu, .int nw, .int nf, .int bf, .int bn, .ref m10, .int ts, .int ap, .int fs, .int ln, .int fo, .int fa, .ref m11, .ref m12, .ref m13, .ref m14, .int wr])), aJ G m1 560 u, aZ G m2 2 ik, aI G m3 20 zs, aI G m4 20 cl, aI G m5 20 hs, aI G m6 20 ks, aI G m7 20 wa, aI G m8 20 ne, aI G m9 4 mn, aI G m10 400 tx, aI G m11 6 th, aI G m12 6 od, aI G m13 30 bk, aI G m14 30 bh]) :=
  c_X8_copy l G m0 m1 m2 m3 m4 m5 m6 m7 m8 m9 m10 m11 m12 m13 m14 sz mw ik zs cl hs ks wa ne mn tx th od bk bh fu fd fi nu nw nf bf bn ts ap fs ln fo fa wr x y X Y v (v_X8_copy l G m0 m1 m2 m3 m4 m5 m6 m7 m8 m9 m10 m11 m12 m13 m14 sz mw ik zs cl hs ks wa ne mn tx th od bk bh fu fd fi nu nw nf bf bn ts ap fs ln fo fa wr x y X Y v hp)

set_option maxHeartbeats 4000000 in
set_option maxRecDepth 100000 in
theorem c_X8_gift (l : Launch) (G : Gt) (m0 m1 m2 m3 m4 m5 m6 m7 m8 m9 m10 m11 m12 m13 m14 : Nat) (sz : Nat) (mw : Nat → Int64) (ik : Nat → Int32) (zs : Nat → Int32) (cl : Nat → Int32) (hs : Nat → Int32) (ks : Nat → Int32) (wa : Nat → Int32) (ne : Nat → Int32) (mn : Nat → Int32) (tx : Nat → Int32) (th : Nat → Int32) (od : Nat → Int32) (bk : Nat → Int32) (bh : Nat → Int32) (fu : Int32) (fd : Int32) (fi : Int32) (nu : Int32) (nw : Int32) (nf : Int32) (bf : Int32) (bn : Int32) (ts : Int32) (ap : Int32) (fs : Int32) (ln : Int32) (fo : Int32) (fa : Int32) (wr : Int32) (x : Int32) (y : Int32) (T : Nat → Nat → Int) (Ns : Nat) (Np : Nat) (v : Nat → Int) (M : Int) (hv : (inR x (mn 1) → (¬ y.toInt64 < 0 ∧ ¬ 99 < y.toInt64 → ∃ (I31_7 : Int64 → Int32 → Prop) (μ31_8 : Int64 → Int32 → Nat), I31_7 0 0 ∧ (∀ (x3_5 : Int64) (x5_6 : Int32), I31_7 x3_5 x5_6 → ((mn 1) ≤ x5_6 → x3_5.toInt32.toInt = aGift T Np v x.toInt y.toInt) ∧ (¬ ((mn 1) ≤ x5_6) → (x5_6 = x → I31_7 x3_5 (x5_6 + 1) ∧ μ31_8 x3_5 (x5_6 + 1) < μ31_8 x3_5 x5_6) ∧ (¬ (x5_6 = x) → (vp_in x5_6 20) ∧ ((¬ (ne x5_6.toNatClampNeg) = 0 → (vp_in x5_6 20) ∧ ((vp_in x5_6 20) ∧ ((¬ (ks x5_6.toNatClampNeg) = 4 → ∀ (y_15 : Int64), (y_15 = ((ne x5_6.toNatClampNeg) + (y * fu)).toInt64) → ((vp_in (10 + x5_6) 560) ∧ (∀ (y_17 : Int64), (y_17 = (x3_5 + (if ((mw (10 + x5_6).toNatClampNeg) - y_15) < 0 then 0 else ((mw (10 + x5_6).toNatClampNeg) - y_15)))) → (I31_7 y_17 (x5_6 + 1) ∧ μ31_8 y_17 (x5_6 + 1) < μ31_8 x3_5 x5_6)))) ∧ ((ks x5_6.toNatClampNeg) = 4 → ∀ (y_18 : Int64), (y_18 = ((ne x5_6.toNatClampNeg) + (y * (fu / 2))).toInt64) → ((vp_in (10 + x5_6) 560) ∧ (∀ (y_20 : Int64), (y_20 = (x3_5 + (if ((mw (10 + x5_6).toNatClampNeg) - y_18) < 0 then 0 else ((mw (10 + x5_6).toNatClampNeg) - y_18)))) → (I31_7 y_20 (x5_6 + 1) ∧ μ31_8 y_20 (x5_6 + 1) < μ31_8 x3_5 x5_6))))))) ∧ ((ne x5_6.toNatClampNeg) = 0 → (vp_in (10 + x5_6) 560) ∧ (∀ (y_22 : Int64), (y_22 = (x3_5 + (if ((mw (10 + x5_6).toNatClampNeg) - 0) < 0 then 0 else ((mw (10 + x5_6).toNatClampNeg) - 0)))) → (I31_7 y_22 (x5_6 + 1) ∧ μ31_8 y_22 (x5_6 + 1) < μ31_8 x3_5 x5_6)))))))) ∧ (¬ (¬ y.toInt64 < 0 ∧ ¬ 99 < y.toInt64) → ((-1000000002) : Int32).toInt = aGift T Np v x.toInt y.toInt)) ∧ (¬ (inR x (mn 1)) → ((-1000000001) : Int32).toInt = aGift T Np v x.toInt y.toInt)) : MetI l yX8_gift wsX8_gift 2 46 G [.ref m0, .int x, .int y] [(m0, .inr (8, [.ref m1, .ref m2, .ref m3, .ref m4, .ref m5, .ref m6, .ref m7, .ref m8, .ref m9, .int fu, .int fd, .int fi, .int nu, .int nw, .int nf, .int bf, .int bn, .ref m10, .int ts, .int ap, .int fs, .int ln, .int fo, .int fa, .ref m11, .ref m12, .ref m13, .ref m14, .int wr])), aJ G m1 560 mw, aZ G m2 2 ik, aI G m3 20 zs, aI G m4 20 cl, aI G m5 20 hs, aI G m6 20 ks, aI G m7 20 wa, aI G m8 20 ne, aI G m9 4 mn, aI G m10 400 tx, aI G m11 6 th, aI G m12 6 od, aI G m13 30 bk, aI G m14 30 bh] sz (fun (r : Int32) (_ : Unit) => r.toInt = aGift T Np v x.toInt y.toInt) (fun (_ : Unit) => [(m0, .inr (8, [.ref m1, .ref m2, .ref m3, .ref m4, .ref m5, .ref m6, .ref m7, .ref m8, .ref m9, .int fu, .int fd, .int fi, .int nu, .int nw, .int nf, .int bf, .int bn, .ref m10, .int ts, .int ap, .int fs, .int ln, .int fo, .int fa, .ref m11, .ref m12, .ref m13, .ref m14, .int wr])), aJ G m1 560 mw, aZ G m2 2 ik, aI G m3 20 zs, aI G m4 20 cl, aI G m5 20 hs, aI G m6 20 ks, aI G m7 20 wa, aI G m8 20 ne, aI G m9 4 mn, aI G m10 400 tx, aI G m11 6 th, aI G m12 6 od, aI G m13 30 bk, aI G m14 30 bh]) := by
  refine x_startI (cc := cX8_gift) (maxL := 8) (ret := (some .int)) (by decide) rfl (Nat.le_of_ble_eq_true rfl) ?_
  intro p e s m args below meth c A R Q ls hRf hRl hQ C hP hD hS hA hSS hl
  obtain ⟨hx, hb, hr, hml, hown, hts, hlocks, hKK⟩ := C
  have hown : s.vm.findClass RX8 = some m.cls := hown
  have hl : lv_has ls 8 [(0, .ref m0), (1, .int x), (2, .int y)] := hl
  have hinX8 : ∀ w ∈ u_ws RX8 TX8 29, w ∈ wsX8_gift := by decide +kernel
  have kl164 := hts (.constant RX8 164 (-1000000001)) (by decide +kernel)
  have kl254 := hts (.constantLong RX8 254 (99)) (by decide +kernel)
  have kl27 := hts (.fieldLink RX8 27 "WarmStonesModel" "kinds" "[I") (by decide +kernel)
  have kl33 := hts (.fieldLink RX8 33 "WarmStonesModel" "needs" "[I") (by decide +kernel)
  have kl36 := hts (.fieldLink RX8 36 "WarmStonesModel" "many" "[I") (by decide +kernel)
  have kl39 := hts (.fieldLink RX8 39 "WarmStonesModel" "frostUp" "I") (by decide +kernel)
  have kl7 := hts (.fieldLink RX8 7 "WarmStonesModel" "w" "[J") (by decide +kernel)
  have kl73 := hts (.constant RX8 73 (-1000000002)) (by decide +kernel)
  refine lv_aload_n hx hb dX8_gift_0 rfl (lv_at hl 0 rfl) ?_
  refine lv_iload_n hx hb dX8_gift_1 rfl (lv_at hl 1 rfl) ?_
  refine x_calliR (x_runV (As := [.int x]) (rest := []) (n := 1) (C := RX8) (ci := 8) ⟨hx, hb, hml, hown, hts⟩ (k_X8_isPerson l G m0 m1 m2 m3 m4 m5 m6 m7 m8 m9 m10 m11 m12 m13 m14 _ mw ik zs cl hs ks wa ne mn tx th od bk bh fu fd fi nu nw nf bf bn ts ap fs ln fo fa wr x) gX8_gift_X8_isPerson rfl (by decide +kernel) ⟨Nat.le_trans (Nat.le_of_ble_eq_true rfl) hRf, Nat.le_trans (Nat.le_of_ble_eq_true rfl) hRl⟩ hKK hSS hS hA hP hD [0, 1, 2, 3, 4, 5, 6, 7, 8, 9, 10, 11, 12, 13, 14] (by decide) rfl rfl rfl 0 rfl rfl hl.1 rfl (Nat.le_of_ble_eq_true rfl) dX8_gift_2) hP hD hS hA [0, 1, 2, 3, 4, 5, 6, 7, 8, 9, 10, 11, 12, 13, 14] rfl (fun r_1 _ H locs hw hP hS => ?_)
  replace hw := hw.symm; subst hw
  refine lv_if_ne (tgt := 11) hx hb dX8_gift_5 (by decide) (fun hc_2 => ?_) (fun hc_2 => ?_)
  · have hv := hv.1 (tv_eqn.mp hc_2)
    refine lv_iload_n hx hb dX8_gift_11 rfl (lv_at hl 2 rfl) ?_
    refine lv_i2l hx hb dX8_gift_12 rfl ?_
    refine lv_lconst (v := 0) hx hb dX8_gift_13 (by decide) ?_
    refine lv_ldc2 (v := 99) hx hb hown kl254 dX8_gift_14 ?_
    refine x_calliR (x_runS (As := [.long y.toInt64, .long 0, .long 99]) (rest := []) (n := 3) ⟨hx, hb, hml, hown, hts⟩ (k_X8_in l G  _ y.toInt64 0 99) gX8_gift_X8_in rfl (by decide +kernel) ⟨Nat.le_trans (Nat.le_of_ble_eq_true rfl) hRf, Nat.le_trans (Nat.le_of_ble_eq_true rfl) hRl⟩ hKK hSS hS hA hP hD [] (by decide) rfl rfl hl.1 rfl (Nat.le_of_ble_eq_true rfl) dX8_gift_17) hP hD hS hA [] rfl (fun r_3 _ H locs hw hP hS => ?_)
    replace hw := hw.symm; subst hw
    refine lv_if_ne (tgt := 26) hx hb dX8_gift_20 (by decide) (fun hc_4 => ?_) (fun hc_4 => ?_)
    · have hv := hv.1 (tv_eqn.mp hc_4)
      refine lv_lconst (v := 0) hx hb dX8_gift_26 (by decide) ?_
      refine lv_lstore_n (lv' := [(3, .long 0), (0, .ref m0), (1, .int x), (2, .int y)]) hx hb dX8_gift_27 rfl hl (by decide) rfl (fun ls hl => ?_)
      refine lv_iconst (v := 0) hx hb dX8_gift_28 (by decide) ?_
      refine lv_istore (lv' := [(5, .int 0), (3, .long 0), (0, .ref m0), (1, .int x), (2, .int y)]) hx hb dX8_gift_29 hl (by decide) rfl (fun ls hl => ?_)
      obtain ⟨I31_7, μ31_8, hi0, hs_23⟩ := hv
      have Lm_25 : ∀ (n_24 : Nat) (x3_5 : Int64) (x5_6 : Int32) (H : Heap) (locs : List Loc) (ls : Array Slot), μ31_8 x3_5 x5_6 < n_24 → I31_7 x3_5 x5_6 → va_P G.1 vwCl [(m0, .inr (8, [.ref m1, .ref m2, .ref m3, .ref m4, .ref m5, .ref m6, .ref m7, .ref m8, .ref m9, .int fu, .int fd, .int fi, .int nu, .int nw, .int nf, .int bf, .int bn, .ref m10, .int ts, .int ap, .int fs, .int ln, .int fo, .int fa, .ref m11, .ref m12, .ref m13, .ref m14, .int wr])), aJ G m1 560 mw, aZ G m2 2 ik, aI G m3 20 zs, aI G m4 20 cl, aI G m5 20 hs, aI G m6 20 ks, aI G m7 20 wa, aI G m8 20 ne, aI G m9 4 mn, aI G m10 400 tx, aI G m11 6 th, aI G m12 6 od, aI G m13 30 bk, aI G m14 30 bh] H → va_D A [(m0, .inr (8, [.ref m1, .ref m2, .ref m3, .ref m4, .ref m5, .ref m6, .ref m7, .ref m8, .ref m9, .int fu, .int fd, .int fi, .int nu, .int nw, .int nf, .int bf, .int bn, .ref m10, .int ts, .int ap, .int fs, .int ln, .int fo, .int fa, .ref m11, .ref m12, .ref m13, .ref m14, .int wr])), aJ G m1 560 mw, aZ G m2 2 ik, aI G m3 20 zs, aI G m4 20 cl, aI G m5 20 hs, aI G m6 20 ks, aI G m7 20 wa, aI G m8 20 ne, aI G m9 4 mn, aI G m10 400 tx, aI G m11 6 th, aI G m12 6 od, aI G m13 30 bk, aI G m14 30 bh] → va_S A s.heap H locs → lv_has ls 8 [(5, .int x5_6), (3, .long x3_5), (0, .ref m0), (1, .int x), (2, .int y)] → W p l e R s m args below meth c H locs 0 0 Q (F0 m 31 ls []) := by
        intro n_24
        induction n_24 with
        | zero => intro x3_5 x5_6 H locs ls hm; exact absurd hm (Nat.not_lt_zero _)
        | succ n_24 ih_9 =>
          intro x3_5 x5_6 H locs ls hI_10 hi hP hD hS hl
          have hv := hs_23 x3_5 x5_6 hi
          refine lv_iload hx hb dX8_gift_31 (lv_at hl 0 rfl) ?_
          refine lv_aload_n hx hb dX8_gift_33 rfl (lv_at hl 2 rfl) ?_
          refine va_get (D := G.1) (ci := 8) (v := .ref m9) (C := RX8) (T := TX8) (N := 29) hx hb hts hinX8 hown hKK.1 hP 0 rfl rfl 8 (by decide) kl36 (fun _ h9 => h9) rfl dX8_gift_34 ?_
          refine lv_iconst (v := 1) hx hb dX8_gift_37 (by decide) ?_
          refine va_iald hx hb hKK.1 hP 9 0 rfl rfl (by unfold vp_in; decide) dX8_gift_38 ?_
          refine lv_icmp_ge (tgt := 125) hx hb dX8_gift_39 (by decide) (fun hc_11 => ?_) (fun hc_11 => ?_)
          · have hv := hv.1 hc_11
            refine lv_lload_n hx hb dX8_gift_125 rfl (lv_at hl 1 rfl) ?_
            refine lv_l2i hx hb dX8_gift_126 rfl ?_
            exact x_iret (v := x3_5.toInt32) () hQ hx hb hr hlocks hS dX8_gift_127 hv hP hD
          · have hv := hv.2 hc_11
            refine lv_iload hx hb dX8_gift_42 (lv_at hl 0 rfl) ?_
            refine lv_iload_n hx hb dX8_gift_44 rfl (lv_at hl 3 rfl) ?_
            refine lv_icmp_eq (tgt := 119) hx hb dX8_gift_45 (by decide) (fun hc_12 => ?_) (fun hc_12 => ?_)
            · have hv := hv.1 hc_12
              refine lv_iinc (v := (x5_6 + 1)) (lv' := [(5, .int (x5_6 + 1)), (3, .long x3_5), (0, .ref m0), (1, .int x), (2, .int y)]) hx hb dX8_gift_119 hl (k := 0) rfl rfl (by decide) rfl (fun ls hl => ?_)
              refine lv_goto (tgt := 31) hx hb dX8_gift_122 (by decide) ?_
              exact ih_9 _ _ _ _ _ (Nat.lt_of_lt_of_le hv.2 (Nat.le_of_lt_succ hI_10)) hv.1 hP hD hS hl
            · have hv := hv.2 hc_12
              refine lv_aload_n hx hb dX8_gift_48 rfl (lv_at hl 2 rfl) ?_
              refine va_get (D := G.1) (ci := 8) (v := .ref m8) (C := RX8) (T := TX8) (N := 29) hx hb hts hinX8 hown hKK.1 hP 0 rfl rfl 7 (by decide) kl33 (fun _ h9 => h9) rfl dX8_gift_49 ?_
              refine lv_iload hx hb dX8_gift_52 (lv_at hl 0 rfl) ?_
              obtain ⟨hin, hv⟩ := hv
              refine va_iald hx hb hKK.1 hP 8 0 rfl rfl hin dX8_gift_54 ?_
              refine lv_if_ne (tgt := 62) hx hb dX8_gift_55 (by decide) (fun hc_13 => ?_) (fun hc_13 => ?_)
              · have hv := hv.1 hc_13
                refine lv_aload_n hx hb dX8_gift_62 rfl (lv_at hl 2 rfl) ?_
                refine va_get (D := G.1) (ci := 8) (v := .ref m8) (C := RX8) (T := TX8) (N := 29) hx hb hts hinX8 hown hKK.1 hP 0 rfl rfl 7 (by decide) kl33 (fun _ h9 => h9) rfl dX8_gift_63 ?_
                refine lv_iload hx hb dX8_gift_66 (lv_at hl 0 rfl) ?_
                obtain ⟨hin, hv⟩ := hv
                refine va_iald hx hb hKK.1 hP 8 0 rfl rfl hin dX8_gift_68 ?_
                refine lv_iload_n hx hb dX8_gift_69 rfl (lv_at hl 4 rfl) ?_
                refine lv_aload_n hx hb dX8_gift_70 rfl (lv_at hl 2 rfl) ?_
                refine va_get (D := G.1) (ci := 8) (v := .ref m6) (C := RX8) (T := TX8) (N := 29) hx hb hts hinX8 hown hKK.1 hP 0 rfl rfl 5 (by decide) kl27 (fun _ h9 => h9) rfl dX8_gift_71 ?_
                refine lv_iload hx hb dX8_gift_74 (lv_at hl 0 rfl) ?_
                obtain ⟨hin, hv⟩ := hv
                refine va_iald hx hb hKK.1 hP 6 0 rfl rfl hin dX8_gift_76 ?_
                refine lv_iconst (v := 4) hx hb dX8_gift_77 (by decide) ?_
                refine lv_icmp_ne (tgt := 90) hx hb dX8_gift_78 (by decide) (fun hc_14 => ?_) (fun hc_14 => ?_)
                · have hv := hv.1 hc_14
                  refine lv_aload_n hx hb dX8_gift_90 rfl (lv_at hl 2 rfl) ?_
                  refine va_get (D := G.1) (ci := 8) (v := .int fu) (C := RX8) (T := TX8) (N := 29) hx hb hts hinX8 hown hKK.1 hP 0 rfl rfl 9 (by decide) kl39 (fun _ h9 => h9) rfl dX8_gift_91 ?_
                  refine lv_imul hx hb dX8_gift_94 ?_
                  refine lv_iadd hx hb dX8_gift_95 ?_
                  refine lv_i2l hx hb dX8_gift_96 rfl ?_
                  refine lv_topl (fun y_15 ey => ?_)
                  have hv := hv y_15 ey
                  refine lv_lstore (lv' := [(6, .long y_15), (5, .int x5_6), (3, .long x3_5), (0, .ref m0), (1, .int x), (2, .int y)]) hx hb dX8_gift_97 hl (by decide) rfl (fun ls hl => ?_)
                  refine lv_lload_n hx hb dX8_gift_99 rfl (lv_at hl 2 rfl) ?_
                  refine lv_lconst (v := 0) hx hb dX8_gift_100 (by decide) ?_
                  refine lv_aload_n hx hb dX8_gift_101 rfl (lv_at hl 3 rfl) ?_
                  refine va_get (D := G.1) (ci := 8) (v := .ref m1) (C := RX8) (T := TX8) (N := 29) hx hb hts hinX8 hown hKK.1 hP 0 rfl rfl 0 (by decide) kl7 (fun _ h9 => h9) rfl dX8_gift_102 ?_
                  refine lv_bipush (v := 10) hx hb dX8_gift_105 (by decide) ?_
                  refine lv_iload hx hb dX8_gift_107 (lv_at hl 1 rfl) ?_
                  refine lv_iadd hx hb dX8_gift_109 ?_
                  obtain ⟨hin, hv⟩ := hv
                  refine va_lald hx hb hKK.1 hP 1 2 rfl rfl hin dX8_gift_110 ?_
                  refine lv_lload hx hb dX8_gift_111 (lv_at hl 0 rfl) ?_
                  refine lv_lsub hx hb dX8_gift_113 ?_
                  refine x_calllR (x_runS (As := [.long 0, .long ((mw (10 + x5_6).toNatClampNeg) - y_15)]) (rest := [.long x3_5]) (n := 2) ⟨hx, hb, hml, hown, hts⟩ (k_X8_greater l G  _ 0 ((mw (10 + x5_6).toNatClampNeg) - y_15)) gX8_gift_X8_greater rfl (by decide +kernel) ⟨Nat.le_trans (Nat.le_of_ble_eq_true rfl) hRf, Nat.le_trans (Nat.le_of_ble_eq_true rfl) hRl⟩ hKK hSS hS hA hP hD [] (by decide) rfl rfl hl.1 rfl (Nat.le_of_ble_eq_true rfl) dX8_gift_114) hP hD hS hA [] rfl (fun r_16 _ H locs hw hP hS => ?_)
                  replace hw := hw.symm; subst hw
                  refine lv_ladd hx hb dX8_gift_117 ?_
                  refine lv_topl (fun y_17 ey => ?_)
                  have hv := hv y_17 ey
                  refine lv_lstore_n (lv' := [(3, .long y_17), (6, .long y_15), (5, .int x5_6), (0, .ref m0), (1, .int x), (2, .int y)]) hx hb dX8_gift_118 rfl hl (by decide) rfl (fun ls hl => ?_)
                  refine lv_iinc (v := (x5_6 + 1)) (lv' := [(5, .int (x5_6 + 1)), (3, .long y_17), (6, .long y_15), (0, .ref m0), (1, .int x), (2, .int y)]) hx hb dX8_gift_119 hl (k := 2) rfl rfl (by decide) rfl (fun ls hl => ?_)
                  refine lv_goto (tgt := 31) hx hb dX8_gift_122 (by decide) ?_
                  exact ih_9 _ _ _ _ _ (Nat.lt_of_lt_of_le hv.2 (Nat.le_of_lt_succ hI_10)) hv.1 hP hD hS (lv_sub hl [0, 1, 3, 4, 5] rfl)
                · have hv := hv.2 hc_14
                  refine lv_aload_n hx hb dX8_gift_81 rfl (lv_at hl 2 rfl) ?_
                  refine va_get (D := G.1) (ci := 8) (v := .int fu) (C := RX8) (T := TX8) (N := 29) hx hb hts hinX8 hown hKK.1 hP 0 rfl rfl 9 (by decide) kl39 (fun _ h9 => h9) rfl dX8_gift_82 ?_
                  refine lv_iconst (v := 2) hx hb dX8_gift_85 (by decide) ?_
                  refine lv_idiv hx hb dX8_gift_86 (by decide) ?_
                  refine lv_goto (tgt := 94) hx hb dX8_gift_87 (by decide) ?_
                  refine lv_imul hx hb dX8_gift_94 ?_
                  refine lv_iadd hx hb dX8_gift_95 ?_
                  refine lv_i2l hx hb dX8_gift_96 rfl ?_
                  refine lv_topl (fun y_18 ey => ?_)
                  have hv := hv y_18 ey
                  refine lv_lstore (lv' := [(6, .long y_18), (5, .int x5_6), (3, .long x3_5), (0, .ref m0), (1, .int x), (2, .int y)]) hx hb dX8_gift_97 hl (by decide) rfl (fun ls hl => ?_)
                  refine lv_lload_n hx hb dX8_gift_99 rfl (lv_at hl 2 rfl) ?_
                  refine lv_lconst (v := 0) hx hb dX8_gift_100 (by decide) ?_
                  refine lv_aload_n hx hb dX8_gift_101 rfl (lv_at hl 3 rfl) ?_
                  refine va_get (D := G.1) (ci := 8) (v := .ref m1) (C := RX8) (T := TX8) (N := 29) hx hb hts hinX8 hown hKK.1 hP 0 rfl rfl 0 (by decide) kl7 (fun _ h9 => h9) rfl dX8_gift_102 ?_
                  refine lv_bipush (v := 10) hx hb dX8_gift_105 (by decide) ?_
                  refine lv_iload hx hb dX8_gift_107 (lv_at hl 1 rfl) ?_
                  refine lv_iadd hx hb dX8_gift_109 ?_
                  obtain ⟨hin, hv⟩ := hv
                  refine va_lald hx hb hKK.1 hP 1 2 rfl rfl hin dX8_gift_110 ?_
                  refine lv_lload hx hb dX8_gift_111 (lv_at hl 0 rfl) ?_
                  refine lv_lsub hx hb dX8_gift_113 ?_
                  refine x_calllR (x_runS (As := [.long 0, .long ((mw (10 + x5_6).toNatClampNeg) - y_18)]) (rest := [.long x3_5]) (n := 2) ⟨hx, hb, hml, hown, hts⟩ (k_X8_greater l G  _ 0 ((mw (10 + x5_6).toNatClampNeg) - y_18)) gX8_gift_X8_greater rfl (by decide +kernel) ⟨Nat.le_trans (Nat.le_of_ble_eq_true rfl) hRf, Nat.le_trans (Nat.le_of_ble_eq_true rfl) hRl⟩ hKK hSS hS hA hP hD [] (by decide) rfl rfl hl.1 rfl (Nat.le_of_ble_eq_true rfl) dX8_gift_114) hP hD hS hA [] rfl (fun r_19 _ H locs hw hP hS => ?_)
                  replace hw := hw.symm; subst hw
                  refine lv_ladd hx hb dX8_gift_117 ?_
                  refine lv_topl (fun y_20 ey => ?_)
                  have hv := hv y_20 ey
                  refine lv_lstore_n (lv' := [(3, .long y_20), (6, .long y_18), (5, .int x5_6), (0, .ref m0), (1, .int x), (2, .int y)]) hx hb dX8_gift_118 rfl hl (by decide) rfl (fun ls hl => ?_)
                  refine lv_iinc (v := (x5_6 + 1)) (lv' := [(5, .int (x5_6 + 1)), (3, .long y_20), (6, .long y_18), (0, .ref m0), (1, .int x), (2, .int y)]) hx hb dX8_gift_119 hl (k := 2) rfl rfl (by decide) rfl (fun ls hl => ?_)
                  refine lv_goto (tgt := 31) hx hb dX8_gift_122 (by decide) ?_
                  exact ih_9 _ _ _ _ _ (Nat.lt_of_lt_of_le hv.2 (Nat.le_of_lt_succ hI_10)) hv.1 hP hD hS (lv_sub hl [0, 1, 3, 4, 5] rfl)
              · have hv := hv.2 hc_13
                refine lv_lconst (v := 0) hx hb dX8_gift_58 (by decide) ?_
                refine lv_goto (tgt := 97) hx hb dX8_gift_59 (by decide) ?_
                refine lv_lstore (lv' := [(6, .long 0), (5, .int x5_6), (3, .long x3_5), (0, .ref m0), (1, .int x), (2, .int y)]) hx hb dX8_gift_97 hl (by decide) rfl (fun ls hl => ?_)
                refine lv_lload_n hx hb dX8_gift_99 rfl (lv_at hl 2 rfl) ?_
                refine lv_lconst (v := 0) hx hb dX8_gift_100 (by decide) ?_
                refine lv_aload_n hx hb dX8_gift_101 rfl (lv_at hl 3 rfl) ?_
                refine va_get (D := G.1) (ci := 8) (v := .ref m1) (C := RX8) (T := TX8) (N := 29) hx hb hts hinX8 hown hKK.1 hP 0 rfl rfl 0 (by decide) kl7 (fun _ h9 => h9) rfl dX8_gift_102 ?_
                refine lv_bipush (v := 10) hx hb dX8_gift_105 (by decide) ?_
                refine lv_iload hx hb dX8_gift_107 (lv_at hl 1 rfl) ?_
                refine lv_iadd hx hb dX8_gift_109 ?_
                obtain ⟨hin, hv⟩ := hv
                refine va_lald hx hb hKK.1 hP 1 2 rfl rfl hin dX8_gift_110 ?_
                refine lv_lload hx hb dX8_gift_111 (lv_at hl 0 rfl) ?_
                refine lv_lsub hx hb dX8_gift_113 ?_
                refine x_calllR (x_runS (As := [.long 0, .long ((mw (10 + x5_6).toNatClampNeg) - 0)]) (rest := [.long x3_5]) (n := 2) ⟨hx, hb, hml, hown, hts⟩ (k_X8_greater l G  _ 0 ((mw (10 + x5_6).toNatClampNeg) - 0)) gX8_gift_X8_greater rfl (by decide +kernel) ⟨Nat.le_trans (Nat.le_of_ble_eq_true rfl) hRf, Nat.le_trans (Nat.le_of_ble_eq_true rfl) hRl⟩ hKK hSS hS hA hP hD [] (by decide) rfl rfl hl.1 rfl (Nat.le_of_ble_eq_true rfl) dX8_gift_114) hP hD hS hA [] rfl (fun r_21 _ H locs hw hP hS => ?_)
                replace hw := hw.symm; subst hw
                refine lv_ladd hx hb dX8_gift_117 ?_
                refine lv_topl (fun y_22 ey => ?_)
                have hv := hv y_22 ey
                refine lv_lstore_n (lv' := [(3, .long y_22), (6, .long 0), (5, .int x5_6), (0, .ref m0), (1, .int x), (2, .int y)]) hx hb dX8_gift_118 rfl hl (by decide) rfl (fun ls hl => ?_)
                refine lv_iinc (v := (x5_6 + 1)) (lv' := [(5, .int (x5_6 + 1)), (3, .long y_22), (6, .long 0), (0, .ref m0), (1, .int x), (2, .int y)]) hx hb dX8_gift_119 hl (k := 2) rfl rfl (by decide) rfl (fun ls hl => ?_)
                refine lv_goto (tgt := 31) hx hb dX8_gift_122 (by decide) ?_
                exact ih_9 _ _ _ _ _ (Nat.lt_of_lt_of_le hv.2 (Nat.le_of_lt_succ hI_10)) hv.1 hP hD hS (lv_sub hl [0, 1, 3, 4, 5] rfl)
      exact Lm_25 _ _ _ _ _ _ (Nat.lt_succ_self _) hi0 hP hD hS hl
    · have hv := hv.2 (tv_eq.mp hc_4)
      refine lv_ldc (v := (-1000000002)) hx hb hown kl73 dX8_gift_23 ?_
      exact x_iret (v := (-1000000002)) () hQ hx hb hr hlocks hS dX8_gift_25 hv hP hD
  · have hv := hv.2 (tv_eq.mp hc_2)
    refine lv_ldc (v := (-1000000001)) hx hb hown kl164 dX8_gift_8 ?_
    exact x_iret (v := (-1000000001)) () hQ hx hb hr hlocks hS dX8_gift_10 hv hP hD
theorem v_X8_gift (l : Launch) (G : Gt) (m0 m1 m2 m3 m4 m5 m6 m7 m8 m9 m10 m11 m12 m13 m14 : Nat) (sz : Nat) (mw : Nat → Int64) (ik : Nat → Int32) (zs : Nat → Int32) (cl : Nat → Int32) (hs : Nat → Int32) (ks : Nat → Int32) (wa : Nat → Int32) (ne : Nat → Int32) (mn : Nat → Int32) (tx : Nat → Int32) (th : Nat → Int32) (od : Nat → Int32) (bk : Nat → Int32) (bh : Nat → Int32) (fu : Int32) (fd : Int32) (fi : Int32) (nu : Int32) (nw : Int32) (nf : Int32) (bf : Int32) (bn : Int32) (ts : Int32) (ap : Int32) (fs : Int32) (ln : Int32) (fo : Int32) (fa : Int32) (wr : Int32) (x : Int32) (y : Int32) (T : Nat → Nat → Int) (Ns : Nat) (Np : Nat) (v : Nat → Int) (M : Int) (hp : TOK T Ns Np ∧ MT T Ns Np fu fd fi zs cl ks ne mn ∧ MR 0 mw v ∧ NOK T Ns Np (fun _ => 2 * M) M v ∧ M ≤ 900000) : (inR x (mn 1) → (¬ y.toInt64 < 0 ∧ ¬ 99 < y.toInt64 → ∃ (I31_7 : Int64 → Int32 → Prop) (μ31_8 : Int64 → Int32 → Nat), I31_7 0 0 ∧ (∀ (x3_5 : Int64) (x5_6 : Int32), I31_7 x3_5 x5_6 → ((mn 1) ≤ x5_6 → x3_5.toInt32.toInt = aGift T Np v x.toInt y.toInt) ∧ (¬ ((mn 1) ≤ x5_6) → (x5_6 = x → I31_7 x3_5 (x5_6 + 1) ∧ μ31_8 x3_5 (x5_6 + 1) < μ31_8 x3_5 x5_6) ∧ (¬ (x5_6 = x) → (vp_in x5_6 20) ∧ ((¬ (ne x5_6.toNatClampNeg) = 0 → (vp_in x5_6 20) ∧ ((vp_in x5_6 20) ∧ ((¬ (ks x5_6.toNatClampNeg) = 4 → ∀ (y_15 : Int64), (y_15 = ((ne x5_6.toNatClampNeg) + (y * fu)).toInt64) → ((vp_in (10 + x5_6) 560) ∧ (∀ (y_17 : Int64), (y_17 = (x3_5 + (if ((mw (10 + x5_6).toNatClampNeg) - y_15) < 0 then 0 else ((mw (10 + x5_6).toNatClampNeg) - y_15)))) → (I31_7 y_17 (x5_6 + 1) ∧ μ31_8 y_17 (x5_6 + 1) < μ31_8 x3_5 x5_6)))) ∧ ((ks x5_6.toNatClampNeg) = 4 → ∀ (y_18 : Int64), (y_18 = ((ne x5_6.toNatClampNeg) + (y * (fu / 2))).toInt64) → ((vp_in (10 + x5_6) 560) ∧ (∀ (y_20 : Int64), (y_20 = (x3_5 + (if ((mw (10 + x5_6).toNatClampNeg) - y_18) < 0 then 0 else ((mw (10 + x5_6).toNatClampNeg) - y_18)))) → (I31_7 y_20 (x5_6 + 1) ∧ μ31_8 y_20 (x5_6 + 1) < μ31_8 x3_5 x5_6))))))) ∧ ((ne x5_6.toNatClampNeg) = 0 → (vp_in (10 + x5_6) 560) ∧ (∀ (y_22 : Int64), (y_22 = (x3_5 + (if ((mw (10 + x5_6).toNatClampNeg) - 0) < 0 then 0 else ((mw (10 + x5_6).toNatClampNeg) - 0)))) → (I31_7 y_22 (x5_6 + 1) ∧ μ31_8 y_22 (x5_6 + 1) < μ31_8 x3_5 x5_6)))))))) ∧ (¬ (¬ y.toInt64 < 0 ∧ ¬ 99 < y.toInt64) → ((-1000000002) : Int32).toInt = aGift T Np v x.toInt y.toInt)) ∧ (¬ (inR x (mn 1)) → ((-1000000001) : Int32).toInt = aGift T Np v x.toInt y.toInt) := by
  obtain ⟨hT, hC, hR, hO, hM⟩ := hp
  have t2 := hT.2.1
  have t5 := hT.2.2.2.2
  have hnp := hC.2.1
  have hfu := hC.2.2.2.2.1
  have hp_ := inR_iff (x := x) hC.2.1 (by omega)
  have ey : y.toInt64.toInt = y.toInt := i_l rfl
  have hy_ : (¬ y.toInt64 < 0 ∧ ¬ 99 < y.toInt64) ↔ (0 ≤ y.toInt ∧ y.toInt ≤ 99) := by
    rw [l_lt ey (show (0 : Int64).toInt = 0 from rfl), l_lt (show (99 : Int64).toInt = 99 from rfl) ey]
    omega
  simp only [hp_, hy_]
  refine ⟨fun h1 => ⟨fun h2 => ?_, fun h2 => by rw [aGift, if_pos h1, if_neg h2]; rfl⟩, fun h1 => by rw [aGift, if_neg h1]; rfl⟩
  rw [aGift, if_pos h1, if_pos h2]
  obtain ⟨p, hp, rfl, hxp, hxt⟩ := in_nat h1 (by omega)
  rw [hxt]
  refine ⟨fun s z => ∃ i, i ≤ Np ∧ z = nI i ∧ s.toInt = zGift T v p y.toInt i, fun _ z => 9 - z.toNatClampNeg, ⟨0, by omega, rfl, rfl⟩, ?_⟩
  rintro s z ⟨i, hi, rfl, hs⟩
  have ei : (nI i).toNatClampNeg = i := nI_clamp (by omega)
  have ei1 : nI i + 1 = nI (i + 1) := nI_1 i
  have ej : (nI (i + 1)).toNatClampNeg = i + 1 := nI_clamp (by omega)
  have e10 : 10 + nI i = nI (10 + i) := ix1 10 i
  have c10 : (nI (10 + i)).toNatClampNeg = 10 + i := nI_clamp (by omega)
  simp only [ei, ei1, ej, e10, c10, hnp]
  have gb := zGift_bd (p := p) hT hO h2.1 h2.2 i hi
  refine ⟨fun h => ?_, fun h => ?_⟩
  · have e : Np = i := by have := (nI_leI (a := Np) (b := i) (by omega) (by omega)).mp h; omega
    subst e
    exact l_iZ hs (by omega) (by omega)
  · have hlt : i < Np := by
      rcases Nat.lt_or_ge i Np with q | q
      · exact q
      · exact absurd ((nI_leI (by omega) (by omega)).mpr q) h
    have bw := (nok_p hO hlt).1
    have bn := hT.2.2.2.1 i hlt
    have hn := (hC.2.2.2.1 i hlt).2
    have hk := (hC.2.2.2.1 i hlt).1
    have vW : vp_in (nI (10 + i)) 560 := vp_in_nI (by omega) (by omega)
    have v20 : vp_in (nI i) 20 := vp_in_nI (by omega) (by omega)
    have n0 : ne i = 0 ↔ T 3 i = 0 := i_eq hn rfl
    have k4 : ks i = 4 ↔ T 2 i = 4 := i_eq hk rfl
    have hip : nI i = nI p ↔ i = p := nI_eq (by omega) (by omega)
    simp only [n0, k4, hip]
    refine ⟨fun h3 => ⟨⟨i + 1, by omega, rfl, by rw [zGift, if_pos h3]; omega⟩, by omega⟩, fun hne => ⟨v20, fun h4 => ⟨v20, v20, fun h5 y3 ey3 => ?_, fun h5 y3 ey3 => ?_⟩, fun h4 => ?_⟩⟩
    · have mm := mul99 h2.1 h2.2 t5.1 t5.2.1
      have ek : y3.toInt = T 3 i + y.toInt * T 4 0 := by rw [ey3]; exact i_l (i_add hn (i_mul rfl hfu (by omega) (by omega)) (by omega) (by omega))
      have fz : frostZ (T 2 i) (T 4 0) (T 4 1) false = T 4 0 := by unfold frostZ; rw [if_neg h5]; rfl
      have hw0 := hR.z (i := 10 + i) (by omega)
      refine ⟨vW, fun y2 ey2 => ⟨⟨i + 1, by omega, rfl, ?_⟩, by omega⟩⟩
      have ed := l_sub hw0 ek (by omega) (by omega)
      have em : (if mw (10 + i) - y3 < 0 then 0 else mw (10 + i) - y3).toInt = maxZ 0 (v (10 + i) - (T 3 i + y.toInt * T 4 0)) := by
        rw [l_if (l_lt ed (show (0 : Int64).toInt = 0 from rfl)) (show (0 : Int64).toInt = 0 from rfl) ed]
        unfold maxZ
        split <;> split <;> omega
      have mb := maxZ_bd (d := v (10 + i) - (T 3 i + y.toInt * T 4 0)) (by omega)
      rw [ey2, zGift, if_neg hne, if_neg h4, fz]
      exact l_add hs em (by omega) (by omega)
    · have mm := mul99 (b := T 4 0 / 2) h2.1 h2.2 (by omega) (by omega)
      have eh : (fu / 2).toInt = T 4 0 / 2 := by
        rw [i_div hfu (show (2 : Int32).toInt = 2 from rfl) (by omega)]
        exact if_pos t5.1
      have ek : y3.toInt = T 3 i + y.toInt * (T 4 0 / 2) := by rw [ey3]; exact i_l (i_add hn (i_mul rfl eh (by omega) (by omega)) (by omega) (by omega))
      have fz : frostZ (T 2 i) (T 4 0) (T 4 1) false = T 4 0 / 2 := by unfold frostZ; rw [if_pos h5]
      have hw0 := hR.z (i := 10 + i) (by omega)
      refine ⟨vW, fun y2 ey2 => ⟨⟨i + 1, by omega, rfl, ?_⟩, by omega⟩⟩
      have ed := l_sub hw0 ek (by omega) (by omega)
      have em : (if mw (10 + i) - y3 < 0 then 0 else mw (10 + i) - y3).toInt = maxZ 0 (v (10 + i) - (T 3 i + y.toInt * (T 4 0 / 2))) := by
        rw [l_if (l_lt ed (show (0 : Int64).toInt = 0 from rfl)) (show (0 : Int64).toInt = 0 from rfl) ed]
        unfold maxZ
        split <;> split <;> omega
      have mb := maxZ_bd (d := v (10 + i) - (T 3 i + y.toInt * (T 4 0 / 2))) (by omega)
      rw [ey2, zGift, if_neg hne, if_neg h4, fz]
      exact l_add hs em (by omega) (by omega)
    · have ek : (0 : Int64).toInt = 0 := rfl
      have hw0 := hR.z (i := 10 + i) (by omega)
      refine ⟨vW, fun y2 ey2 => ⟨⟨i + 1, by omega, rfl, ?_⟩, by omega⟩⟩
      have ed := l_sub hw0 ek (by omega) (by omega)
      have em : (if mw (10 + i) - 0 < 0 then 0 else mw (10 + i) - 0).toInt = maxZ 0 (v (10 + i) - 0) := by
        rw [l_if (l_lt ed (show (0 : Int64).toInt = 0 from rfl)) (show (0 : Int64).toInt = 0 from rfl) ed]
        unfold maxZ
        split <;> split <;> omega
      have mb := maxZ_bd (d := v (10 + i) - 0) (by omega)
      rw [ey2, zGift, if_neg hne, if_pos h4]
      exact l_add hs em (by omega) (by omega)
theorem k_X8_gift (l : Launch) (G : Gt) (m0 m1 m2 m3 m4 m5 m6 m7 m8 m9 m10 m11 m12 m13 m14 : Nat) (sz : Nat) (mw : Nat → Int64) (ik : Nat → Int32) (zs : Nat → Int32) (cl : Nat → Int32) (hs : Nat → Int32) (ks : Nat → Int32) (wa : Nat → Int32) (ne : Nat → Int32) (mn : Nat → Int32) (tx : Nat → Int32) (th : Nat → Int32) (od : Nat → Int32) (bk : Nat → Int32) (bh : Nat → Int32) (fu : Int32) (fd : Int32) (fi : Int32) (nu : Int32) (nw : Int32) (nf : Int32) (bf : Int32) (bn : Int32) (ts : Int32) (ap : Int32) (fs : Int32) (ln : Int32) (fo : Int32) (fa : Int32) (wr : Int32) (x : Int32) (y : Int32) (T : Nat → Nat → Int) (Ns : Nat) (Np : Nat) (v : Nat → Int) (M : Int) (hp : TOK T Ns Np ∧ MT T Ns Np fu fd fi zs cl ks ne mn ∧ MR 0 mw v ∧ NOK T Ns Np (fun _ => 2 * M) M v ∧ M ≤ 900000) : MetI l yX8_gift wsX8_gift 2 46 G [.ref m0, .int x, .int y] [(m0, .inr (8, [.ref m1, .ref m2, .ref m3, .ref m4, .ref m5, .ref m6, .ref m7, .ref m8, .ref m9, .int fu, .int fd, .int fi, .int nu, .int nw, .int nf, .int bf, .int bn, .ref m10, .int ts, .int ap, .int fs, .int ln, .int fo, .int fa, .ref m11, .ref m12, .ref m13, .ref m14, .int wr])), aJ G m1 560 mw, aZ G m2 2 ik, aI G m3 20 zs, aI G m4 20 cl, aI G m5 20 hs, aI G m6 20 ks, aI G m7 20 wa, aI G m8 20 ne, aI G m9 4 mn, aI G m10 400 tx, aI G m11 6 th, aI G m12 6 od, aI G m13 30 bk, aI G m14 30 bh] sz (fun (r : Int32) (_ : Unit) => r.toInt = aGift T Np v x.toInt y.toInt) (fun (_ : Unit) => [(m0, .inr (8, [.ref m1, .ref m2, .ref m3, .ref m4, .ref m5, .ref m6, .ref m7, .ref m8, .ref m9, .int fu, .int fd, .int fi, .int nu, .int nw, .int nf, .int bf, .int bn, .ref m10, .int ts, .int ap, .int fs, .int ln, .int fo, .int fa, .ref m11, .ref m12, .ref m13, .ref m14, .int wr])), aJ G m1 560 mw, aZ G m2 2 ik, aI G m3 20 zs, aI G m4 20 cl, aI G m5 20 hs, aI G m6 20 ks, aI G m7 20 wa, aI G m8 20 ne, aI G m9 4 mn, aI G m10 400 tx, aI G m11 6 th, aI G m12 6 od, aI G m13 30 bk, aI G m14 30 bh]) :=
  c_X8_gift l G m0 m1 m2 m3 m4 m5 m6 m7 m8 m9 m10 m11 m12 m13 m14 sz mw ik zs cl hs ks wa ne mn tx th od bk bh fu fd fi nu nw nf bf bn ts ap fs ln fo fa wr x y T Ns Np v M (v_X8_gift l G m0 m1 m2 m3 m4 m5 m6 m7 m8 m9 m10 m11 m12 m13 m14 sz mw ik zs cl hs ks wa ne mn tx th od bk bh fu fd fi nu nw nf bf bn ts ap fs ln fo fa wr x y T Ns Np v M hp)

set_option maxHeartbeats 4000000 in
set_option maxRecDepth 100000 in
theorem c_X8_write (l : Launch) (G : Gt) (m0 m1 m2 m3 m4 m5 m6 m7 m8 m9 m10 m11 m12 m13 m14 : Nat) (sz : Nat) (mw : Nat → Int64) (ik : Nat → Int32) (zs : Nat → Int32) (cl : Nat → Int32) (hs : Nat → Int32) (ks : Nat → Int32) (wa : Nat → Int32) (ne : Nat → Int32) (mn : Nat → Int32) (tx : Nat → Int32) (th : Nat → Int32) (od : Nat → Int32) (bk : Nat → Int32) (bh : Nat → Int32) (fu : Int32) (fd : Int32) (fi : Int32) (nu : Int32) (nw : Int32) (nf : Int32) (bf : Int32) (bn : Int32) (ts : Int32) (ap : Int32) (fs : Int32) (ln : Int32) (fo : Int32) (fa : Int32) (wr : Int32) (x : Int32) (y : Int32) (Ns : Nat) (en : Nat) (hv : (inR x (mn 0) → (¬ y.toInt64 < 0 ∧ ¬ 9999 < y.toInt64 → (¬ wr = 30 → (vp_in wr 30) ∧ (∀ (fm13_6 : (Nat → Int32)), (fm13_6 = (upd bk wr.toNatClampNeg x)) → ((vp_in wr 30) ∧ (∀ (fm14_7 : (Nat → Int32)), (fm14_7 = (upd bh wr.toNatClampNeg y)) → (((¬ (0 ≤ x.toInt ∧ x.toInt < Ns) ∧ (wr + 1) = -1000000001 ∧ fm13_6 = bk ∧ fm14_7 = bh ∧ (wr + 1) = wr) ∨ ((0 ≤ x.toInt ∧ x.toInt < Ns) ∧ ¬ (0 ≤ y.toInt ∧ y.toInt ≤ 9999) ∧ (wr + 1) = -1000000002 ∧ fm13_6 = bk ∧ fm14_7 = bh ∧ (wr + 1) = wr) ∨ ((0 ≤ x.toInt ∧ x.toInt < Ns) ∧ (0 ≤ y.toInt ∧ y.toInt ≤ 9999) ∧ en = 30 ∧ (wr + 1) = -1000000004 ∧ fm13_6 = bk ∧ fm14_7 = bh ∧ (wr + 1) = wr) ∨ ((0 ≤ x.toInt ∧ x.toInt < Ns) ∧ (0 ≤ y.toInt ∧ y.toInt ≤ 9999) ∧ en < 30 ∧ (wr + 1) = nI (en + 1) ∧ fm13_6 = upd bk en x ∧ fm14_7 = upd bh en y ∧ (wr + 1) = nI (en + 1)))))))) ∧ (wr = 30 → ((¬ (0 ≤ x.toInt ∧ x.toInt < Ns) ∧ ((-1000000004) : Int32) = -1000000001 ∧ bk = bk ∧ bh = bh ∧ wr = wr) ∨ ((0 ≤ x.toInt ∧ x.toInt < Ns) ∧ ¬ (0 ≤ y.toInt ∧ y.toInt ≤ 9999) ∧ ((-1000000004) : Int32) = -1000000002 ∧ bk = bk ∧ bh = bh ∧ wr = wr) ∨ ((0 ≤ x.toInt ∧ x.toInt < Ns) ∧ (0 ≤ y.toInt ∧ y.toInt ≤ 9999) ∧ en = 30 ∧ ((-1000000004) : Int32) = -1000000004 ∧ bk = bk ∧ bh = bh ∧ wr = wr) ∨ ((0 ≤ x.toInt ∧ x.toInt < Ns) ∧ (0 ≤ y.toInt ∧ y.toInt ≤ 9999) ∧ en < 30 ∧ ((-1000000004) : Int32) = nI (en + 1) ∧ bk = upd bk en x ∧ bh = upd bh en y ∧ wr = nI (en + 1))))) ∧ (¬ (¬ y.toInt64 < 0 ∧ ¬ 9999 < y.toInt64) → ((¬ (0 ≤ x.toInt ∧ x.toInt < Ns) ∧ ((-1000000002) : Int32) = -1000000001 ∧ bk = bk ∧ bh = bh ∧ wr = wr) ∨ ((0 ≤ x.toInt ∧ x.toInt < Ns) ∧ ¬ (0 ≤ y.toInt ∧ y.toInt ≤ 9999) ∧ ((-1000000002) : Int32) = -1000000002 ∧ bk = bk ∧ bh = bh ∧ wr = wr) ∨ ((0 ≤ x.toInt ∧ x.toInt < Ns) ∧ (0 ≤ y.toInt ∧ y.toInt ≤ 9999) ∧ en = 30 ∧ ((-1000000002) : Int32) = -1000000004 ∧ bk = bk ∧ bh = bh ∧ wr = wr) ∨ ((0 ≤ x.toInt ∧ x.toInt < Ns) ∧ (0 ≤ y.toInt ∧ y.toInt ≤ 9999) ∧ en < 30 ∧ ((-1000000002) : Int32) = nI (en + 1) ∧ bk = upd bk en x ∧ bh = upd bh en y ∧ wr = nI (en + 1))))) ∧ (¬ (inR x (mn 0)) → ((¬ (0 ≤ x.toInt ∧ x.toInt < Ns) ∧ ((-1000000001) : Int32) = -1000000001 ∧ bk = bk ∧ bh = bh ∧ wr = wr) ∨ ((0 ≤ x.toInt ∧ x.toInt < Ns) ∧ ¬ (0 ≤ y.toInt ∧ y.toInt ≤ 9999) ∧ ((-1000000001) : Int32) = -1000000002 ∧ bk = bk ∧ bh = bh ∧ wr = wr) ∨ ((0 ≤ x.toInt ∧ x.toInt < Ns) ∧ (0 ≤ y.toInt ∧ y.toInt ≤ 9999) ∧ en = 30 ∧ ((-1000000001) : Int32) = -1000000004 ∧ bk = bk ∧ bh = bh ∧ wr = wr) ∨ ((0 ≤ x.toInt ∧ x.toInt < Ns) ∧ (0 ≤ y.toInt ∧ y.toInt ≤ 9999) ∧ en < 30 ∧ ((-1000000001) : Int32) = nI (en + 1) ∧ bk = upd bk en x ∧ bh = upd bh en y ∧ wr = nI (en + 1))))) : MetI l yX8_write wsX8_write 2 46 G [.ref m0, .int x, .int y] [(m0, .inr (8, [.ref m1, .ref m2, .ref m3, .ref m4, .ref m5, .ref m6, .ref m7, .ref m8, .ref m9, .int fu, .int fd, .int fi, .int nu, .int nw, .int nf, .int bf, .int bn, .ref m10, .int ts, .int ap, .int fs, .int ln, .int fo, .int fa, .ref m11, .ref m12, .ref m13, .ref m14, .int wr])), aJ G m1 560 mw, aZ G m2 2 ik, aI G m3 20 zs, aI G m4 20 cl, aI G m5 20 hs, aI G m6 20 ks, aI G m7 20 wa, aI G m8 20 ne, aI G m9 4 mn, aI G m10 400 tx, aI G m11 6 th, aI G m12 6 od, aI G m13 30 bk, aI G m14 30 bh] sz (fun (r : Int32) (u : (Nat → Int32) × (Nat → Int32) × (Int32)) => ((¬ (0 ≤ x.toInt ∧ x.toInt < Ns) ∧ r = -1000000001 ∧ u.1 = bk ∧ u.2.1 = bh ∧ u.2.2 = wr) ∨ ((0 ≤ x.toInt ∧ x.toInt < Ns) ∧ ¬ (0 ≤ y.toInt ∧ y.toInt ≤ 9999) ∧ r = -1000000002 ∧ u.1 = bk ∧ u.2.1 = bh ∧ u.2.2 = wr) ∨ ((0 ≤ x.toInt ∧ x.toInt < Ns) ∧ (0 ≤ y.toInt ∧ y.toInt ≤ 9999) ∧ en = 30 ∧ r = -1000000004 ∧ u.1 = bk ∧ u.2.1 = bh ∧ u.2.2 = wr) ∨ ((0 ≤ x.toInt ∧ x.toInt < Ns) ∧ (0 ≤ y.toInt ∧ y.toInt ≤ 9999) ∧ en < 30 ∧ r = nI (en + 1) ∧ u.1 = upd bk en x ∧ u.2.1 = upd bh en y ∧ u.2.2 = nI (en + 1)))) (fun (u : (Nat → Int32) × (Nat → Int32) × (Int32)) => [(m0, .inr (8, [.ref m1, .ref m2, .ref m3, .ref m4, .ref m5, .ref m6, .ref m7, .ref m8, .ref m9, .int fu, .int fd, .int fi, .int nu, .int nw, .int nf, .int bf, .int bn, .ref m10, .int ts, .int ap, .int fs, .int ln, .int fo, .int fa, .ref m11, .ref m12, .ref m13, .ref m14, .int u.2.2])), aJ G m1 560 mw, aZ G m2 2 ik, aI G m3 20 zs, aI G m4 20 cl, aI G m5 20 hs, aI G m6 20 ks, aI G m7 20 wa, aI G m8 20 ne, aI G m9 4 mn, aI G m10 400 tx, aI G m11 6 th, aI G m12 6 od, aI G m13 30 u.1, aI G m14 30 u.2.1]) := by
  refine x_startI (cc := cX8_write) (maxL := 3) (ret := (some .int)) (by decide) rfl (Nat.le_of_ble_eq_true rfl) ?_
  intro p e s m args below meth c A R Q ls hRf hRl hQ C hP hD hS hA hSS hl
  obtain ⟨hx, hb, hr, hml, hown, hts, hlocks, hKK⟩ := C
  have hown : s.vm.findClass RX8 = some m.cls := hown
  have hl : lv_has ls 3 [(0, .ref m0), (1, .int x), (2, .int y)] := hl
  have hinX8 : ∀ w ∈ u_ws RX8 TX8 29, w ∈ wsX8_write := by decide +kernel
  have kl149 := hts (.fieldLink RX8 149 "WarmStonesModel" "written" "I") (by decide +kernel)
  have kl164 := hts (.constant RX8 164 (-1000000001)) (by decide +kernel)
  have kl222 := hts (.constantLong RX8 222 (9999)) (by decide +kernel)
  have kl58 := hts (.fieldLink RX8 58 "WarmStonesModel" "bookStone" "[I") (by decide +kernel)
  have kl61 := hts (.fieldLink RX8 61 "WarmStonesModel" "bookHeat" "[I") (by decide +kernel)
  have kl73 := hts (.constant RX8 73 (-1000000002)) (by decide +kernel)
  have kl77 := hts (.constant RX8 77 (-1000000004)) (by decide +kernel)
  refine lv_aload_n hx hb dX8_write_0 rfl (lv_at hl 0 rfl) ?_
  refine lv_iload_n hx hb dX8_write_1 rfl (lv_at hl 1 rfl) ?_
  refine x_calliR (x_runV (As := [.int x]) (rest := []) (n := 1) (C := RX8) (ci := 8) ⟨hx, hb, hml, hown, hts⟩ (k_X8_isStone l G m0 m1 m2 m3 m4 m5 m6 m7 m8 m9 m10 m11 m12 m13 m14 _ mw ik zs cl hs ks wa ne mn tx th od bk bh fu fd fi nu nw nf bf bn ts ap fs ln fo fa wr x) gX8_write_X8_isStone rfl (by decide +kernel) ⟨Nat.le_trans (Nat.le_of_ble_eq_true rfl) hRf, Nat.le_trans (Nat.le_of_ble_eq_true rfl) hRl⟩ hKK hSS hS hA hP hD [0, 1, 2, 3, 4, 5, 6, 7, 8, 9, 10, 11, 12, 13, 14] (by decide) rfl rfl rfl 0 rfl rfl hl.1 rfl (Nat.le_of_ble_eq_true rfl) dX8_write_2) hP hD hS hA [0, 1, 2, 3, 4, 5, 6, 7, 8, 9, 10, 11, 12, 13, 14] rfl (fun r_1 _ H locs hw hP hS => ?_)
  replace hw := hw.symm; subst hw
  refine lv_if_ne (tgt := 11) hx hb dX8_write_5 (by decide) (fun hc_2 => ?_) (fun hc_2 => ?_)
  · have hv := hv.1 (tv_eqn.mp hc_2)
    refine lv_iload_n hx hb dX8_write_11 rfl (lv_at hl 2 rfl) ?_
    refine lv_i2l hx hb dX8_write_12 rfl ?_
    refine lv_lconst (v := 0) hx hb dX8_write_13 (by decide) ?_
    refine lv_ldc2 (v := 9999) hx hb hown kl222 dX8_write_14 ?_
    refine x_calliR (x_runS (As := [.long y.toInt64, .long 0, .long 9999]) (rest := []) (n := 3) ⟨hx, hb, hml, hown, hts⟩ (k_X8_in l G  _ y.toInt64 0 9999) gX8_write_X8_in rfl (by decide +kernel) ⟨Nat.le_trans (Nat.le_of_ble_eq_true rfl) hRf, Nat.le_trans (Nat.le_of_ble_eq_true rfl) hRl⟩ hKK hSS hS hA hP hD [] (by decide) rfl rfl hl.1 rfl (Nat.le_of_ble_eq_true rfl) dX8_write_17) hP hD hS hA [] rfl (fun r_3 _ H locs hw hP hS => ?_)
    replace hw := hw.symm; subst hw
    refine lv_if_ne (tgt := 26) hx hb dX8_write_20 (by decide) (fun hc_4 => ?_) (fun hc_4 => ?_)
    · have hv := hv.1 (tv_eqn.mp hc_4)
      refine lv_aload_n hx hb dX8_write_26 rfl (lv_at hl 0 rfl) ?_
      refine va_get (D := G.1) (ci := 8) (v := .int wr) (C := RX8) (T := TX8) (N := 29) hx hb hts hinX8 hown hKK.1 hP 0 rfl rfl 28 (by decide) kl149 (fun _ h9 => h9) rfl dX8_write_27 ?_
      refine lv_bipush (v := 30) hx hb dX8_write_30 (by decide) ?_
      refine lv_icmp_ne (tgt := 38) hx hb dX8_write_32 (by decide) (fun hc_5 => ?_) (fun hc_5 => ?_)
      · have hv := hv.1 hc_5
        refine lv_aload_n hx hb dX8_write_38 rfl (lv_at hl 0 rfl) ?_
        refine va_get (D := G.1) (ci := 8) (v := .ref m13) (C := RX8) (T := TX8) (N := 29) hx hb hts hinX8 hown hKK.1 hP 0 rfl rfl 26 (by decide) kl58 (fun _ h9 => h9) rfl dX8_write_39 ?_
        refine lv_aload_n hx hb dX8_write_42 rfl (lv_at hl 0 rfl) ?_
        refine va_get (D := G.1) (ci := 8) (v := .int wr) (C := RX8) (T := TX8) (N := 29) hx hb hts hinX8 hown hKK.1 hP 0 rfl rfl 28 (by decide) kl149 (fun _ h9 => h9) rfl dX8_write_43 ?_
        refine lv_iload_n hx hb dX8_write_46 rfl (lv_at hl 1 rfl) ?_
        obtain ⟨hin, hv⟩ := hv
        refine va_iast hx hb hKK.1 hP hD hS 13 0 rfl rfl hin dX8_write_47 (fun H locs hP hD hS => ?_)
        obtain ⟨fm13_6, ef⟩ : ∃ z9_, z9_ = (upd bk wr.toNatClampNeg x) := ⟨_, rfl⟩
        have hP : va_P G.1 vwCl [(m0, .inr (8, [.ref m1, .ref m2, .ref m3, .ref m4, .ref m5, .ref m6, .ref m7, .ref m8, .ref m9, .int fu, .int fd, .int fi, .int nu, .int nw, .int nf, .int bf, .int bn, .ref m10, .int ts, .int ap, .int fs, .int ln, .int fo, .int fa, .ref m11, .ref m12, .ref m13, .ref m14, .int wr])), aJ G m1 560 mw, aZ G m2 2 ik, aI G m3 20 zs, aI G m4 20 cl, aI G m5 20 hs, aI G m6 20 ks, aI G m7 20 wa, aI G m8 20 ne, aI G m9 4 mn, aI G m10 400 tx, aI G m11 6 th, aI G m12 6 od, aI G m13 30 fm13_6, aI G m14 30 bh] H := by rw [ef]; exact hP
        have hD : va_D A [(m0, .inr (8, [.ref m1, .ref m2, .ref m3, .ref m4, .ref m5, .ref m6, .ref m7, .ref m8, .ref m9, .int fu, .int fd, .int fi, .int nu, .int nw, .int nf, .int bf, .int bn, .ref m10, .int ts, .int ap, .int fs, .int ln, .int fo, .int fa, .ref m11, .ref m12, .ref m13, .ref m14, .int wr])), aJ G m1 560 mw, aZ G m2 2 ik, aI G m3 20 zs, aI G m4 20 cl, aI G m5 20 hs, aI G m6 20 ks, aI G m7 20 wa, aI G m8 20 ne, aI G m9 4 mn, aI G m10 400 tx, aI G m11 6 th, aI G m12 6 od, aI G m13 30 fm13_6, aI G m14 30 bh] := by rw [ef]; exact hD
        have hv := hv fm13_6 ef
        refine lv_aload_n hx hb dX8_write_48 rfl (lv_at hl 0 rfl) ?_
        refine va_get (D := G.1) (ci := 8) (v := .ref m14) (C := RX8) (T := TX8) (N := 29) hx hb hts hinX8 hown hKK.1 hP 0 rfl rfl 27 (by decide) kl61 (fun _ h9 => h9) rfl dX8_write_49 ?_
        refine lv_aload_n hx hb dX8_write_52 rfl (lv_at hl 0 rfl) ?_
        refine va_get (D := G.1) (ci := 8) (v := .int wr) (C := RX8) (T := TX8) (N := 29) hx hb hts hinX8 hown hKK.1 hP 0 rfl rfl 28 (by decide) kl149 (fun _ h9 => h9) rfl dX8_write_53 ?_
        refine lv_iload_n hx hb dX8_write_56 rfl (lv_at hl 2 rfl) ?_
        obtain ⟨hin, hv⟩ := hv
        refine va_iast hx hb hKK.1 hP hD hS 14 0 rfl rfl hin dX8_write_57 (fun H locs hP hD hS => ?_)
        obtain ⟨fm14_7, ef⟩ : ∃ z9_, z9_ = (upd bh wr.toNatClampNeg y) := ⟨_, rfl⟩
        have hP : va_P G.1 vwCl [(m0, .inr (8, [.ref m1, .ref m2, .ref m3, .ref m4, .ref m5, .ref m6, .ref m7, .ref m8, .ref m9, .int fu, .int fd, .int fi, .int nu, .int nw, .int nf, .int bf, .int bn, .ref m10, .int ts, .int ap, .int fs, .int ln, .int fo, .int fa, .ref m11, .ref m12, .ref m13, .ref m14, .int wr])), aJ G m1 560 mw, aZ G m2 2 ik, aI G m3 20 zs, aI G m4 20 cl, aI G m5 20 hs, aI G m6 20 ks, aI G m7 20 wa, aI G m8 20 ne, aI G m9 4 mn, aI G m10 400 tx, aI G m11 6 th, aI G m12 6 od, aI G m13 30 fm13_6, aI G m14 30 fm14_7] H := by rw [ef]; exact hP
        have hD : va_D A [(m0, .inr (8, [.ref m1, .ref m2, .ref m3, .ref m4, .ref m5, .ref m6, .ref m7, .ref m8, .ref m9, .int fu, .int fd, .int fi, .int nu, .int nw, .int nf, .int bf, .int bn, .ref m10, .int ts, .int ap, .int fs, .int ln, .int fo, .int fa, .ref m11, .ref m12, .ref m13, .ref m14, .int wr])), aJ G m1 560 mw, aZ G m2 2 ik, aI G m3 20 zs, aI G m4 20 cl, aI G m5 20 hs, aI G m6 20 ks, aI G m7 20 wa, aI G m8 20 ne, aI G m9 4 mn, aI G m10 400 tx, aI G m11 6 th, aI G m12 6 od, aI G m13 30 fm13_6, aI G m14 30 fm14_7] := by rw [ef]; exact hD
        have hv := hv fm14_7 ef
        refine lv_aload_n hx hb dX8_write_58 rfl (lv_at hl 0 rfl) ?_
        refine lv_dup hx hb dX8_write_59 rfl ?_
        refine va_get (D := G.1) (ci := 8) (v := .int wr) (C := RX8) (T := TX8) (N := 29) hx hb hts hinX8 hown hKK.1 hP 0 rfl rfl 28 (by decide) kl149 (fun _ h9 => h9) rfl dX8_write_60 ?_
        refine lv_iconst (v := 1) hx hb dX8_write_63 (by decide) ?_
        refine lv_iadd hx hb dX8_write_64 ?_
        refine va_put (D := G.1) (ci := 8) (v := .int (wr + 1)) (ty := .int) (C := RX8) (T := TX8) (N := 29) hx hb hts hinX8 tyX8 tyX8_ok nmX8 hown hKK.1 hP hD hS 0 rfl rfl 28 (by decide) kl149 (fun _ h9 => h9) rfl (by decide +kernel) rfl rfl (Nat.le_of_ble_eq_true rfl) dX8_write_65 (fun H locs hP hD hS => ?_)
        have hP : va_P G.1 vwCl [(m0, .inr (8, [.ref m1, .ref m2, .ref m3, .ref m4, .ref m5, .ref m6, .ref m7, .ref m8, .ref m9, .int fu, .int fd, .int fi, .int nu, .int nw, .int nf, .int bf, .int bn, .ref m10, .int ts, .int ap, .int fs, .int ln, .int fo, .int fa, .ref m11, .ref m12, .ref m13, .ref m14, .int (wr + 1)])), aJ G m1 560 mw, aZ G m2 2 ik, aI G m3 20 zs, aI G m4 20 cl, aI G m5 20 hs, aI G m6 20 ks, aI G m7 20 wa, aI G m8 20 ne, aI G m9 4 mn, aI G m10 400 tx, aI G m11 6 th, aI G m12 6 od, aI G m13 30 fm13_6, aI G m14 30 fm14_7] H := hP
        have hD : va_D A [(m0, .inr (8, [.ref m1, .ref m2, .ref m3, .ref m4, .ref m5, .ref m6, .ref m7, .ref m8, .ref m9, .int fu, .int fd, .int fi, .int nu, .int nw, .int nf, .int bf, .int bn, .ref m10, .int ts, .int ap, .int fs, .int ln, .int fo, .int fa, .ref m11, .ref m12, .ref m13, .ref m14, .int (wr + 1)])), aJ G m1 560 mw, aZ G m2 2 ik, aI G m3 20 zs, aI G m4 20 cl, aI G m5 20 hs, aI G m6 20 ks, aI G m7 20 wa, aI G m8 20 ne, aI G m9 4 mn, aI G m10 400 tx, aI G m11 6 th, aI G m12 6 od, aI G m13 30 fm13_6, aI G m14 30 fm14_7] := hD
        refine lv_aload_n hx hb dX8_write_68 rfl (lv_at hl 0 rfl) ?_
        refine va_get (D := G.1) (ci := 8) (v := .int (wr + 1)) (C := RX8) (T := TX8) (N := 29) hx hb hts hinX8 hown hKK.1 hP 0 rfl rfl 28 (by decide) kl149 (fun _ h9 => h9) rfl dX8_write_69 ?_
        exact x_iret (v := (wr + 1)) (fm13_6, fm14_7, (wr + 1)) hQ hx hb hr hlocks hS dX8_write_72 hv hP hD
      · have hv := hv.2 hc_5
        refine lv_ldc (v := (-1000000004)) hx hb hown kl77 dX8_write_35 ?_
        exact x_iret (v := (-1000000004)) (bk, bh, wr) hQ hx hb hr hlocks hS dX8_write_37 hv hP hD
    · have hv := hv.2 (tv_eq.mp hc_4)
      refine lv_ldc (v := (-1000000002)) hx hb hown kl73 dX8_write_23 ?_
      exact x_iret (v := (-1000000002)) (bk, bh, wr) hQ hx hb hr hlocks hS dX8_write_25 hv hP hD
  · have hv := hv.2 (tv_eq.mp hc_2)
    refine lv_ldc (v := (-1000000001)) hx hb hown kl164 dX8_write_8 ?_
    exact x_iret (v := (-1000000001)) (bk, bh, wr) hQ hx hb hr hlocks hS dX8_write_10 hv hP hD
theorem v_X8_write (l : Launch) (G : Gt) (m0 m1 m2 m3 m4 m5 m6 m7 m8 m9 m10 m11 m12 m13 m14 : Nat) (sz : Nat) (mw : Nat → Int64) (ik : Nat → Int32) (zs : Nat → Int32) (cl : Nat → Int32) (hs : Nat → Int32) (ks : Nat → Int32) (wa : Nat → Int32) (ne : Nat → Int32) (mn : Nat → Int32) (tx : Nat → Int32) (th : Nat → Int32) (od : Nat → Int32) (bk : Nat → Int32) (bh : Nat → Int32) (fu : Int32) (fd : Int32) (fi : Int32) (nu : Int32) (nw : Int32) (nf : Int32) (bf : Int32) (bn : Int32) (ts : Int32) (ap : Int32) (fs : Int32) (ln : Int32) (fo : Int32) (fa : Int32) (wr : Int32) (x : Int32) (y : Int32) (Ns : Nat) (en : Nat) (hp : Ns ≤ 9 ∧ mn 0 = nI Ns ∧ wr = nI en ∧ en ≤ 30) : (inR x (mn 0) → (¬ y.toInt64 < 0 ∧ ¬ 9999 < y.toInt64 → (¬ wr = 30 → (vp_in wr 30) ∧ (∀ (fm13_6 : (Nat → Int32)), (fm13_6 = (upd bk wr.toNatClampNeg x)) → ((vp_in wr 30) ∧ (∀ (fm14_7 : (Nat → Int32)), (fm14_7 = (upd bh wr.toNatClampNeg y)) → (((¬ (0 ≤ x.toInt ∧ x.toInt < Ns) ∧ (wr + 1) = -1000000001 ∧ fm13_6 = bk ∧ fm14_7 = bh ∧ (wr + 1) = wr) ∨ ((0 ≤ x.toInt ∧ x.toInt < Ns) ∧ ¬ (0 ≤ y.toInt ∧ y.toInt ≤ 9999) ∧ (wr + 1) = -1000000002 ∧ fm13_6 = bk ∧ fm14_7 = bh ∧ (wr + 1) = wr) ∨ ((0 ≤ x.toInt ∧ x.toInt < Ns) ∧ (0 ≤ y.toInt ∧ y.toInt ≤ 9999) ∧ en = 30 ∧ (wr + 1) = -1000000004 ∧ fm13_6 = bk ∧ fm14_7 = bh ∧ (wr + 1) = wr) ∨ ((0 ≤ x.toInt ∧ x.toInt < Ns) ∧ (0 ≤ y.toInt ∧ y.toInt ≤ 9999) ∧ en < 30 ∧ (wr + 1) = nI (en + 1) ∧ fm13_6 = upd bk en x ∧ fm14_7 = upd bh en y ∧ (wr + 1) = nI (en + 1)))))))) ∧ (wr = 30 → ((¬ (0 ≤ x.toInt ∧ x.toInt < Ns) ∧ ((-1000000004) : Int32) = -1000000001 ∧ bk = bk ∧ bh = bh ∧ wr = wr) ∨ ((0 ≤ x.toInt ∧ x.toInt < Ns) ∧ ¬ (0 ≤ y.toInt ∧ y.toInt ≤ 9999) ∧ ((-1000000004) : Int32) = -1000000002 ∧ bk = bk ∧ bh = bh ∧ wr = wr) ∨ ((0 ≤ x.toInt ∧ x.toInt < Ns) ∧ (0 ≤ y.toInt ∧ y.toInt ≤ 9999) ∧ en = 30 ∧ ((-1000000004) : Int32) = -1000000004 ∧ bk = bk ∧ bh = bh ∧ wr = wr) ∨ ((0 ≤ x.toInt ∧ x.toInt < Ns) ∧ (0 ≤ y.toInt ∧ y.toInt ≤ 9999) ∧ en < 30 ∧ ((-1000000004) : Int32) = nI (en + 1) ∧ bk = upd bk en x ∧ bh = upd bh en y ∧ wr = nI (en + 1))))) ∧ (¬ (¬ y.toInt64 < 0 ∧ ¬ 9999 < y.toInt64) → ((¬ (0 ≤ x.toInt ∧ x.toInt < Ns) ∧ ((-1000000002) : Int32) = -1000000001 ∧ bk = bk ∧ bh = bh ∧ wr = wr) ∨ ((0 ≤ x.toInt ∧ x.toInt < Ns) ∧ ¬ (0 ≤ y.toInt ∧ y.toInt ≤ 9999) ∧ ((-1000000002) : Int32) = -1000000002 ∧ bk = bk ∧ bh = bh ∧ wr = wr) ∨ ((0 ≤ x.toInt ∧ x.toInt < Ns) ∧ (0 ≤ y.toInt ∧ y.toInt ≤ 9999) ∧ en = 30 ∧ ((-1000000002) : Int32) = -1000000004 ∧ bk = bk ∧ bh = bh ∧ wr = wr) ∨ ((0 ≤ x.toInt ∧ x.toInt < Ns) ∧ (0 ≤ y.toInt ∧ y.toInt ≤ 9999) ∧ en < 30 ∧ ((-1000000002) : Int32) = nI (en + 1) ∧ bk = upd bk en x ∧ bh = upd bh en y ∧ wr = nI (en + 1))))) ∧ (¬ (inR x (mn 0)) → ((¬ (0 ≤ x.toInt ∧ x.toInt < Ns) ∧ ((-1000000001) : Int32) = -1000000001 ∧ bk = bk ∧ bh = bh ∧ wr = wr) ∨ ((0 ≤ x.toInt ∧ x.toInt < Ns) ∧ ¬ (0 ≤ y.toInt ∧ y.toInt ≤ 9999) ∧ ((-1000000001) : Int32) = -1000000002 ∧ bk = bk ∧ bh = bh ∧ wr = wr) ∨ ((0 ≤ x.toInt ∧ x.toInt < Ns) ∧ (0 ≤ y.toInt ∧ y.toInt ≤ 9999) ∧ en = 30 ∧ ((-1000000001) : Int32) = -1000000004 ∧ bk = bk ∧ bh = bh ∧ wr = wr) ∨ ((0 ≤ x.toInt ∧ x.toInt < Ns) ∧ (0 ≤ y.toInt ∧ y.toInt ≤ 9999) ∧ en < 30 ∧ ((-1000000001) : Int32) = nI (en + 1) ∧ bk = upd bk en x ∧ bh = upd bh en y ∧ wr = nI (en + 1)))) := by
  obtain ⟨t1, hns, rfl, hen⟩ := hp
  have hs_ := inR_iff (x := x) hns (by omega)
  have ey : y.toInt64.toInt = y.toInt := i_l rfl
  have hy_ : (¬ y.toInt64 < 0 ∧ ¬ 9999 < y.toInt64) ↔ (0 ≤ y.toInt ∧ y.toInt ≤ 9999) := by
    rw [l_lt ey (show (0 : Int64).toInt = 0 from rfl), l_lt (show (9999 : Int64).toInt = 9999 from rfl) ey]
    omega
  have ce : (nI en).toNatClampNeg = en := nI_clamp (by omega)
  have h30 : nI en = 30 ↔ en = 30 := nI_eq (b := 30) (by omega) (by omega)
  refine ⟨fun h1 => ⟨fun h2 => ⟨fun h3 => ?_, fun h3 => ?_⟩, fun h2 => ?_⟩, fun h1 => ?_⟩
  · have hlt : en < 30 := by
      have : ¬ en = 30 := fun z => h3 (h30.mpr z)
      omega
    have vi : vp_in (nI en) 30 := vp_in_nI (by omega) (by omega)
    refine ⟨vi, fun f ef => ⟨vi, fun f2 ef2 => Or.inr (Or.inr (Or.inr ⟨hs_.mp h1, hy_.mp h2, hlt, nI_1 en, ?_, ?_, nI_1 en⟩))⟩⟩
    · rw [ef, ce]
    · rw [ef2, ce]
  · exact Or.inr (Or.inr (Or.inl ⟨hs_.mp h1, hy_.mp h2, h30.mp h3, rfl, rfl, rfl, rfl⟩))
  · exact Or.inr (Or.inl ⟨hs_.mp h1, fun z => h2 (hy_.mpr z), rfl, rfl, rfl, rfl⟩)
  · exact Or.inl ⟨fun z => h1 (hs_.mpr z), rfl, rfl, rfl, rfl⟩
theorem k_X8_write (l : Launch) (G : Gt) (m0 m1 m2 m3 m4 m5 m6 m7 m8 m9 m10 m11 m12 m13 m14 : Nat) (sz : Nat) (mw : Nat → Int64) (ik : Nat → Int32) (zs : Nat → Int32) (cl : Nat → Int32) (hs : Nat → Int32) (ks : Nat → Int32) (wa : Nat → Int32) (ne : Nat → Int32) (mn : Nat → Int32) (tx : Nat → Int32) (th : Nat → Int32) (od : Nat → Int32) (bk : Nat → Int32) (bh : Nat → Int32) (fu : Int32) (fd : Int32) (fi : Int32) (nu : Int32) (nw : Int32) (nf : Int32) (bf : Int32) (bn : Int32) (ts : Int32) (ap : Int32) (fs : Int32) (ln : Int32) (fo : Int32) (fa : Int32) (wr : Int32) (x : Int32) (y : Int32) (Ns : Nat) (en : Nat) (hp : Ns ≤ 9 ∧ mn 0 = nI Ns ∧ wr = nI en ∧ en ≤ 30) : MetI l yX8_write wsX8_write 2 46 G [.ref m0, .int x, .int y] [(m0, .inr (8, [.ref m1, .ref m2, .ref m3, .ref m4, .ref m5, .ref m6, .ref m7, .ref m8, .ref m9, .int fu, .int fd, .int fi, .int nu, .int nw, .int nf, .int bf, .int bn, .ref m10, .int ts, .int ap, .int fs, .int ln, .int fo, .int fa, .ref m11, .ref m12, .ref m13, .ref m14, .int wr])), aJ G m1 560 mw, aZ G m2 2 ik, aI G m3 20 zs, aI G m4 20 cl, aI G m5 20 hs, aI G m6 20 ks, aI G m7 20 wa, aI G m8 20 ne, aI G m9 4 mn, aI G m10 400 tx, aI G m11 6 th, aI G m12 6 od, aI G m13 30 bk, aI G m14 30 bh] sz (fun (r : Int32) (u : (Nat → Int32) × (Nat → Int32) × (Int32)) => ((¬ (0 ≤ x.toInt ∧ x.toInt < Ns) ∧ r = -1000000001 ∧ u.1 = bk ∧ u.2.1 = bh ∧ u.2.2 = wr) ∨ ((0 ≤ x.toInt ∧ x.toInt < Ns) ∧ ¬ (0 ≤ y.toInt ∧ y.toInt ≤ 9999) ∧ r = -1000000002 ∧ u.1 = bk ∧ u.2.1 = bh ∧ u.2.2 = wr) ∨ ((0 ≤ x.toInt ∧ x.toInt < Ns) ∧ (0 ≤ y.toInt ∧ y.toInt ≤ 9999) ∧ en = 30 ∧ r = -1000000004 ∧ u.1 = bk ∧ u.2.1 = bh ∧ u.2.2 = wr) ∨ ((0 ≤ x.toInt ∧ x.toInt < Ns) ∧ (0 ≤ y.toInt ∧ y.toInt ≤ 9999) ∧ en < 30 ∧ r = nI (en + 1) ∧ u.1 = upd bk en x ∧ u.2.1 = upd bh en y ∧ u.2.2 = nI (en + 1)))) (fun (u : (Nat → Int32) × (Nat → Int32) × (Int32)) => [(m0, .inr (8, [.ref m1, .ref m2, .ref m3, .ref m4, .ref m5, .ref m6, .ref m7, .ref m8, .ref m9, .int fu, .int fd, .int fi, .int nu, .int nw, .int nf, .int bf, .int bn, .ref m10, .int ts, .int ap, .int fs, .int ln, .int fo, .int fa, .ref m11, .ref m12, .ref m13, .ref m14, .int u.2.2])), aJ G m1 560 mw, aZ G m2 2 ik, aI G m3 20 zs, aI G m4 20 cl, aI G m5 20 hs, aI G m6 20 ks, aI G m7 20 wa, aI G m8 20 ne, aI G m9 4 mn, aI G m10 400 tx, aI G m11 6 th, aI G m12 6 od, aI G m13 30 u.1, aI G m14 30 u.2.1]) :=
  c_X8_write l G m0 m1 m2 m3 m4 m5 m6 m7 m8 m9 m10 m11 m12 m13 m14 sz mw ik zs cl hs ks wa ne mn tx th od bk bh fu fd fi nu nw nf bf bn ts ap fs ln fo fa wr x y Ns en (v_X8_write l G m0 m1 m2 m3 m4 m5 m6 m7 m8 m9 m10 m11 m12 m13 m14 sz mw ik zs cl hs ks wa ne mn tx th od bk bh fu fd fi nu nw nf bf bn ts ap fs ln fo fa wr x y Ns en hp)

set_option maxHeartbeats 4000000 in
set_option maxRecDepth 100000 in
theorem c_X8_tear (l : Launch) (G : Gt) (m0 m1 m2 m3 m4 m5 m6 m7 m8 m9 m10 m11 m12 m13 m14 : Nat) (sz : Nat) (mw : Nat → Int64) (ik : Nat → Int32) (zs : Nat → Int32) (cl : Nat → Int32) (hs : Nat → Int32) (ks : Nat → Int32) (wa : Nat → Int32) (ne : Nat → Int32) (mn : Nat → Int32) (tx : Nat → Int32) (th : Nat → Int32) (od : Nat → Int32) (bk : Nat → Int32) (bh : Nat → Int32) (fu : Int32) (fd : Int32) (fi : Int32) (nu : Int32) (nw : Int32) (nf : Int32) (bf : Int32) (bn : Int32) (ts : Int32) (ap : Int32) (fs : Int32) (ln : Int32) (fo : Int32) (fa : Int32) (wr : Int32) (hv : wr = wr ∧ (0 : Int32) = 0) : MetI l yX8_tear wsX8_tear 0 0 G [.ref m0] [(m0, .inr (8, [.ref m1, .ref m2, .ref m3, .ref m4, .ref m5, .ref m6, .ref m7, .ref m8, .ref m9, .int fu, .int fd, .int fi, .int nu, .int nw, .int nf, .int bf, .int bn, .ref m10, .int ts, .int ap, .int fs, .int ln, .int fo, .int fa, .ref m11, .ref m12, .ref m13, .ref m14, .int wr])), aJ G m1 560 mw, aZ G m2 2 ik, aI G m3 20 zs, aI G m4 20 cl, aI G m5 20 hs, aI G m6 20 ks, aI G m7 20 wa, aI G m8 20 ne, aI G m9 4 mn, aI G m10 400 tx, aI G m11 6 th, aI G m12 6 od, aI G m13 30 bk, aI G m14 30 bh] sz (fun (r : Int32) (u : (Int32)) => r = wr ∧ u = 0) (fun (u : (Int32)) => [(m0, .inr (8, [.ref m1, .ref m2, .ref m3, .ref m4, .ref m5, .ref m6, .ref m7, .ref m8, .ref m9, .int fu, .int fd, .int fi, .int nu, .int nw, .int nf, .int bf, .int bn, .ref m10, .int ts, .int ap, .int fs, .int ln, .int fo, .int fa, .ref m11, .ref m12, .ref m13, .ref m14, .int u])), aJ G m1 560 mw, aZ G m2 2 ik, aI G m3 20 zs, aI G m4 20 cl, aI G m5 20 hs, aI G m6 20 ks, aI G m7 20 wa, aI G m8 20 ne, aI G m9 4 mn, aI G m10 400 tx, aI G m11 6 th, aI G m12 6 od, aI G m13 30 bk, aI G m14 30 bh]) := by
  refine x_startI (cc := cX8_tear) (maxL := 2) (ret := (some .int)) (by decide) rfl (Nat.le_of_ble_eq_true rfl) ?_
  intro p e s m args below meth c A R Q ls hRf hRl hQ C hP hD hS hA hSS hl
  obtain ⟨hx, hb, hr, hml, hown, hts, hlocks, hKK⟩ := C
  have hown : s.vm.findClass RX8 = some m.cls := hown
  have hl : lv_has ls 2 [(0, .ref m0)] := hl
  have hinX8 : ∀ w ∈ u_ws RX8 TX8 29, w ∈ wsX8_tear := by decide +kernel
  have kl149 := hts (.fieldLink RX8 149 "WarmStonesModel" "written" "I") (by decide +kernel)
  refine lv_aload_n hx hb dX8_tear_0 rfl (lv_at hl 0 rfl) ?_
  refine va_get (D := G.1) (ci := 8) (v := .int wr) (C := RX8) (T := TX8) (N := 29) hx hb hts hinX8 hown hKK.1 hP 0 rfl rfl 28 (by decide) kl149 (fun _ h9 => h9) rfl dX8_tear_1 ?_
  refine lv_istore_n (lv' := [(1, .int wr), (0, .ref m0)]) hx hb dX8_tear_4 rfl hl (by decide) rfl (fun ls hl => ?_)
  refine lv_aload_n hx hb dX8_tear_5 rfl (lv_at hl 1 rfl) ?_
  refine lv_iconst (v := 0) hx hb dX8_tear_6 (by decide) ?_
  refine va_put (D := G.1) (ci := 8) (v := .int 0) (ty := .int) (C := RX8) (T := TX8) (N := 29) hx hb hts hinX8 tyX8 tyX8_ok nmX8 hown hKK.1 hP hD hS 0 rfl rfl 28 (by decide) kl149 (fun _ h9 => h9) rfl (by decide +kernel) rfl rfl (Nat.le_of_ble_eq_true rfl) dX8_tear_7 (fun H locs hP hD hS => ?_)
  have hP : va_P G.1 vwCl [(m0, .inr (8, [.ref m1, .ref m2, .ref m3, .ref m4, .ref m5, .ref m6, .ref m7, .ref m8, .ref m9, .int fu, .int fd, .int fi, .int nu, .int nw, .int nf, .int bf, .int bn, .ref m10, .int ts, .int ap, .int fs, .int ln, .int fo, .int fa, .ref m11, .ref m12, .ref m13, .ref m14, .int 0])), aJ G m1 560 mw, aZ G m2 2 ik, aI G m3 20 zs, aI G m4 20 cl, aI G m5 20 hs, aI G m6 20 ks, aI G m7 20 wa, aI G m8 20 ne, aI G m9 4 mn, aI G m10 400 tx, aI G m11 6 th, aI G m12 6 od, aI G m13 30 bk, aI G m14 30 bh] H := hP
  have hD : va_D A [(m0, .inr (8, [.ref m1, .ref m2, .ref m3, .ref m4, .ref m5, .ref m6, .ref m7, .ref m8, .ref m9, .int fu, .int fd, .int fi, .int nu, .int nw, .int nf, .int bf, .int bn, .ref m10, .int ts, .int ap, .int fs, .int ln, .int fo, .int fa, .ref m11, .ref m12, .ref m13, .ref m14, .int 0])), aJ G m1 560 mw, aZ G m2 2 ik, aI G m3 20 zs, aI G m4 20 cl, aI G m5 20 hs, aI G m6 20 ks, aI G m7 20 wa, aI G m8 20 ne, aI G m9 4 mn, aI G m10 400 tx, aI G m11 6 th, aI G m12 6 od, aI G m13 30 bk, aI G m14 30 bh] := hD
  refine lv_iload_n hx hb dX8_tear_10 rfl (lv_at hl 0 rfl) ?_
  exact x_iret (v := wr) 0 hQ hx hb hr hlocks hS dX8_tear_11 hv hP hD
theorem v_X8_tear (l : Launch) (G : Gt) (m0 m1 m2 m3 m4 m5 m6 m7 m8 m9 m10 m11 m12 m13 m14 : Nat) (sz : Nat) (mw : Nat → Int64) (ik : Nat → Int32) (zs : Nat → Int32) (cl : Nat → Int32) (hs : Nat → Int32) (ks : Nat → Int32) (wa : Nat → Int32) (ne : Nat → Int32) (mn : Nat → Int32) (tx : Nat → Int32) (th : Nat → Int32) (od : Nat → Int32) (bk : Nat → Int32) (bh : Nat → Int32) (fu : Int32) (fd : Int32) (fi : Int32) (nu : Int32) (nw : Int32) (nf : Int32) (bf : Int32) (bn : Int32) (ts : Int32) (ap : Int32) (fs : Int32) (ln : Int32) (fo : Int32) (fa : Int32) (wr : Int32) : wr = wr ∧ (0 : Int32) = 0 := by
  exact ⟨rfl, rfl⟩
theorem k_X8_tear (l : Launch) (G : Gt) (m0 m1 m2 m3 m4 m5 m6 m7 m8 m9 m10 m11 m12 m13 m14 : Nat) (sz : Nat) (mw : Nat → Int64) (ik : Nat → Int32) (zs : Nat → Int32) (cl : Nat → Int32) (hs : Nat → Int32) (ks : Nat → Int32) (wa : Nat → Int32) (ne : Nat → Int32) (mn : Nat → Int32) (tx : Nat → Int32) (th : Nat → Int32) (od : Nat → Int32) (bk : Nat → Int32) (bh : Nat → Int32) (fu : Int32) (fd : Int32) (fi : Int32) (nu : Int32) (nw : Int32) (nf : Int32) (bf : Int32) (bn : Int32) (ts : Int32) (ap : Int32) (fs : Int32) (ln : Int32) (fo : Int32) (fa : Int32) (wr : Int32) : MetI l yX8_tear wsX8_tear 0 0 G [.ref m0] [(m0, .inr (8, [.ref m1, .ref m2, .ref m3, .ref m4, .ref m5, .ref m6, .ref m7, .ref m8, .ref m9, .int fu, .int fd, .int fi, .int nu, .int nw, .int nf, .int bf, .int bn, .ref m10, .int ts, .int ap, .int fs, .int ln, .int fo, .int fa, .ref m11, .ref m12, .ref m13, .ref m14, .int wr])), aJ G m1 560 mw, aZ G m2 2 ik, aI G m3 20 zs, aI G m4 20 cl, aI G m5 20 hs, aI G m6 20 ks, aI G m7 20 wa, aI G m8 20 ne, aI G m9 4 mn, aI G m10 400 tx, aI G m11 6 th, aI G m12 6 od, aI G m13 30 bk, aI G m14 30 bh] sz (fun (r : Int32) (u : (Int32)) => r = wr ∧ u = 0) (fun (u : (Int32)) => [(m0, .inr (8, [.ref m1, .ref m2, .ref m3, .ref m4, .ref m5, .ref m6, .ref m7, .ref m8, .ref m9, .int fu, .int fd, .int fi, .int nu, .int nw, .int nf, .int bf, .int bn, .ref m10, .int ts, .int ap, .int fs, .int ln, .int fo, .int fa, .ref m11, .ref m12, .ref m13, .ref m14, .int u])), aJ G m1 560 mw, aZ G m2 2 ik, aI G m3 20 zs, aI G m4 20 cl, aI G m5 20 hs, aI G m6 20 ks, aI G m7 20 wa, aI G m8 20 ne, aI G m9 4 mn, aI G m10 400 tx, aI G m11 6 th, aI G m12 6 od, aI G m13 30 bk, aI G m14 30 bh]) :=
  c_X8_tear l G m0 m1 m2 m3 m4 m5 m6 m7 m8 m9 m10 m11 m12 m13 m14 sz mw ik zs cl hs ks wa ne mn tx th od bk bh fu fd fi nu nw nf bf bn ts ap fs ln fo fa wr (v_X8_tear l G m0 m1 m2 m3 m4 m5 m6 m7 m8 m9 m10 m11 m12 m13 m14 sz mw ik zs cl hs ks wa ne mn tx th od bk bh fu fd fi nu nw nf bf bn ts ap fs ln fo fa wr)

set_option maxHeartbeats 4000000 in
set_option maxRecDepth 100000 in
theorem c_X8_seed (l : Launch) (G : Gt) (m0 m1 m2 m3 m4 m5 m6 m7 m8 m9 m10 m11 m12 m13 m14 : Nat) (sz : Nat) (mw : Nat → Int64) (ik : Nat → Int32) (zs : Nat → Int32) (cl : Nat → Int32) (hs : Nat → Int32) (ks : Nat → Int32) (wa : Nat → Int32) (ne : Nat → Int32) (mn : Nat → Int32) (tx : Nat → Int32) (th : Nat → Int32) (od : Nat → Int32) (bk : Nat → Int32) (bh : Nat → Int32) (fu : Int32) (fd : Int32) (fi : Int32) (nu : Int32) (nw : Int32) (nf : Int32) (bf : Int32) (bn : Int32) (ts : Int32) (ap : Int32) (fs : Int32) (ln : Int32) (fo : Int32) (fa : Int32) (wr : Int32) (x : Int32) (T : Nat → Nat → Int) (Ns : Nat) (Np : Nat) (v : Nat → Int) (M : Int) (hv : (0 ≤ x → ∀ (y_2 : Int32), (y_2 = (mw 133).toInt32) → (∀ (fm1_3 : (Nat → Int64)), (fm1_3 = (vp_updL mw 133 x.toInt64)) → (y_2.toInt = (qSeed v x.toInt).1 ∧ MR 0 fm1_3 (qSeed v x.toInt).2 ∧ MF 0 mw fm1_3))) ∧ (¬ (0 ≤ x) → ((-1000000002) : Int32).toInt = (qSeed v x.toInt).1 ∧ MR 0 mw (qSeed v x.toInt).2 ∧ MF 0 mw mw)) : MetI l yX8_seed wsX8_seed 0 0 G [.ref m0, .int x] [(m0, .inr (8, [.ref m1, .ref m2, .ref m3, .ref m4, .ref m5, .ref m6, .ref m7, .ref m8, .ref m9, .int fu, .int fd, .int fi, .int nu, .int nw, .int nf, .int bf, .int bn, .ref m10, .int ts, .int ap, .int fs, .int ln, .int fo, .int fa, .ref m11, .ref m12, .ref m13, .ref m14, .int wr])), aJ G m1 560 mw, aZ G m2 2 ik, aI G m3 20 zs, aI G m4 20 cl, aI G m5 20 hs, aI G m6 20 ks, aI G m7 20 wa, aI G m8 20 ne, aI G m9 4 mn, aI G m10 400 tx, aI G m11 6 th, aI G m12 6 od, aI G m13 30 bk, aI G m14 30 bh] sz (fun (r : Int32) (u : (Nat → Int64)) => r.toInt = (qSeed v x.toInt).1 ∧ MR 0 u (qSeed v x.toInt).2 ∧ MF 0 mw u) (fun (u : (Nat → Int64)) => [(m0, .inr (8, [.ref m1, .ref m2, .ref m3, .ref m4, .ref m5, .ref m6, .ref m7, .ref m8, .ref m9, .int fu, .int fd, .int fi, .int nu, .int nw, .int nf, .int bf, .int bn, .ref m10, .int ts, .int ap, .int fs, .int ln, .int fo, .int fa, .ref m11, .ref m12, .ref m13, .ref m14, .int wr])), aJ G m1 560 u, aZ G m2 2 ik, aI G m3 20 zs, aI G m4 20 cl, aI G m5 20 hs, aI G m6 20 ks, aI G m7 20 wa, aI G m8 20 ne, aI G m9 4 mn, aI G m10 400 tx, aI G m11 6 th, aI G m12 6 od, aI G m13 30 bk, aI G m14 30 bh]) := by
  refine x_startI (cc := cX8_seed) (maxL := 3) (ret := (some .int)) (by decide) rfl (Nat.le_of_ble_eq_true rfl) ?_
  intro p e s m args below meth c A R Q ls hRf hRl hQ C hP hD hS hA hSS hl
  obtain ⟨hx, hb, hr, hml, hown, hts, hlocks, hKK⟩ := C
  have hown : s.vm.findClass RX8 = some m.cls := hown
  have hl : lv_has ls 3 [(0, .ref m0), (1, .int x)] := hl
  have hinX8 : ∀ w ∈ u_ws RX8 TX8 29, w ∈ wsX8_seed := by decide +kernel
  have kl7 := hts (.fieldLink RX8 7 "WarmStonesModel" "w" "[J") (by decide +kernel)
  have kl73 := hts (.constant RX8 73 (-1000000002)) (by decide +kernel)
  refine lv_iload_n hx hb dX8_seed_0 rfl (lv_at hl 1 rfl) ?_
  refine lv_if_ge (tgt := 7) hx hb dX8_seed_1 (by decide) (fun hc_1 => ?_) (fun hc_1 => ?_)
  · have hv := hv.1 hc_1
    refine lv_aload_n hx hb dX8_seed_7 rfl (lv_at hl 0 rfl) ?_
    refine va_get (D := G.1) (ci := 8) (v := .ref m1) (C := RX8) (T := TX8) (N := 29) hx hb hts hinX8 hown hKK.1 hP 0 rfl rfl 0 (by decide) kl7 (fun _ h9 => h9) rfl dX8_seed_8 ?_
    refine lv_sipush (v := 133) hx hb dX8_seed_11 (by decide) ?_
    refine va_lald hx hb hKK.1 hP 1 2 rfl rfl (by unfold vp_in; decide) dX8_seed_14 ?_
    refine lv_l2i hx hb dX8_seed_15 rfl ?_
    refine lv_topi (fun y_2 ey => ?_)
    have hv := hv y_2 ey
    refine lv_istore_n (lv' := [(2, .int y_2), (0, .ref m0), (1, .int x)]) hx hb dX8_seed_16 rfl hl (by decide) rfl (fun ls hl => ?_)
    refine lv_aload_n hx hb dX8_seed_17 rfl (lv_at hl 1 rfl) ?_
    refine va_get (D := G.1) (ci := 8) (v := .ref m1) (C := RX8) (T := TX8) (N := 29) hx hb hts hinX8 hown hKK.1 hP 0 rfl rfl 0 (by decide) kl7 (fun _ h9 => h9) rfl dX8_seed_18 ?_
    refine lv_sipush (v := 133) hx hb dX8_seed_21 (by decide) ?_
    refine lv_iload_n hx hb dX8_seed_24 rfl (lv_at hl 2 rfl) ?_
    refine lv_i2l hx hb dX8_seed_25 rfl ?_
    refine va_last hx hb hKK.1 hP hD hS 1 2 rfl rfl (by unfold vp_in; decide) dX8_seed_26 (fun H locs hP hD hS => ?_)
    obtain ⟨fm1_3, ef⟩ : ∃ z9_, z9_ = (vp_updL mw 133 x.toInt64) := ⟨_, rfl⟩
    have hP : va_P G.1 vwCl [(m0, .inr (8, [.ref m1, .ref m2, .ref m3, .ref m4, .ref m5, .ref m6, .ref m7, .ref m8, .ref m9, .int fu, .int fd, .int fi, .int nu, .int nw, .int nf, .int bf, .int bn, .ref m10, .int ts, .int ap, .int fs, .int ln, .int fo, .int fa, .ref m11, .ref m12, .ref m13, .ref m14, .int wr])), aJ G m1 560 fm1_3, aZ G m2 2 ik, aI G m3 20 zs, aI G m4 20 cl, aI G m5 20 hs, aI G m6 20 ks, aI G m7 20 wa, aI G m8 20 ne, aI G m9 4 mn, aI G m10 400 tx, aI G m11 6 th, aI G m12 6 od, aI G m13 30 bk, aI G m14 30 bh] H := by rw [ef]; exact hP
    have hD : va_D A [(m0, .inr (8, [.ref m1, .ref m2, .ref m3, .ref m4, .ref m5, .ref m6, .ref m7, .ref m8, .ref m9, .int fu, .int fd, .int fi, .int nu, .int nw, .int nf, .int bf, .int bn, .ref m10, .int ts, .int ap, .int fs, .int ln, .int fo, .int fa, .ref m11, .ref m12, .ref m13, .ref m14, .int wr])), aJ G m1 560 fm1_3, aZ G m2 2 ik, aI G m3 20 zs, aI G m4 20 cl, aI G m5 20 hs, aI G m6 20 ks, aI G m7 20 wa, aI G m8 20 ne, aI G m9 4 mn, aI G m10 400 tx, aI G m11 6 th, aI G m12 6 od, aI G m13 30 bk, aI G m14 30 bh] := by rw [ef]; exact hD
    have hv := hv fm1_3 ef
    refine lv_iload_n hx hb dX8_seed_27 rfl (lv_at hl 0 rfl) ?_
    exact x_iret (v := y_2) fm1_3 hQ hx hb hr hlocks hS dX8_seed_28 hv hP hD
  · have hv := hv.2 hc_1
    refine lv_ldc (v := (-1000000002)) hx hb hown kl73 dX8_seed_4 ?_
    exact x_iret (v := (-1000000002)) mw hQ hx hb hr hlocks hS dX8_seed_6 hv hP hD
theorem v_X8_seed (l : Launch) (G : Gt) (m0 m1 m2 m3 m4 m5 m6 m7 m8 m9 m10 m11 m12 m13 m14 : Nat) (sz : Nat) (mw : Nat → Int64) (ik : Nat → Int32) (zs : Nat → Int32) (cl : Nat → Int32) (hs : Nat → Int32) (ks : Nat → Int32) (wa : Nat → Int32) (ne : Nat → Int32) (mn : Nat → Int32) (tx : Nat → Int32) (th : Nat → Int32) (od : Nat → Int32) (bk : Nat → Int32) (bh : Nat → Int32) (fu : Int32) (fd : Int32) (fi : Int32) (nu : Int32) (nw : Int32) (nf : Int32) (bf : Int32) (bn : Int32) (ts : Int32) (ap : Int32) (fs : Int32) (ln : Int32) (fo : Int32) (fa : Int32) (wr : Int32) (x : Int32) (T : Nat → Nat → Int) (Ns : Nat) (Np : Nat) (v : Nat → Int) (M : Int) (hp : TOK T Ns Np ∧ MT T Ns Np fu fd fi zs cl ks ne mn ∧ MR 0 mw v ∧ NOK T Ns Np (fun _ => 2 * M) M v ∧ M ≤ 900000) : (0 ≤ x → ∀ (y_2 : Int32), (y_2 = (mw 133).toInt32) → (∀ (fm1_3 : (Nat → Int64)), (fm1_3 = (vp_updL mw 133 x.toInt64)) → (y_2.toInt = (qSeed v x.toInt).1 ∧ MR 0 fm1_3 (qSeed v x.toInt).2 ∧ MF 0 mw fm1_3))) ∧ (¬ (0 ≤ x) → ((-1000000002) : Int32).toInt = (qSeed v x.toInt).1 ∧ MR 0 mw (qSeed v x.toInt).2 ∧ MF 0 mw mw) := by
  obtain ⟨hT, hC, hR, hO, hM⟩ := hp
  have hx : (0 : Int32) ≤ x ↔ 0 ≤ x.toInt := i_le rfl rfl
  have b := hO.2.2.2.2.2.1
  refine ⟨fun h y ey w ew => ?_, fun h => ?_⟩
  · have h' := hx.mp h
    rw [qSeed, if_neg (by omega)]
    refine ⟨by rw [ey]; exact l_iZ (hR.z (by omega)) (by omega) (by omega), by rw [ew]; exact hR.u0 (i_l rfl), by rw [ew]; exact (MF.rf 0 mw).u0 (by omega)⟩
  · have h' := mt hx.mpr h
    rw [qSeed, if_pos (by omega)]; exact ⟨rfl, hR, MF.rf 0 mw⟩
theorem k_X8_seed (l : Launch) (G : Gt) (m0 m1 m2 m3 m4 m5 m6 m7 m8 m9 m10 m11 m12 m13 m14 : Nat) (sz : Nat) (mw : Nat → Int64) (ik : Nat → Int32) (zs : Nat → Int32) (cl : Nat → Int32) (hs : Nat → Int32) (ks : Nat → Int32) (wa : Nat → Int32) (ne : Nat → Int32) (mn : Nat → Int32) (tx : Nat → Int32) (th : Nat → Int32) (od : Nat → Int32) (bk : Nat → Int32) (bh : Nat → Int32) (fu : Int32) (fd : Int32) (fi : Int32) (nu : Int32) (nw : Int32) (nf : Int32) (bf : Int32) (bn : Int32) (ts : Int32) (ap : Int32) (fs : Int32) (ln : Int32) (fo : Int32) (fa : Int32) (wr : Int32) (x : Int32) (T : Nat → Nat → Int) (Ns : Nat) (Np : Nat) (v : Nat → Int) (M : Int) (hp : TOK T Ns Np ∧ MT T Ns Np fu fd fi zs cl ks ne mn ∧ MR 0 mw v ∧ NOK T Ns Np (fun _ => 2 * M) M v ∧ M ≤ 900000) : MetI l yX8_seed wsX8_seed 0 0 G [.ref m0, .int x] [(m0, .inr (8, [.ref m1, .ref m2, .ref m3, .ref m4, .ref m5, .ref m6, .ref m7, .ref m8, .ref m9, .int fu, .int fd, .int fi, .int nu, .int nw, .int nf, .int bf, .int bn, .ref m10, .int ts, .int ap, .int fs, .int ln, .int fo, .int fa, .ref m11, .ref m12, .ref m13, .ref m14, .int wr])), aJ G m1 560 mw, aZ G m2 2 ik, aI G m3 20 zs, aI G m4 20 cl, aI G m5 20 hs, aI G m6 20 ks, aI G m7 20 wa, aI G m8 20 ne, aI G m9 4 mn, aI G m10 400 tx, aI G m11 6 th, aI G m12 6 od, aI G m13 30 bk, aI G m14 30 bh] sz (fun (r : Int32) (u : (Nat → Int64)) => r.toInt = (qSeed v x.toInt).1 ∧ MR 0 u (qSeed v x.toInt).2 ∧ MF 0 mw u) (fun (u : (Nat → Int64)) => [(m0, .inr (8, [.ref m1, .ref m2, .ref m3, .ref m4, .ref m5, .ref m6, .ref m7, .ref m8, .ref m9, .int fu, .int fd, .int fi, .int nu, .int nw, .int nf, .int bf, .int bn, .ref m10, .int ts, .int ap, .int fs, .int ln, .int fo, .int fa, .ref m11, .ref m12, .ref m13, .ref m14, .int wr])), aJ G m1 560 u, aZ G m2 2 ik, aI G m3 20 zs, aI G m4 20 cl, aI G m5 20 hs, aI G m6 20 ks, aI G m7 20 wa, aI G m8 20 ne, aI G m9 4 mn, aI G m10 400 tx, aI G m11 6 th, aI G m12 6 od, aI G m13 30 bk, aI G m14 30 bh]) :=
  c_X8_seed l G m0 m1 m2 m3 m4 m5 m6 m7 m8 m9 m10 m11 m12 m13 m14 sz mw ik zs cl hs ks wa ne mn tx th od bk bh fu fd fi nu nw nf bf bn ts ap fs ln fo fa wr x T Ns Np v M (v_X8_seed l G m0 m1 m2 m3 m4 m5 m6 m7 m8 m9 m10 m11 m12 m13 m14 sz mw ik zs cl hs ks wa ne mn tx th od bk bh fu fd fi nu nw nf bf bn ts ap fs ln fo fa wr x T Ns Np v M hp)

set_option maxHeartbeats 4000000 in
set_option maxRecDepth 100000 in
theorem c_X8_keep (l : Launch) (G : Gt) (m0 m1 m2 m3 m4 m5 m6 m7 m8 m9 m10 m11 m12 m13 m14 : Nat) (sz : Nat) (mw : Nat → Int64) (ik : Nat → Int32) (zs : Nat → Int32) (cl : Nat → Int32) (hs : Nat → Int32) (ks : Nat → Int32) (wa : Nat → Int32) (ne : Nat → Int32) (mn : Nat → Int32) (tx : Nat → Int32) (th : Nat → Int32) (od : Nat → Int32) (bk : Nat → Int32) (bh : Nat → Int32) (fu : Int32) (fd : Int32) (fi : Int32) (nu : Int32) (nw : Int32) (nf : Int32) (bf : Int32) (bn : Int32) (ts : Int32) (ap : Int32) (fs : Int32) (ln : Int32) (fo : Int32) (fa : Int32) (wr : Int32) (x : Int32) (v : Nat → Int) (hv : (¬ x.toInt64 < 0 ∧ ¬ 1 < x.toInt64 → ∃ (gX_3 : Nat) (gY_4 : Nat) (gv_5 : Nat → Int), (((0 : Int32) = nI gX_3 ∧ (280 + (140 * x)) = nI gY_4 ∧ gX_3 + 140 ≤ 560 ∧ gY_4 + 140 ≤ 560 ∧ (gX_3 + 140 ≤ gY_4 ∨ gY_4 + 140 ≤ gX_3) ∧ MR gX_3 mw gv_5) ∧ (∀ (mw2_7 : Nat → Int64), (MR gY_4 mw2_7 gv_5 ∧ MF gY_4 mw mw2_7) → ((vp_in x 2) ∧ (∀ (fm2_8 : (Nat → Int32)), (fm2_8 = (upd ik x.toNatClampNeg (vp_nar .boolean 1))) → (((¬ (0 ≤ x.toInt ∧ x.toInt ≤ 1) ∧ (1 : Int32) = -1000000001 ∧ mw2_7 = mw ∧ fm2_8 = ik) ∨ ((0 ≤ x.toInt ∧ x.toInt ≤ 1) ∧ (1 : Int32) = 1 ∧ fm2_8 = upd ik x.toInt.toNat 1 ∧ MR (280 + 140 * x.toInt.toNat) mw2_7 v ∧ MF (280 + 140 * x.toInt.toNat) mw mw2_7)))))))) ∧ (¬ (¬ x.toInt64 < 0 ∧ ¬ 1 < x.toInt64) → ((¬ (0 ≤ x.toInt ∧ x.toInt ≤ 1) ∧ ((-1000000001) : Int32) = -1000000001 ∧ mw = mw ∧ ik = ik) ∨ ((0 ≤ x.toInt ∧ x.toInt ≤ 1) ∧ ((-1000000001) : Int32) = 1 ∧ ik = upd ik x.toInt.toNat 1 ∧ MR (280 + 140 * x.toInt.toNat) mw v ∧ MF (280 + 140 * x.toInt.toNat) mw mw)))) : MetI l yX8_keep wsX8_keep 1 25 G [.ref m0, .int x] [(m0, .inr (8, [.ref m1, .ref m2, .ref m3, .ref m4, .ref m5, .ref m6, .ref m7, .ref m8, .ref m9, .int fu, .int fd, .int fi, .int nu, .int nw, .int nf, .int bf, .int bn, .ref m10, .int ts, .int ap, .int fs, .int ln, .int fo, .int fa, .ref m11, .ref m12, .ref m13, .ref m14, .int wr])), aJ G m1 560 mw, aZ G m2 2 ik, aI G m3 20 zs, aI G m4 20 cl, aI G m5 20 hs, aI G m6 20 ks, aI G m7 20 wa, aI G m8 20 ne, aI G m9 4 mn, aI G m10 400 tx, aI G m11 6 th, aI G m12 6 od, aI G m13 30 bk, aI G m14 30 bh] sz (fun (r : Int32) (u : (Nat → Int64) × (Nat → Int32)) => ((¬ (0 ≤ x.toInt ∧ x.toInt ≤ 1) ∧ r = -1000000001 ∧ u.1 = mw ∧ u.2 = ik) ∨ ((0 ≤ x.toInt ∧ x.toInt ≤ 1) ∧ r = 1 ∧ u.2 = upd ik x.toInt.toNat 1 ∧ MR (280 + 140 * x.toInt.toNat) u.1 v ∧ MF (280 + 140 * x.toInt.toNat) mw u.1))) (fun (u : (Nat → Int64) × (Nat → Int32)) => [(m0, .inr (8, [.ref m1, .ref m2, .ref m3, .ref m4, .ref m5, .ref m6, .ref m7, .ref m8, .ref m9, .int fu, .int fd, .int fi, .int nu, .int nw, .int nf, .int bf, .int bn, .ref m10, .int ts, .int ap, .int fs, .int ln, .int fo, .int fa, .ref m11, .ref m12, .ref m13, .ref m14, .int wr])), aJ G m1 560 u.1, aZ G m2 2 u.2, aI G m3 20 zs, aI G m4 20 cl, aI G m5 20 hs, aI G m6 20 ks, aI G m7 20 wa, aI G m8 20 ne, aI G m9 4 mn, aI G m10 400 tx, aI G m11 6 th, aI G m12 6 od, aI G m13 30 bk, aI G m14 30 bh]) := by
  refine x_startI (cc := cX8_keep) (maxL := 2) (ret := (some .int)) (by decide) rfl (Nat.le_of_ble_eq_true rfl) ?_
  intro p e s m args below meth c A R Q ls hRf hRl hQ C hP hD hS hA hSS hl
  obtain ⟨hx, hb, hr, hml, hown, hts, hlocks, hKK⟩ := C
  have hown : s.vm.findClass RX8 = some m.cls := hown
  have hl : lv_has ls 2 [(0, .ref m0), (1, .int x)] := hl
  have hinX8 : ∀ w ∈ u_ws RX8 TX8 29, w ∈ wsX8_keep := by decide +kernel
  have kl13 := hts (.fieldLink RX8 13 "WarmStonesModel" "isKept" "[Z") (by decide +kernel)
  have kl164 := hts (.constant RX8 164 (-1000000001)) (by decide +kernel)
  refine lv_iload_n hx hb dX8_keep_0 rfl (lv_at hl 1 rfl) ?_
  refine lv_i2l hx hb dX8_keep_1 rfl ?_
  refine lv_lconst (v := 0) hx hb dX8_keep_2 (by decide) ?_
  refine lv_lconst (v := 1) hx hb dX8_keep_3 (by decide) ?_
  refine x_calliR (x_runS (As := [.long x.toInt64, .long 0, .long 1]) (rest := []) (n := 3) ⟨hx, hb, hml, hown, hts⟩ (k_X8_in l G  _ x.toInt64 0 1) gX8_keep_X8_in rfl (by decide +kernel) ⟨Nat.le_trans (Nat.le_of_ble_eq_true rfl) hRf, Nat.le_trans (Nat.le_of_ble_eq_true rfl) hRl⟩ hKK hSS hS hA hP hD [] (by decide) rfl rfl hl.1 rfl (Nat.le_of_ble_eq_true rfl) dX8_keep_4) hP hD hS hA [] rfl (fun r_1 _ H locs hw hP hS => ?_)
  replace hw := hw.symm; subst hw
  refine lv_if_ne (tgt := 13) hx hb dX8_keep_7 (by decide) (fun hc_2 => ?_) (fun hc_2 => ?_)
  · have hv := hv.1 (tv_eqn.mp hc_2)
    refine lv_aload_n hx hb dX8_keep_13 rfl (lv_at hl 0 rfl) ?_
    refine lv_iconst (v := 0) hx hb dX8_keep_14 (by decide) ?_
    refine lv_sipush (v := 280) hx hb dX8_keep_15 (by decide) ?_
    refine lv_sipush (v := 140) hx hb dX8_keep_18 (by decide) ?_
    refine lv_iload_n hx hb dX8_keep_21 rfl (lv_at hl 1 rfl) ?_
    refine lv_imul hx hb dX8_keep_22 ?_
    refine lv_iadd hx hb dX8_keep_23 ?_
    obtain ⟨gX_3, gY_4, gv_5, hv⟩ := hv
    obtain ⟨hp, hv⟩ := hv
    refine x_callv (wr := []) (w' := fun (u : (Nat → Int64)) => [(m0, .inr (8, [.ref m1, .ref m2, .ref m3, .ref m4, .ref m5, .ref m6, .ref m7, .ref m8, .ref m9, .int fu, .int fd, .int fi, .int nu, .int nw, .int nf, .int bf, .int bn, .ref m10, .int ts, .int ap, .int fs, .int ln, .int fo, .int fa, .ref m11, .ref m12, .ref m13, .ref m14, .int wr])), aJ G m1 560 u, aZ G m2 2 ik, aI G m3 20 zs, aI G m4 20 cl, aI G m5 20 hs, aI G m6 20 ks, aI G m7 20 wa, aI G m8 20 ne, aI G m9 4 mn, aI G m10 400 tx, aI G m11 6 th, aI G m12 6 od, aI G m13 30 bk, aI G m14 30 bh]) (x_runV (As := [.int 0, .int (280 + (140 * x))]) (rest := []) (n := 2) (C := RX8) (ci := 8) ⟨hx, hb, hml, hown, hts⟩ (k_X8_copy l G m0 m1 m2 m3 m4 m5 m6 m7 m8 m9 m10 m11 m12 m13 m14 _ mw ik zs cl hs ks wa ne mn tx th od bk bh fu fd fi nu nw nf bf bn ts ap fs ln fo fa wr 0 (280 + (140 * x)) gX_3 gY_4 gv_5 hp) gX8_keep_X8_copy rfl (by decide +kernel) ⟨Nat.le_trans (Nat.le_of_ble_eq_true rfl) hRf, Nat.le_trans (Nat.le_of_ble_eq_true rfl) hRl⟩ hKK hSS hS hA hP hD [0, 1, 2, 3, 4, 5, 6, 7, 8, 9, 10, 11, 12, 13, 14] (by decide) rfl rfl rfl 0 rfl rfl hl.1 rfl (Nat.le_of_ble_eq_true rfl) dX8_keep_24) hP hD hS hA [0, 1, 2, 3, 4, 5, 6, 7, 8, 9, 10, 11, 12, 13, 14] [] [0, 1, 2, 3, 4, 5, 6, 7, 8, 9, 10, 11, 12, 13, 14] rfl rfl (by decide) (by decide) (by decide) (fun _ => rfl) (fun  u H locs hw hP hD hS => ?_)
    obtain ⟨mw2_7, rfl⟩ : ∃ z9_, z9_ = u := ⟨_, rfl⟩
    have hP : va_P G.1 vwCl [(m0, .inr (8, [.ref m1, .ref m2, .ref m3, .ref m4, .ref m5, .ref m6, .ref m7, .ref m8, .ref m9, .int fu, .int fd, .int fi, .int nu, .int nw, .int nf, .int bf, .int bn, .ref m10, .int ts, .int ap, .int fs, .int ln, .int fo, .int fa, .ref m11, .ref m12, .ref m13, .ref m14, .int wr])), aJ G m1 560 mw2_7, aZ G m2 2 ik, aI G m3 20 zs, aI G m4 20 cl, aI G m5 20 hs, aI G m6 20 ks, aI G m7 20 wa, aI G m8 20 ne, aI G m9 4 mn, aI G m10 400 tx, aI G m11 6 th, aI G m12 6 od, aI G m13 30 bk, aI G m14 30 bh] H := hP
    have hD : va_D A [(m0, .inr (8, [.ref m1, .ref m2, .ref m3, .ref m4, .ref m5, .ref m6, .ref m7, .ref m8, .ref m9, .int fu, .int fd, .int fi, .int nu, .int nw, .int nf, .int bf, .int bn, .ref m10, .int ts, .int ap, .int fs, .int ln, .int fo, .int fa, .ref m11, .ref m12, .ref m13, .ref m14, .int wr])), aJ G m1 560 mw2_7, aZ G m2 2 ik, aI G m3 20 zs, aI G m4 20 cl, aI G m5 20 hs, aI G m6 20 ks, aI G m7 20 wa, aI G m8 20 ne, aI G m9 4 mn, aI G m10 400 tx, aI G m11 6 th, aI G m12 6 od, aI G m13 30 bk, aI G m14 30 bh] := hD
    have hv := hv mw2_7 hw
    refine lv_aload_n hx hb dX8_keep_27 rfl (lv_at hl 0 rfl) ?_
    refine va_get (D := G.1) (ci := 8) (v := .ref m2) (C := RX8) (T := TX8) (N := 29) hx hb hts hinX8 hown hKK.1 hP 0 rfl rfl 1 (by decide) kl13 (fun _ h9 => h9) rfl dX8_keep_28 ?_
    refine lv_iload_n hx hb dX8_keep_31 rfl (lv_at hl 1 rfl) ?_
    refine lv_iconst (v := 1) hx hb dX8_keep_32 (by decide) ?_
    obtain ⟨hin, hv⟩ := hv
    refine va_zast hx hb hKK.1 hP hD hS 2 3 rfl rfl hin dX8_keep_33 (fun H locs hP hD hS => ?_)
    obtain ⟨fm2_8, ef⟩ : ∃ z9_, z9_ = (upd ik x.toNatClampNeg (vp_nar .boolean 1)) := ⟨_, rfl⟩
    have hP : va_P G.1 vwCl [(m0, .inr (8, [.ref m1, .ref m2, .ref m3, .ref m4, .ref m5, .ref m6, .ref m7, .ref m8, .ref m9, .int fu, .int fd, .int fi, .int nu, .int nw, .int nf, .int bf, .int bn, .ref m10, .int ts, .int ap, .int fs, .int ln, .int fo, .int fa, .ref m11, .ref m12, .ref m13, .ref m14, .int wr])), aJ G m1 560 mw2_7, aZ G m2 2 fm2_8, aI G m3 20 zs, aI G m4 20 cl, aI G m5 20 hs, aI G m6 20 ks, aI G m7 20 wa, aI G m8 20 ne, aI G m9 4 mn, aI G m10 400 tx, aI G m11 6 th, aI G m12 6 od, aI G m13 30 bk, aI G m14 30 bh] H := by rw [ef]; exact hP
    have hD : va_D A [(m0, .inr (8, [.ref m1, .ref m2, .ref m3, .ref m4, .ref m5, .ref m6, .ref m7, .ref m8, .ref m9, .int fu, .int fd, .int fi, .int nu, .int nw, .int nf, .int bf, .int bn, .ref m10, .int ts, .int ap, .int fs, .int ln, .int fo, .int fa, .ref m11, .ref m12, .ref m13, .ref m14, .int wr])), aJ G m1 560 mw2_7, aZ G m2 2 fm2_8, aI G m3 20 zs, aI G m4 20 cl, aI G m5 20 hs, aI G m6 20 ks, aI G m7 20 wa, aI G m8 20 ne, aI G m9 4 mn, aI G m10 400 tx, aI G m11 6 th, aI G m12 6 od, aI G m13 30 bk, aI G m14 30 bh] := by rw [ef]; exact hD
    have hv := hv fm2_8 ef
    refine lv_iconst (v := 1) hx hb dX8_keep_34 (by decide) ?_
    exact x_iret (v := 1) (mw2_7, fm2_8) hQ hx hb hr hlocks hS dX8_keep_35 hv hP hD
  · have hv := hv.2 (tv_eq.mp hc_2)
    refine lv_ldc (v := (-1000000001)) hx hb hown kl164 dX8_keep_10 ?_
    exact x_iret (v := (-1000000001)) (mw, ik) hQ hx hb hr hlocks hS dX8_keep_12 hv hP hD
theorem v_X8_keep (l : Launch) (G : Gt) (m0 m1 m2 m3 m4 m5 m6 m7 m8 m9 m10 m11 m12 m13 m14 : Nat) (sz : Nat) (mw : Nat → Int64) (ik : Nat → Int32) (zs : Nat → Int32) (cl : Nat → Int32) (hs : Nat → Int32) (ks : Nat → Int32) (wa : Nat → Int32) (ne : Nat → Int32) (mn : Nat → Int32) (tx : Nat → Int32) (th : Nat → Int32) (od : Nat → Int32) (bk : Nat → Int32) (bh : Nat → Int32) (fu : Int32) (fd : Int32) (fi : Int32) (nu : Int32) (nw : Int32) (nf : Int32) (bf : Int32) (bn : Int32) (ts : Int32) (ap : Int32) (fs : Int32) (ln : Int32) (fo : Int32) (fa : Int32) (wr : Int32) (x : Int32) (v : Nat → Int) (hp : MR 0 mw v) : (¬ x.toInt64 < 0 ∧ ¬ 1 < x.toInt64 → ∃ (gX_3 : Nat) (gY_4 : Nat) (gv_5 : Nat → Int), (((0 : Int32) = nI gX_3 ∧ (280 + (140 * x)) = nI gY_4 ∧ gX_3 + 140 ≤ 560 ∧ gY_4 + 140 ≤ 560 ∧ (gX_3 + 140 ≤ gY_4 ∨ gY_4 + 140 ≤ gX_3) ∧ MR gX_3 mw gv_5) ∧ (∀ (mw2_7 : Nat → Int64), (MR gY_4 mw2_7 gv_5 ∧ MF gY_4 mw mw2_7) → ((vp_in x 2) ∧ (∀ (fm2_8 : (Nat → Int32)), (fm2_8 = (upd ik x.toNatClampNeg (vp_nar .boolean 1))) → (((¬ (0 ≤ x.toInt ∧ x.toInt ≤ 1) ∧ (1 : Int32) = -1000000001 ∧ mw2_7 = mw ∧ fm2_8 = ik) ∨ ((0 ≤ x.toInt ∧ x.toInt ≤ 1) ∧ (1 : Int32) = 1 ∧ fm2_8 = upd ik x.toInt.toNat 1 ∧ MR (280 + 140 * x.toInt.toNat) mw2_7 v ∧ MF (280 + 140 * x.toInt.toNat) mw mw2_7)))))))) ∧ (¬ (¬ x.toInt64 < 0 ∧ ¬ 1 < x.toInt64) → ((¬ (0 ≤ x.toInt ∧ x.toInt ≤ 1) ∧ ((-1000000001) : Int32) = -1000000001 ∧ mw = mw ∧ ik = ik) ∨ ((0 ≤ x.toInt ∧ x.toInt ≤ 1) ∧ ((-1000000001) : Int32) = 1 ∧ ik = upd ik x.toInt.toNat 1 ∧ MR (280 + 140 * x.toInt.toNat) mw v ∧ MF (280 + 140 * x.toInt.toNat) mw mw))) := by
  have hR := hp
  have ex : x.toInt64.toInt = x.toInt := i_l rfl
  have hc : (¬ x.toInt64 < 0 ∧ ¬ 1 < x.toInt64) ↔ (0 ≤ x.toInt ∧ x.toInt ≤ 1) := by
    rw [l_lt ex (show (0 : Int64).toInt = 0 from rfl), l_lt (show (1 : Int64).toInt = 1 from rfl) ex]
    omega
  refine ⟨fun h0 => ?_, fun h => Or.inl ⟨fun q => h (hc.mpr q), rfl, rfl, rfl⟩⟩
  have hq := hc.mp h0
  obtain ⟨n, hn, rfl, hxn, hxt⟩ := in_nat (x := x) (n := 2) (by omega) (by omega)
  have cn : (nI n).toNatClampNeg = n := nI_clamp (by omega)
  have e : 280 + 140 * nI n = nI (280 + 140 * n) := by rw [show (140 : Int32) = nI 140 from rfl, show (280 : Int32) = nI 280 from rfl, pk_mul, nI_add]
  refine ⟨0, 280 + 140 * n, v, ⟨rfl, e, by omega, by omega, by omega, hR⟩, fun w hw => ⟨vp_in_nI (by omega) (by omega), fun k ek => Or.inr ⟨hq, rfl, ?_, ?_, ?_⟩⟩⟩
  · rw [ek, cn, hxt]; rfl
  · rw [hxt]; exact hw.1
  · rw [hxt]; exact hw.2
theorem k_X8_keep (l : Launch) (G : Gt) (m0 m1 m2 m3 m4 m5 m6 m7 m8 m9 m10 m11 m12 m13 m14 : Nat) (sz : Nat) (mw : Nat → Int64) (ik : Nat → Int32) (zs : Nat → Int32) (cl : Nat → Int32) (hs : Nat → Int32) (ks : Nat → Int32) (wa : Nat → Int32) (ne : Nat → Int32) (mn : Nat → Int32) (tx : Nat → Int32) (th : Nat → Int32) (od : Nat → Int32) (bk : Nat → Int32) (bh : Nat → Int32) (fu : Int32) (fd : Int32) (fi : Int32) (nu : Int32) (nw : Int32) (nf : Int32) (bf : Int32) (bn : Int32) (ts : Int32) (ap : Int32) (fs : Int32) (ln : Int32) (fo : Int32) (fa : Int32) (wr : Int32) (x : Int32) (v : Nat → Int) (hp : MR 0 mw v) : MetI l yX8_keep wsX8_keep 1 25 G [.ref m0, .int x] [(m0, .inr (8, [.ref m1, .ref m2, .ref m3, .ref m4, .ref m5, .ref m6, .ref m7, .ref m8, .ref m9, .int fu, .int fd, .int fi, .int nu, .int nw, .int nf, .int bf, .int bn, .ref m10, .int ts, .int ap, .int fs, .int ln, .int fo, .int fa, .ref m11, .ref m12, .ref m13, .ref m14, .int wr])), aJ G m1 560 mw, aZ G m2 2 ik, aI G m3 20 zs, aI G m4 20 cl, aI G m5 20 hs, aI G m6 20 ks, aI G m7 20 wa, aI G m8 20 ne, aI G m9 4 mn, aI G m10 400 tx, aI G m11 6 th, aI G m12 6 od, aI G m13 30 bk, aI G m14 30 bh] sz (fun (r : Int32) (u : (Nat → Int64) × (Nat → Int32)) => ((¬ (0 ≤ x.toInt ∧ x.toInt ≤ 1) ∧ r = -1000000001 ∧ u.1 = mw ∧ u.2 = ik) ∨ ((0 ≤ x.toInt ∧ x.toInt ≤ 1) ∧ r = 1 ∧ u.2 = upd ik x.toInt.toNat 1 ∧ MR (280 + 140 * x.toInt.toNat) u.1 v ∧ MF (280 + 140 * x.toInt.toNat) mw u.1))) (fun (u : (Nat → Int64) × (Nat → Int32)) => [(m0, .inr (8, [.ref m1, .ref m2, .ref m3, .ref m4, .ref m5, .ref m6, .ref m7, .ref m8, .ref m9, .int fu, .int fd, .int fi, .int nu, .int nw, .int nf, .int bf, .int bn, .ref m10, .int ts, .int ap, .int fs, .int ln, .int fo, .int fa, .ref m11, .ref m12, .ref m13, .ref m14, .int wr])), aJ G m1 560 u.1, aZ G m2 2 u.2, aI G m3 20 zs, aI G m4 20 cl, aI G m5 20 hs, aI G m6 20 ks, aI G m7 20 wa, aI G m8 20 ne, aI G m9 4 mn, aI G m10 400 tx, aI G m11 6 th, aI G m12 6 od, aI G m13 30 bk, aI G m14 30 bh]) :=
  c_X8_keep l G m0 m1 m2 m3 m4 m5 m6 m7 m8 m9 m10 m11 m12 m13 m14 sz mw ik zs cl hs ks wa ne mn tx th od bk bh fu fd fi nu nw nf bf bn ts ap fs ln fo fa wr x v (v_X8_keep l G m0 m1 m2 m3 m4 m5 m6 m7 m8 m9 m10 m11 m12 m13 m14 sz mw ik zs cl hs ks wa ne mn tx th od bk bh fu fd fi nu nw nf bf bn ts ap fs ln fo fa wr x v hp)

set_option maxHeartbeats 4000000 in
set_option maxRecDepth 100000 in
theorem c_X8_goBack (l : Launch) (G : Gt) (m0 m1 m2 m3 m4 m5 m6 m7 m8 m9 m10 m11 m12 m13 m14 : Nat) (sz : Nat) (mw : Nat → Int64) (ik : Nat → Int32) (zs : Nat → Int32) (cl : Nat → Int32) (hs : Nat → Int32) (ks : Nat → Int32) (wa : Nat → Int32) (ne : Nat → Int32) (mn : Nat → Int32) (tx : Nat → Int32) (th : Nat → Int32) (od : Nat → Int32) (bk : Nat → Int32) (bh : Nat → Int32) (fu : Int32) (fd : Int32) (fi : Int32) (nu : Int32) (nw : Int32) (nf : Int32) (bf : Int32) (bn : Int32) (ts : Int32) (ap : Int32) (fs : Int32) (ln : Int32) (fo : Int32) (fa : Int32) (wr : Int32) (x : Int32) (hv : (¬ x.toInt64 < 0 ∧ ¬ 1 < x.toInt64 → (vp_in x 2) ∧ ((¬ (ik x.toNatClampNeg) = 0 → ∃ (gX_4 : Nat) (gY_5 : Nat) (gv_6 : Nat → Int), (((280 + (140 * x)) = nI gX_4 ∧ (0 : Int32) = nI gY_5 ∧ gX_4 + 140 ≤ 560 ∧ gY_5 + 140 ≤ 560 ∧ (gX_4 + 140 ≤ gY_5 ∨ gY_5 + 140 ≤ gX_4) ∧ MR gX_4 mw gv_6) ∧ (∀ (mw2_8 : Nat → Int64), (MR gY_5 mw2_8 gv_6 ∧ MF gY_5 mw mw2_8) → (((¬ (0 ≤ x.toInt ∧ x.toInt ≤ 1) ∧ (1 : Int32) = -1000000001 ∧ mw2_8 = mw) ∨ ((0 ≤ x.toInt ∧ x.toInt ≤ 1) ∧ ik x.toInt.toNat = 0 ∧ (1 : Int32) = -1000000003 ∧ mw2_8 = mw) ∨ ((0 ≤ x.toInt ∧ x.toInt ≤ 1) ∧ ¬ ik x.toInt.toNat = 0 ∧ (1 : Int32) = 1 ∧ MR 0 mw2_8 (fun i => (mw (280 + 140 * x.toInt.toNat + i)).toInt) ∧ MF 0 mw mw2_8)))))) ∧ ((ik x.toNatClampNeg) = 0 → ((¬ (0 ≤ x.toInt ∧ x.toInt ≤ 1) ∧ ((-1000000003) : Int32) = -1000000001 ∧ mw = mw) ∨ ((0 ≤ x.toInt ∧ x.toInt ≤ 1) ∧ ik x.toInt.toNat = 0 ∧ ((-1000000003) : Int32) = -1000000003 ∧ mw = mw) ∨ ((0 ≤ x.toInt ∧ x.toInt ≤ 1) ∧ ¬ ik x.toInt.toNat = 0 ∧ ((-1000000003) : Int32) = 1 ∧ MR 0 mw (fun i => (mw (280 + 140 * x.toInt.toNat + i)).toInt) ∧ MF 0 mw mw))))) ∧ (¬ (¬ x.toInt64 < 0 ∧ ¬ 1 < x.toInt64) → ((¬ (0 ≤ x.toInt ∧ x.toInt ≤ 1) ∧ ((-1000000001) : Int32) = -1000000001 ∧ mw = mw) ∨ ((0 ≤ x.toInt ∧ x.toInt ≤ 1) ∧ ik x.toInt.toNat = 0 ∧ ((-1000000001) : Int32) = -1000000003 ∧ mw = mw) ∨ ((0 ≤ x.toInt ∧ x.toInt ≤ 1) ∧ ¬ ik x.toInt.toNat = 0 ∧ ((-1000000001) : Int32) = 1 ∧ MR 0 mw (fun i => (mw (280 + 140 * x.toInt.toNat + i)).toInt) ∧ MF 0 mw mw)))) : MetI l yX8_goBack wsX8_goBack 1 25 G [.ref m0, .int x] [(m0, .inr (8, [.ref m1, .ref m2, .ref m3, .ref m4, .ref m5, .ref m6, .ref m7, .ref m8, .ref m9, .int fu, .int fd, .int fi, .int nu, .int nw, .int nf, .int bf, .int bn, .ref m10, .int ts, .int ap, .int fs, .int ln, .int fo, .int fa, .ref m11, .ref m12, .ref m13, .ref m14, .int wr])), aJ G m1 560 mw, aZ G m2 2 ik, aI G m3 20 zs, aI G m4 20 cl, aI G m5 20 hs, aI G m6 20 ks, aI G m7 20 wa, aI G m8 20 ne, aI G m9 4 mn, aI G m10 400 tx, aI G m11 6 th, aI G m12 6 od, aI G m13 30 bk, aI G m14 30 bh] sz (fun (r : Int32) (u : (Nat → Int64)) => ((¬ (0 ≤ x.toInt ∧ x.toInt ≤ 1) ∧ r = -1000000001 ∧ u = mw) ∨ ((0 ≤ x.toInt ∧ x.toInt ≤ 1) ∧ ik x.toInt.toNat = 0 ∧ r = -1000000003 ∧ u = mw) ∨ ((0 ≤ x.toInt ∧ x.toInt ≤ 1) ∧ ¬ ik x.toInt.toNat = 0 ∧ r = 1 ∧ MR 0 u (fun i => (mw (280 + 140 * x.toInt.toNat + i)).toInt) ∧ MF 0 mw u))) (fun (u : (Nat → Int64)) => [(m0, .inr (8, [.ref m1, .ref m2, .ref m3, .ref m4, .ref m5, .ref m6, .ref m7, .ref m8, .ref m9, .int fu, .int fd, .int fi, .int nu, .int nw, .int nf, .int bf, .int bn, .ref m10, .int ts, .int ap, .int fs, .int ln, .int fo, .int fa, .ref m11, .ref m12, .ref m13, .ref m14, .int wr])), aJ G m1 560 u, aZ G m2 2 ik, aI G m3 20 zs, aI G m4 20 cl, aI G m5 20 hs, aI G m6 20 ks, aI G m7 20 wa, aI G m8 20 ne, aI G m9 4 mn, aI G m10 400 tx, aI G m11 6 th, aI G m12 6 od, aI G m13 30 bk, aI G m14 30 bh]) := by
  refine x_startI (cc := cX8_goBack) (maxL := 2) (ret := (some .int)) (by decide) rfl (Nat.le_of_ble_eq_true rfl) ?_
  intro p e s m args below meth c A R Q ls hRf hRl hQ C hP hD hS hA hSS hl
  obtain ⟨hx, hb, hr, hml, hown, hts, hlocks, hKK⟩ := C
  have hown : s.vm.findClass RX8 = some m.cls := hown
  have hl : lv_has ls 2 [(0, .ref m0), (1, .int x)] := hl
  have hinX8 : ∀ w ∈ u_ws RX8 TX8 29, w ∈ wsX8_goBack := by decide +kernel
  have kl13 := hts (.fieldLink RX8 13 "WarmStonesModel" "isKept" "[Z") (by decide +kernel)
  have kl164 := hts (.constant RX8 164 (-1000000001)) (by decide +kernel)
  have kl198 := hts (.constant RX8 198 (-1000000003)) (by decide +kernel)
  refine lv_iload_n hx hb dX8_goBack_0 rfl (lv_at hl 1 rfl) ?_
  refine lv_i2l hx hb dX8_goBack_1 rfl ?_
  refine lv_lconst (v := 0) hx hb dX8_goBack_2 (by decide) ?_
  refine lv_lconst (v := 1) hx hb dX8_goBack_3 (by decide) ?_
  refine x_calliR (x_runS (As := [.long x.toInt64, .long 0, .long 1]) (rest := []) (n := 3) ⟨hx, hb, hml, hown, hts⟩ (k_X8_in l G  _ x.toInt64 0 1) gX8_goBack_X8_in rfl (by decide +kernel) ⟨Nat.le_trans (Nat.le_of_ble_eq_true rfl) hRf, Nat.le_trans (Nat.le_of_ble_eq_true rfl) hRl⟩ hKK hSS hS hA hP hD [] (by decide) rfl rfl hl.1 rfl (Nat.le_of_ble_eq_true rfl) dX8_goBack_4) hP hD hS hA [] rfl (fun r_1 _ H locs hw hP hS => ?_)
  replace hw := hw.symm; subst hw
  refine lv_if_ne (tgt := 13) hx hb dX8_goBack_7 (by decide) (fun hc_2 => ?_) (fun hc_2 => ?_)
  · have hv := hv.1 (tv_eqn.mp hc_2)
    refine lv_aload_n hx hb dX8_goBack_13 rfl (lv_at hl 0 rfl) ?_
    refine va_get (D := G.1) (ci := 8) (v := .ref m2) (C := RX8) (T := TX8) (N := 29) hx hb hts hinX8 hown hKK.1 hP 0 rfl rfl 1 (by decide) kl13 (fun _ h9 => h9) rfl dX8_goBack_14 ?_
    refine lv_iload_n hx hb dX8_goBack_17 rfl (lv_at hl 1 rfl) ?_
    obtain ⟨hin, hv⟩ := hv
    refine va_zald hx hb hKK.1 hP 2 3 rfl rfl hin dX8_goBack_18 ?_
    refine lv_if_ne (tgt := 25) hx hb dX8_goBack_19 (by decide) (fun hc_3 => ?_) (fun hc_3 => ?_)
    · have hv := hv.1 hc_3
      refine lv_aload_n hx hb dX8_goBack_25 rfl (lv_at hl 0 rfl) ?_
      refine lv_sipush (v := 280) hx hb dX8_goBack_26 (by decide) ?_
      refine lv_sipush (v := 140) hx hb dX8_goBack_29 (by decide) ?_
      refine lv_iload_n hx hb dX8_goBack_32 rfl (lv_at hl 1 rfl) ?_
      refine lv_imul hx hb dX8_goBack_33 ?_
      refine lv_iadd hx hb dX8_goBack_34 ?_
      refine lv_iconst (v := 0) hx hb dX8_goBack_35 (by decide) ?_
      obtain ⟨gX_4, gY_5, gv_6, hv⟩ := hv
      obtain ⟨hp, hv⟩ := hv
      refine x_callv (wr := []) (w' := fun (u : (Nat → Int64)) => [(m0, .inr (8, [.ref m1, .ref m2, .ref m3, .ref m4, .ref m5, .ref m6, .ref m7, .ref m8, .ref m9, .int fu, .int fd, .int fi, .int nu, .int nw, .int nf, .int bf, .int bn, .ref m10, .int ts, .int ap, .int fs, .int ln, .int fo, .int fa, .ref m11, .ref m12, .ref m13, .ref m14, .int wr])), aJ G m1 560 u, aZ G m2 2 ik, aI G m3 20 zs, aI G m4 20 cl, aI G m5 20 hs, aI G m6 20 ks, aI G m7 20 wa, aI G m8 20 ne, aI G m9 4 mn, aI G m10 400 tx, aI G m11 6 th, aI G m12 6 od, aI G m13 30 bk, aI G m14 30 bh]) (x_runV (As := [.int (280 + (140 * x)), .int 0]) (rest := []) (n := 2) (C := RX8) (ci := 8) ⟨hx, hb, hml, hown, hts⟩ (k_X8_copy l G m0 m1 m2 m3 m4 m5 m6 m7 m8 m9 m10 m11 m12 m13 m14 _ mw ik zs cl hs ks wa ne mn tx th od bk bh fu fd fi nu nw nf bf bn ts ap fs ln fo fa wr (280 + (140 * x)) 0 gX_4 gY_5 gv_6 hp) gX8_goBack_X8_copy rfl (by decide +kernel) ⟨Nat.le_trans (Nat.le_of_ble_eq_true rfl) hRf, Nat.le_trans (Nat.le_of_ble_eq_true rfl) hRl⟩ hKK hSS hS hA hP hD [0, 1, 2, 3, 4, 5, 6, 7, 8, 9, 10, 11, 12, 13, 14] (by decide) rfl rfl rfl 0 rfl rfl hl.1 rfl (Nat.le_of_ble_eq_true rfl) dX8_goBack_36) hP hD hS hA [0, 1, 2, 3, 4, 5, 6, 7, 8, 9, 10, 11, 12, 13, 14] [] [0, 1, 2, 3, 4, 5, 6, 7, 8, 9, 10, 11, 12, 13, 14] rfl rfl (by decide) (by decide) (by decide) (fun _ => rfl) (fun  u H locs hw hP hD hS => ?_)
      obtain ⟨mw2_8, rfl⟩ : ∃ z9_, z9_ = u := ⟨_, rfl⟩
      have hP : va_P G.1 vwCl [(m0, .inr (8, [.ref m1, .ref m2, .ref m3, .ref m4, .ref m5, .ref m6, .ref m7, .ref m8, .ref m9, .int fu, .int fd, .int fi, .int nu, .int nw, .int nf, .int bf, .int bn, .ref m10, .int ts, .int ap, .int fs, .int ln, .int fo, .int fa, .ref m11, .ref m12, .ref m13, .ref m14, .int wr])), aJ G m1 560 mw2_8, aZ G m2 2 ik, aI G m3 20 zs, aI G m4 20 cl, aI G m5 20 hs, aI G m6 20 ks, aI G m7 20 wa, aI G m8 20 ne, aI G m9 4 mn, aI G m10 400 tx, aI G m11 6 th, aI G m12 6 od, aI G m13 30 bk, aI G m14 30 bh] H := hP
      have hD : va_D A [(m0, .inr (8, [.ref m1, .ref m2, .ref m3, .ref m4, .ref m5, .ref m6, .ref m7, .ref m8, .ref m9, .int fu, .int fd, .int fi, .int nu, .int nw, .int nf, .int bf, .int bn, .ref m10, .int ts, .int ap, .int fs, .int ln, .int fo, .int fa, .ref m11, .ref m12, .ref m13, .ref m14, .int wr])), aJ G m1 560 mw2_8, aZ G m2 2 ik, aI G m3 20 zs, aI G m4 20 cl, aI G m5 20 hs, aI G m6 20 ks, aI G m7 20 wa, aI G m8 20 ne, aI G m9 4 mn, aI G m10 400 tx, aI G m11 6 th, aI G m12 6 od, aI G m13 30 bk, aI G m14 30 bh] := hD
      have hv := hv mw2_8 hw
      refine lv_iconst (v := 1) hx hb dX8_goBack_39 (by decide) ?_
      exact x_iret (v := 1) mw2_8 hQ hx hb hr hlocks hS dX8_goBack_40 hv hP hD
    · have hv := hv.2 hc_3
      refine lv_ldc (v := (-1000000003)) hx hb hown kl198 dX8_goBack_22 ?_
      exact x_iret (v := (-1000000003)) mw hQ hx hb hr hlocks hS dX8_goBack_24 hv hP hD
  · have hv := hv.2 (tv_eq.mp hc_2)
    refine lv_ldc (v := (-1000000001)) hx hb hown kl164 dX8_goBack_10 ?_
    exact x_iret (v := (-1000000001)) mw hQ hx hb hr hlocks hS dX8_goBack_12 hv hP hD
theorem v_X8_goBack (l : Launch) (G : Gt) (m0 m1 m2 m3 m4 m5 m6 m7 m8 m9 m10 m11 m12 m13 m14 : Nat) (sz : Nat) (mw : Nat → Int64) (ik : Nat → Int32) (zs : Nat → Int32) (cl : Nat → Int32) (hs : Nat → Int32) (ks : Nat → Int32) (wa : Nat → Int32) (ne : Nat → Int32) (mn : Nat → Int32) (tx : Nat → Int32) (th : Nat → Int32) (od : Nat → Int32) (bk : Nat → Int32) (bh : Nat → Int32) (fu : Int32) (fd : Int32) (fi : Int32) (nu : Int32) (nw : Int32) (nf : Int32) (bf : Int32) (bn : Int32) (ts : Int32) (ap : Int32) (fs : Int32) (ln : Int32) (fo : Int32) (fa : Int32) (wr : Int32) (x : Int32) : (¬ x.toInt64 < 0 ∧ ¬ 1 < x.toInt64 → (vp_in x 2) ∧ ((¬ (ik x.toNatClampNeg) = 0 → ∃ (gX_4 : Nat) (gY_5 : Nat) (gv_6 : Nat → Int), (((280 + (140 * x)) = nI gX_4 ∧ (0 : Int32) = nI gY_5 ∧ gX_4 + 140 ≤ 560 ∧ gY_5 + 140 ≤ 560 ∧ (gX_4 + 140 ≤ gY_5 ∨ gY_5 + 140 ≤ gX_4) ∧ MR gX_4 mw gv_6) ∧ (∀ (mw2_8 : Nat → Int64), (MR gY_5 mw2_8 gv_6 ∧ MF gY_5 mw mw2_8) → (((¬ (0 ≤ x.toInt ∧ x.toInt ≤ 1) ∧ (1 : Int32) = -1000000001 ∧ mw2_8 = mw) ∨ ((0 ≤ x.toInt ∧ x.toInt ≤ 1) ∧ ik x.toInt.toNat = 0 ∧ (1 : Int32) = -1000000003 ∧ mw2_8 = mw) ∨ ((0 ≤ x.toInt ∧ x.toInt ≤ 1) ∧ ¬ ik x.toInt.toNat = 0 ∧ (1 : Int32) = 1 ∧ MR 0 mw2_8 (fun i => (mw (280 + 140 * x.toInt.toNat + i)).toInt) ∧ MF 0 mw mw2_8)))))) ∧ ((ik x.toNatClampNeg) = 0 → ((¬ (0 ≤ x.toInt ∧ x.toInt ≤ 1) ∧ ((-1000000003) : Int32) = -1000000001 ∧ mw = mw) ∨ ((0 ≤ x.toInt ∧ x.toInt ≤ 1) ∧ ik x.toInt.toNat = 0 ∧ ((-1000000003) : Int32) = -1000000003 ∧ mw = mw) ∨ ((0 ≤ x.toInt ∧ x.toInt ≤ 1) ∧ ¬ ik x.toInt.toNat = 0 ∧ ((-1000000003) : Int32) = 1 ∧ MR 0 mw (fun i => (mw (280 + 140 * x.toInt.toNat + i)).toInt) ∧ MF 0 mw mw))))) ∧ (¬ (¬ x.toInt64 < 0 ∧ ¬ 1 < x.toInt64) → ((¬ (0 ≤ x.toInt ∧ x.toInt ≤ 1) ∧ ((-1000000001) : Int32) = -1000000001 ∧ mw = mw) ∨ ((0 ≤ x.toInt ∧ x.toInt ≤ 1) ∧ ik x.toInt.toNat = 0 ∧ ((-1000000001) : Int32) = -1000000003 ∧ mw = mw) ∨ ((0 ≤ x.toInt ∧ x.toInt ≤ 1) ∧ ¬ ik x.toInt.toNat = 0 ∧ ((-1000000001) : Int32) = 1 ∧ MR 0 mw (fun i => (mw (280 + 140 * x.toInt.toNat + i)).toInt) ∧ MF 0 mw mw))) := by
  have ex : x.toInt64.toInt = x.toInt := i_l rfl
  have hc : (¬ x.toInt64 < 0 ∧ ¬ 1 < x.toInt64) ↔ (0 ≤ x.toInt ∧ x.toInt ≤ 1) := by
    rw [l_lt ex (show (0 : Int64).toInt = 0 from rfl), l_lt (show (1 : Int64).toInt = 1 from rfl) ex]
    omega
  refine ⟨fun h0 => ?_, fun h => Or.inl ⟨fun q => h (hc.mpr q), rfl, rfl⟩⟩
  have hq := hc.mp h0
  obtain ⟨n, hn, rfl, hxn, hxt⟩ := in_nat (x := x) (n := 2) (by omega) (by omega)
  have cn : (nI n).toNatClampNeg = n := nI_clamp (by omega)
  have e : 280 + 140 * nI n = nI (280 + 140 * n) := by rw [show (140 : Int32) = nI 140 from rfl, show (280 : Int32) = nI 280 from rfl, pk_mul, nI_add]
  rw [cn]
  refine ⟨vp_in_nI (by omega) (by omega), fun h => ?_, fun h => Or.inr (Or.inl ⟨hq, by rw [hxt]; exact h, rfl, rfl⟩)⟩
  refine ⟨280 + 140 * n, 0, fun i => (mw (280 + 140 * n + i)).toInt, ⟨e, rfl, by omega, by omega, by omega, fun i _ => rfl⟩, fun w hw => Or.inr (Or.inr ⟨hq, by rw [hxt]; exact h, rfl, by rw [hxt]; exact hw.1, hw.2⟩)⟩
theorem k_X8_goBack (l : Launch) (G : Gt) (m0 m1 m2 m3 m4 m5 m6 m7 m8 m9 m10 m11 m12 m13 m14 : Nat) (sz : Nat) (mw : Nat → Int64) (ik : Nat → Int32) (zs : Nat → Int32) (cl : Nat → Int32) (hs : Nat → Int32) (ks : Nat → Int32) (wa : Nat → Int32) (ne : Nat → Int32) (mn : Nat → Int32) (tx : Nat → Int32) (th : Nat → Int32) (od : Nat → Int32) (bk : Nat → Int32) (bh : Nat → Int32) (fu : Int32) (fd : Int32) (fi : Int32) (nu : Int32) (nw : Int32) (nf : Int32) (bf : Int32) (bn : Int32) (ts : Int32) (ap : Int32) (fs : Int32) (ln : Int32) (fo : Int32) (fa : Int32) (wr : Int32) (x : Int32) : MetI l yX8_goBack wsX8_goBack 1 25 G [.ref m0, .int x] [(m0, .inr (8, [.ref m1, .ref m2, .ref m3, .ref m4, .ref m5, .ref m6, .ref m7, .ref m8, .ref m9, .int fu, .int fd, .int fi, .int nu, .int nw, .int nf, .int bf, .int bn, .ref m10, .int ts, .int ap, .int fs, .int ln, .int fo, .int fa, .ref m11, .ref m12, .ref m13, .ref m14, .int wr])), aJ G m1 560 mw, aZ G m2 2 ik, aI G m3 20 zs, aI G m4 20 cl, aI G m5 20 hs, aI G m6 20 ks, aI G m7 20 wa, aI G m8 20 ne, aI G m9 4 mn, aI G m10 400 tx, aI G m11 6 th, aI G m12 6 od, aI G m13 30 bk, aI G m14 30 bh] sz (fun (r : Int32) (u : (Nat → Int64)) => ((¬ (0 ≤ x.toInt ∧ x.toInt ≤ 1) ∧ r = -1000000001 ∧ u = mw) ∨ ((0 ≤ x.toInt ∧ x.toInt ≤ 1) ∧ ik x.toInt.toNat = 0 ∧ r = -1000000003 ∧ u = mw) ∨ ((0 ≤ x.toInt ∧ x.toInt ≤ 1) ∧ ¬ ik x.toInt.toNat = 0 ∧ r = 1 ∧ MR 0 u (fun i => (mw (280 + 140 * x.toInt.toNat + i)).toInt) ∧ MF 0 mw u))) (fun (u : (Nat → Int64)) => [(m0, .inr (8, [.ref m1, .ref m2, .ref m3, .ref m4, .ref m5, .ref m6, .ref m7, .ref m8, .ref m9, .int fu, .int fd, .int fi, .int nu, .int nw, .int nf, .int bf, .int bn, .ref m10, .int ts, .int ap, .int fs, .int ln, .int fo, .int fa, .ref m11, .ref m12, .ref m13, .ref m14, .int wr])), aJ G m1 560 u, aZ G m2 2 ik, aI G m3 20 zs, aI G m4 20 cl, aI G m5 20 hs, aI G m6 20 ks, aI G m7 20 wa, aI G m8 20 ne, aI G m9 4 mn, aI G m10 400 tx, aI G m11 6 th, aI G m12 6 od, aI G m13 30 bk, aI G m14 30 bh]) :=
  c_X8_goBack l G m0 m1 m2 m3 m4 m5 m6 m7 m8 m9 m10 m11 m12 m13 m14 sz mw ik zs cl hs ks wa ne mn tx th od bk bh fu fd fi nu nw nf bf bn ts ap fs ln fo fa wr x (v_X8_goBack l G m0 m1 m2 m3 m4 m5 m6 m7 m8 m9 m10 m11 m12 m13 m14 sz mw ik zs cl hs ks wa ne mn tx th od bk bh fu fd fi nu nw nf bf bn ts ap fs ln fo fa wr x)

set_option maxHeartbeats 4000000 in
set_option maxRecDepth 100000 in
theorem c_X8_safe (l : Launch) (G : Gt) (m0 m1 m2 m3 m4 m5 m6 m7 m8 m9 m10 m11 m12 m13 m14 : Nat) (sz : Nat) (mw : Nat → Int64) (ik : Nat → Int32) (zs : Nat → Int32) (cl : Nat → Int32) (hs : Nat → Int32) (ks : Nat → Int32) (wa : Nat → Int32) (ne : Nat → Int32) (mn : Nat → Int32) (tx : Nat → Int32) (th : Nat → Int32) (od : Nat → Int32) (bk : Nat → Int32) (bh : Nat → Int32) (fu : Int32) (fd : Int32) (fi : Int32) (nu : Int32) (nw : Int32) (nf : Int32) (bf : Int32) (bn : Int32) (ts : Int32) (ap : Int32) (fs : Int32) (ln : Int32) (fo : Int32) (fa : Int32) (wr : Int32) (T : Nat → Nat → Int) (Ns : Nat) (Np : Nat) (v : Nat → Int) (M : Int) (hv : ∃ (gX_1 : Nat) (gY_2 : Nat) (gv_3 : Nat → Int), (((0 : Int32) = nI gX_1 ∧ (140 : Int32) = nI gY_2 ∧ gX_1 + 140 ≤ 560 ∧ gY_2 + 140 ≤ 560 ∧ (gX_1 + 140 ≤ gY_2 ∨ gY_2 + 140 ≤ gX_1) ∧ MR gX_1 mw gv_3) ∧ (∀ (mw2_5 : Nat → Int64), (MR gY_2 mw2_5 gv_3 ∧ MF gY_2 mw mw2_5) → (∃ (I10_8 : (Nat → Int64) → Int32 → Prop) (μ10_9 : (Nat → Int64) → Int32 → Nat), I10_8 mw2_5 0 ∧ (∀ (fm1_6 : (Nat → Int64)) (x1_7 : Int32), I10_8 fm1_6 x1_7 → (999 ≤ x1_7 → x1_7 = nI (zSafe T Ns Np v 999) ∧ MF 140 mw fm1_6) ∧ (¬ (999 ≤ x1_7) → ∃ (gT_13 : Nat → Nat → Int) (gNs_14 : Nat) (gNp_15 : Nat) (gX_16 : Nat) (gv_17 : Nat → Int) (gM_18 : Int), ((TOK gT_13 gNs_14 gNp_15 ∧ MT gT_13 gNs_14 gNp_15 fu fd fi zs cl ks ne mn ∧ (140 : Int32) = nI gX_16 ∧ gX_16 + 140 ≤ 560 ∧ MR gX_16 fm1_6 gv_17 ∧ NOK gT_13 gNs_14 gNp_15 (fun _ => 2 * gM_18) gM_18 gv_17 ∧ gM_18 ≤ 1000000) ∧ (∀ (r_19 : Int32) (mw2_20 : Nat → Int64), (r_19 = nI (zCs gT_13 (zPass gT_13 gNs_14 gNp_15 gv_17) gNp_15) ∧ MR gX_16 mw2_20 (zPass gT_13 gNs_14 gNp_15 gv_17) ∧ MF gX_16 fm1_6 mw2_20) → ((¬ r_19 = 0 → x1_7 = nI (zSafe T Ns Np v 999) ∧ MF 140 mw mw2_20) ∧ (r_19 = 0 → I10_8 mw2_20 (x1_7 + 1) ∧ μ10_9 mw2_20 (x1_7 + 1) < μ10_9 fm1_6 x1_7)))))))))) : MetI l yX8_safe wsX8_safe 4 101 G [.ref m0] [(m0, .inr (8, [.ref m1, .ref m2, .ref m3, .ref m4, .ref m5, .ref m6, .ref m7, .ref m8, .ref m9, .int fu, .int fd, .int fi, .int nu, .int nw, .int nf, .int bf, .int bn, .ref m10, .int ts, .int ap, .int fs, .int ln, .int fo, .int fa, .ref m11, .ref m12, .ref m13, .ref m14, .int wr])), aJ G m1 560 mw, aZ G m2 2 ik, aI G m3 20 zs, aI G m4 20 cl, aI G m5 20 hs, aI G m6 20 ks, aI G m7 20 wa, aI G m8 20 ne, aI G m9 4 mn, aI G m10 400 tx, aI G m11 6 th, aI G m12 6 od, aI G m13 30 bk, aI G m14 30 bh] sz (fun (r : Int32) (u : (Nat → Int64)) => r = nI (zSafe T Ns Np v 999) ∧ MF 140 mw u) (fun (u : (Nat → Int64)) => [(m0, .inr (8, [.ref m1, .ref m2, .ref m3, .ref m4, .ref m5, .ref m6, .ref m7, .ref m8, .ref m9, .int fu, .int fd, .int fi, .int nu, .int nw, .int nf, .int bf, .int bn, .ref m10, .int ts, .int ap, .int fs, .int ln, .int fo, .int fa, .ref m11, .ref m12, .ref m13, .ref m14, .int wr])), aJ G m1 560 u, aZ G m2 2 ik, aI G m3 20 zs, aI G m4 20 cl, aI G m5 20 hs, aI G m6 20 ks, aI G m7 20 wa, aI G m8 20 ne, aI G m9 4 mn, aI G m10 400 tx, aI G m11 6 th, aI G m12 6 od, aI G m13 30 bk, aI G m14 30 bh]) := by
  refine x_startI (cc := cX8_safe) (maxL := 2) (ret := (some .int)) (by decide) rfl (Nat.le_of_ble_eq_true rfl) ?_
  intro p e s m args below meth c A R Q ls hRf hRl hQ C hP hD hS hA hSS hl
  obtain ⟨hx, hb, hr, hml, hown, hts, hlocks, hKK⟩ := C
  have hown : s.vm.findClass RX8 = some m.cls := hown
  have hl : lv_has ls 2 [(0, .ref m0)] := hl
  refine lv_aload_n hx hb dX8_safe_0 rfl (lv_at hl 0 rfl) ?_
  refine lv_iconst (v := 0) hx hb dX8_safe_1 (by decide) ?_
  refine lv_sipush (v := 140) hx hb dX8_safe_2 (by decide) ?_
  obtain ⟨gX_1, gY_2, gv_3, hv⟩ := hv
  obtain ⟨hp, hv⟩ := hv
  refine x_callv (wr := []) (w' := fun (u : (Nat → Int64)) => [(m0, .inr (8, [.ref m1, .ref m2, .ref m3, .ref m4, .ref m5, .ref m6, .ref m7, .ref m8, .ref m9, .int fu, .int fd, .int fi, .int nu, .int nw, .int nf, .int bf, .int bn, .ref m10, .int ts, .int ap, .int fs, .int ln, .int fo, .int fa, .ref m11, .ref m12, .ref m13, .ref m14, .int wr])), aJ G m1 560 u, aZ G m2 2 ik, aI G m3 20 zs, aI G m4 20 cl, aI G m5 20 hs, aI G m6 20 ks, aI G m7 20 wa, aI G m8 20 ne, aI G m9 4 mn, aI G m10 400 tx, aI G m11 6 th, aI G m12 6 od, aI G m13 30 bk, aI G m14 30 bh]) (x_runV (As := [.int 0, .int 140]) (rest := []) (n := 2) (C := RX8) (ci := 8) ⟨hx, hb, hml, hown, hts⟩ (k_X8_copy l G m0 m1 m2 m3 m4 m5 m6 m7 m8 m9 m10 m11 m12 m13 m14 _ mw ik zs cl hs ks wa ne mn tx th od bk bh fu fd fi nu nw nf bf bn ts ap fs ln fo fa wr 0 140 gX_1 gY_2 gv_3 hp) gX8_safe_X8_copy rfl (by decide +kernel) ⟨Nat.le_trans (Nat.le_of_ble_eq_true rfl) hRf, Nat.le_trans (Nat.le_of_ble_eq_true rfl) hRl⟩ hKK hSS hS hA hP hD [0, 1, 2, 3, 4, 5, 6, 7, 8, 9, 10, 11, 12, 13, 14] (by decide) rfl rfl rfl 0 rfl rfl hl.1 rfl (Nat.le_of_ble_eq_true rfl) dX8_safe_5) hP hD hS hA [0, 1, 2, 3, 4, 5, 6, 7, 8, 9, 10, 11, 12, 13, 14] [] [0, 1, 2, 3, 4, 5, 6, 7, 8, 9, 10, 11, 12, 13, 14] rfl rfl (by decide) (by decide) (by decide) (fun _ => rfl) (fun  u H locs hw hP hD hS => ?_)
  obtain ⟨mw2_5, rfl⟩ : ∃ z9_, z9_ = u := ⟨_, rfl⟩
  have hP : va_P G.1 vwCl [(m0, .inr (8, [.ref m1, .ref m2, .ref m3, .ref m4, .ref m5, .ref m6, .ref m7, .ref m8, .ref m9, .int fu, .int fd, .int fi, .int nu, .int nw, .int nf, .int bf, .int bn, .ref m10, .int ts, .int ap, .int fs, .int ln, .int fo, .int fa, .ref m11, .ref m12, .ref m13, .ref m14, .int wr])), aJ G m1 560 mw2_5, aZ G m2 2 ik, aI G m3 20 zs, aI G m4 20 cl, aI G m5 20 hs, aI G m6 20 ks, aI G m7 20 wa, aI G m8 20 ne, aI G m9 4 mn, aI G m10 400 tx, aI G m11 6 th, aI G m12 6 od, aI G m13 30 bk, aI G m14 30 bh] H := hP
  have hD : va_D A [(m0, .inr (8, [.ref m1, .ref m2, .ref m3, .ref m4, .ref m5, .ref m6, .ref m7, .ref m8, .ref m9, .int fu, .int fd, .int fi, .int nu, .int nw, .int nf, .int bf, .int bn, .ref m10, .int ts, .int ap, .int fs, .int ln, .int fo, .int fa, .ref m11, .ref m12, .ref m13, .ref m14, .int wr])), aJ G m1 560 mw2_5, aZ G m2 2 ik, aI G m3 20 zs, aI G m4 20 cl, aI G m5 20 hs, aI G m6 20 ks, aI G m7 20 wa, aI G m8 20 ne, aI G m9 4 mn, aI G m10 400 tx, aI G m11 6 th, aI G m12 6 od, aI G m13 30 bk, aI G m14 30 bh] := hD
  have hv := hv mw2_5 hw
  refine lv_iconst (v := 0) hx hb dX8_safe_8 (by decide) ?_
  refine lv_istore_n (lv' := [(1, .int 0), (0, .ref m0)]) hx hb dX8_safe_9 rfl hl (by decide) rfl (fun ls hl => ?_)
  obtain ⟨I10_8, μ10_9, hi0, hs_22⟩ := hv
  have Lm_24 : ∀ (n_23 : Nat) (fm1_6 : (Nat → Int64)) (x1_7 : Int32) (H : Heap) (locs : List Loc) (ls : Array Slot), μ10_9 fm1_6 x1_7 < n_23 → I10_8 fm1_6 x1_7 → va_P G.1 vwCl [(m0, .inr (8, [.ref m1, .ref m2, .ref m3, .ref m4, .ref m5, .ref m6, .ref m7, .ref m8, .ref m9, .int fu, .int fd, .int fi, .int nu, .int nw, .int nf, .int bf, .int bn, .ref m10, .int ts, .int ap, .int fs, .int ln, .int fo, .int fa, .ref m11, .ref m12, .ref m13, .ref m14, .int wr])), aJ G m1 560 fm1_6, aZ G m2 2 ik, aI G m3 20 zs, aI G m4 20 cl, aI G m5 20 hs, aI G m6 20 ks, aI G m7 20 wa, aI G m8 20 ne, aI G m9 4 mn, aI G m10 400 tx, aI G m11 6 th, aI G m12 6 od, aI G m13 30 bk, aI G m14 30 bh] H → va_D A [(m0, .inr (8, [.ref m1, .ref m2, .ref m3, .ref m4, .ref m5, .ref m6, .ref m7, .ref m8, .ref m9, .int fu, .int fd, .int fi, .int nu, .int nw, .int nf, .int bf, .int bn, .ref m10, .int ts, .int ap, .int fs, .int ln, .int fo, .int fa, .ref m11, .ref m12, .ref m13, .ref m14, .int wr])), aJ G m1 560 fm1_6, aZ G m2 2 ik, aI G m3 20 zs, aI G m4 20 cl, aI G m5 20 hs, aI G m6 20 ks, aI G m7 20 wa, aI G m8 20 ne, aI G m9 4 mn, aI G m10 400 tx, aI G m11 6 th, aI G m12 6 od, aI G m13 30 bk, aI G m14 30 bh] → va_S A s.heap H locs → lv_has ls 2 [(1, .int x1_7), (0, .ref m0)] → W p l e R s m args below meth c H locs 0 0 Q (F0 m 10 ls []) := by
    intro n_23
    induction n_23 with
    | zero => intro fm1_6 x1_7 H locs ls hm; exact absurd hm (Nat.not_lt_zero _)
    | succ n_23 ih_10 =>
      intro fm1_6 x1_7 H locs ls hI_11 hi hP hD hS hl
      have hv := hs_22 fm1_6 x1_7 hi
      refine lv_iload_n hx hb dX8_safe_10 rfl (lv_at hl 0 rfl) ?_
      refine lv_sipush (v := 999) hx hb dX8_safe_11 (by decide) ?_
      refine lv_icmp_ge (tgt := 33) hx hb dX8_safe_14 (by decide) (fun hc_12 => ?_) (fun hc_12 => ?_)
      · have hv := hv.1 hc_12
        refine lv_iload_n hx hb dX8_safe_33 rfl (lv_at hl 0 rfl) ?_
        exact x_iret (v := x1_7) fm1_6 hQ hx hb hr hlocks hS dX8_safe_34 hv hP hD
      · have hv := hv.2 hc_12
        refine lv_aload_n hx hb dX8_safe_17 rfl (lv_at hl 1 rfl) ?_
        refine lv_sipush (v := 140) hx hb dX8_safe_18 (by decide) ?_
        obtain ⟨gT_13, gNs_14, gNp_15, gX_16, gv_17, gM_18, hv⟩ := hv
        obtain ⟨hp, hv⟩ := hv
        refine x_calli (wr := []) (w' := fun (u : (Nat → Int64)) => [(m0, .inr (8, [.ref m1, .ref m2, .ref m3, .ref m4, .ref m5, .ref m6, .ref m7, .ref m8, .ref m9, .int fu, .int fd, .int fi, .int nu, .int nw, .int nf, .int bf, .int bn, .ref m10, .int ts, .int ap, .int fs, .int ln, .int fo, .int fa, .ref m11, .ref m12, .ref m13, .ref m14, .int wr])), aJ G m1 560 u, aZ G m2 2 ik, aI G m3 20 zs, aI G m4 20 cl, aI G m5 20 hs, aI G m6 20 ks, aI G m7 20 wa, aI G m8 20 ne, aI G m9 4 mn, aI G m10 400 tx, aI G m11 6 th, aI G m12 6 od, aI G m13 30 bk, aI G m14 30 bh]) (x_runV (As := [.int 140]) (rest := []) (n := 1) (C := RX8) (ci := 8) ⟨hx, hb, hml, hown, hts⟩ (k_X8_pass l G m0 m1 m2 m3 m4 m5 m6 m7 m8 m9 m10 m11 m12 m13 m14 _ fm1_6 ik zs cl hs ks wa ne mn tx th od bk bh fu fd fi nu nw nf bf bn ts ap fs ln fo fa wr 140 gT_13 gNs_14 gNp_15 gX_16 gv_17 gM_18 hp) gX8_safe_X8_pass rfl (by decide +kernel) ⟨Nat.le_trans (Nat.le_of_ble_eq_true rfl) hRf, Nat.le_trans (Nat.le_of_ble_eq_true rfl) hRl⟩ hKK hSS hS hA hP hD [0, 1, 2, 3, 4, 5, 6, 7, 8, 9, 10, 11, 12, 13, 14] (by decide) rfl rfl rfl 0 rfl rfl hl.1 rfl (Nat.le_of_ble_eq_true rfl) dX8_safe_21) hP hD hS hA [0, 1, 2, 3, 4, 5, 6, 7, 8, 9, 10, 11, 12, 13, 14] [] [0, 1, 2, 3, 4, 5, 6, 7, 8, 9, 10, 11, 12, 13, 14] rfl rfl (by decide) (by decide) (by decide) (fun _ => rfl) (fun r_19 u H locs hw hP hD hS => ?_)
        obtain ⟨mw2_20, rfl⟩ : ∃ z9_, z9_ = u := ⟨_, rfl⟩
        have hP : va_P G.1 vwCl [(m0, .inr (8, [.ref m1, .ref m2, .ref m3, .ref m4, .ref m5, .ref m6, .ref m7, .ref m8, .ref m9, .int fu, .int fd, .int fi, .int nu, .int nw, .int nf, .int bf, .int bn, .ref m10, .int ts, .int ap, .int fs, .int ln, .int fo, .int fa, .ref m11, .ref m12, .ref m13, .ref m14, .int wr])), aJ G m1 560 mw2_20, aZ G m2 2 ik, aI G m3 20 zs, aI G m4 20 cl, aI G m5 20 hs, aI G m6 20 ks, aI G m7 20 wa, aI G m8 20 ne, aI G m9 4 mn, aI G m10 400 tx, aI G m11 6 th, aI G m12 6 od, aI G m13 30 bk, aI G m14 30 bh] H := hP
        have hD : va_D A [(m0, .inr (8, [.ref m1, .ref m2, .ref m3, .ref m4, .ref m5, .ref m6, .ref m7, .ref m8, .ref m9, .int fu, .int fd, .int fi, .int nu, .int nw, .int nf, .int bf, .int bn, .ref m10, .int ts, .int ap, .int fs, .int ln, .int fo, .int fa, .ref m11, .ref m12, .ref m13, .ref m14, .int wr])), aJ G m1 560 mw2_20, aZ G m2 2 ik, aI G m3 20 zs, aI G m4 20 cl, aI G m5 20 hs, aI G m6 20 ks, aI G m7 20 wa, aI G m8 20 ne, aI G m9 4 mn, aI G m10 400 tx, aI G m11 6 th, aI G m12 6 od, aI G m13 30 bk, aI G m14 30 bh] := hD
        have hv := hv r_19 mw2_20 hw
        refine lv_if_ne (tgt := 33) hx hb dX8_safe_24 (by decide) (fun hc_21 => ?_) (fun hc_21 => ?_)
        · have hv := hv.1 hc_21
          refine lv_iload_n hx hb dX8_safe_33 rfl (lv_at hl 0 rfl) ?_
          exact x_iret (v := x1_7) mw2_20 hQ hx hb hr hlocks hS dX8_safe_34 hv hP hD
        · have hv := hv.2 hc_21
          refine lv_iinc (v := (x1_7 + 1)) (lv' := [(1, .int (x1_7 + 1)), (0, .ref m0)]) hx hb dX8_safe_27 hl (k := 0) rfl rfl (by decide) rfl (fun ls hl => ?_)
          refine lv_goto (tgt := 10) hx hb dX8_safe_30 (by decide) ?_
          exact ih_10 _ _ _ _ _ (Nat.lt_of_lt_of_le hv.2 (Nat.le_of_lt_succ hI_11)) hv.1 hP hD hS hl
  exact Lm_24 _ _ _ _ _ _ (Nat.lt_succ_self _) hi0 hP hD hS hl
theorem v_X8_safe (l : Launch) (G : Gt) (m0 m1 m2 m3 m4 m5 m6 m7 m8 m9 m10 m11 m12 m13 m14 : Nat) (sz : Nat) (mw : Nat → Int64) (ik : Nat → Int32) (zs : Nat → Int32) (cl : Nat → Int32) (hs : Nat → Int32) (ks : Nat → Int32) (wa : Nat → Int32) (ne : Nat → Int32) (mn : Nat → Int32) (tx : Nat → Int32) (th : Nat → Int32) (od : Nat → Int32) (bk : Nat → Int32) (bh : Nat → Int32) (fu : Int32) (fd : Int32) (fi : Int32) (nu : Int32) (nw : Int32) (nf : Int32) (bf : Int32) (bn : Int32) (ts : Int32) (ap : Int32) (fs : Int32) (ln : Int32) (fo : Int32) (fa : Int32) (wr : Int32) (T : Nat → Nat → Int) (Ns : Nat) (Np : Nat) (v : Nat → Int) (M : Int) (hp : TOK T Ns Np ∧ MT T Ns Np fu fd fi zs cl ks ne mn ∧ MR 0 mw v ∧ NOK T Ns Np (fun _ => 2 * M) M v ∧ M ≤ 900000) : ∃ (gX_1 : Nat) (gY_2 : Nat) (gv_3 : Nat → Int), (((0 : Int32) = nI gX_1 ∧ (140 : Int32) = nI gY_2 ∧ gX_1 + 140 ≤ 560 ∧ gY_2 + 140 ≤ 560 ∧ (gX_1 + 140 ≤ gY_2 ∨ gY_2 + 140 ≤ gX_1) ∧ MR gX_1 mw gv_3) ∧ (∀ (mw2_5 : Nat → Int64), (MR gY_2 mw2_5 gv_3 ∧ MF gY_2 mw mw2_5) → (∃ (I10_8 : (Nat → Int64) → Int32 → Prop) (μ10_9 : (Nat → Int64) → Int32 → Nat), I10_8 mw2_5 0 ∧ (∀ (fm1_6 : (Nat → Int64)) (x1_7 : Int32), I10_8 fm1_6 x1_7 → (999 ≤ x1_7 → x1_7 = nI (zSafe T Ns Np v 999) ∧ MF 140 mw fm1_6) ∧ (¬ (999 ≤ x1_7) → ∃ (gT_13 : Nat → Nat → Int) (gNs_14 : Nat) (gNp_15 : Nat) (gX_16 : Nat) (gv_17 : Nat → Int) (gM_18 : Int), ((TOK gT_13 gNs_14 gNp_15 ∧ MT gT_13 gNs_14 gNp_15 fu fd fi zs cl ks ne mn ∧ (140 : Int32) = nI gX_16 ∧ gX_16 + 140 ≤ 560 ∧ MR gX_16 fm1_6 gv_17 ∧ NOK gT_13 gNs_14 gNp_15 (fun _ => 2 * gM_18) gM_18 gv_17 ∧ gM_18 ≤ 1000000) ∧ (∀ (r_19 : Int32) (mw2_20 : Nat → Int64), (r_19 = nI (zCs gT_13 (zPass gT_13 gNs_14 gNp_15 gv_17) gNp_15) ∧ MR gX_16 mw2_20 (zPass gT_13 gNs_14 gNp_15 gv_17) ∧ MF gX_16 fm1_6 mw2_20) → ((¬ r_19 = 0 → x1_7 = nI (zSafe T Ns Np v 999) ∧ MF 140 mw mw2_20) ∧ (r_19 = 0 → I10_8 mw2_20 (x1_7 + 1) ∧ μ10_9 mw2_20 (x1_7 + 1) < μ10_9 fm1_6 x1_7))))))))) := by
  obtain ⟨hT, hC, hR, hO, hM⟩ := hp
  have t2 := hT.2.1
  refine ⟨0, 140, v, ⟨rfl, rfl, by omega, by omega, by omega, hR⟩, fun w0 hw0 => ?_⟩
  refine ⟨fun w z => ∃ i, i ≤ 999 ∧ z = nI i ∧ zSafe T Ns Np v i = i ∧ MR 140 w (zGo T Ns Np v i) ∧ MF 140 mw w, fun _ z => 999 - z.toNatClampNeg, ⟨0, by omega, rfl, rfl, hw0.1, hw0.2⟩, ?_⟩
  rintro w z ⟨i, hi, rfl, hs, hRi, hFi⟩
  have ei : (nI i).toNatClampNeg = i := nI_clamp (by omega)
  have ei1 : nI i + 1 = nI (i + 1) := nI_1 i
  have ej : (nI (i + 1)).toNatClampNeg = i + 1 := nI_clamp (by omega)
  simp only [ei, ei1, ej]
  have h9 : (999 : Int32) ≤ nI i ↔ 999 ≤ i := nI_leI (a := 999) (by omega) (by omega)
  rw [h9]
  refine ⟨fun h => ?_, fun h => ?_⟩
  · have e : i = 999 := by omega
    subst e
    exact ⟨by rw [hs], hFi⟩
  · have hcl := zCs_lt T (zGo T Ns Np v (i + 1)) Np
    have hcl2 : zCs T (zGo T Ns Np v (i + 1)) Np < 2 ^ 31 := Nat.lt_trans hcl (Nat.pow_lt_pow_right (by omega) (by omega))
    refine ⟨T, Ns, Np, 140, _, M + i, ⟨hT, hC, rfl, by omega, hRi, zGo_ok hT hO i, by omega⟩, fun r w2 hw => ⟨fun q => ⟨?_, hFi.tr hw.2.2⟩, fun q => ⟨⟨i + 1, by omega, rfl, ?_, hw.2.1, hFi.tr hw.2.2⟩, by omega⟩⟩⟩
    · rw [zSafe_stop hs (fun z => q (by rw [hw.1]; show nI (zCs T (zGo T Ns Np v (i + 1)) Np) = 0; rw [z]; rfl)) 999 (by omega)]
    · have z : nI (zCs T (zGo T Ns Np v (i + 1)) Np) = nI 0 := hw.1.symm.trans q
      rw [zSafe, if_pos ⟨hs, (nI_eq hcl2 (by omega)).mp z⟩]
theorem k_X8_safe (l : Launch) (G : Gt) (m0 m1 m2 m3 m4 m5 m6 m7 m8 m9 m10 m11 m12 m13 m14 : Nat) (sz : Nat) (mw : Nat → Int64) (ik : Nat → Int32) (zs : Nat → Int32) (cl : Nat → Int32) (hs : Nat → Int32) (ks : Nat → Int32) (wa : Nat → Int32) (ne : Nat → Int32) (mn : Nat → Int32) (tx : Nat → Int32) (th : Nat → Int32) (od : Nat → Int32) (bk : Nat → Int32) (bh : Nat → Int32) (fu : Int32) (fd : Int32) (fi : Int32) (nu : Int32) (nw : Int32) (nf : Int32) (bf : Int32) (bn : Int32) (ts : Int32) (ap : Int32) (fs : Int32) (ln : Int32) (fo : Int32) (fa : Int32) (wr : Int32) (T : Nat → Nat → Int) (Ns : Nat) (Np : Nat) (v : Nat → Int) (M : Int) (hp : TOK T Ns Np ∧ MT T Ns Np fu fd fi zs cl ks ne mn ∧ MR 0 mw v ∧ NOK T Ns Np (fun _ => 2 * M) M v ∧ M ≤ 900000) : MetI l yX8_safe wsX8_safe 4 101 G [.ref m0] [(m0, .inr (8, [.ref m1, .ref m2, .ref m3, .ref m4, .ref m5, .ref m6, .ref m7, .ref m8, .ref m9, .int fu, .int fd, .int fi, .int nu, .int nw, .int nf, .int bf, .int bn, .ref m10, .int ts, .int ap, .int fs, .int ln, .int fo, .int fa, .ref m11, .ref m12, .ref m13, .ref m14, .int wr])), aJ G m1 560 mw, aZ G m2 2 ik, aI G m3 20 zs, aI G m4 20 cl, aI G m5 20 hs, aI G m6 20 ks, aI G m7 20 wa, aI G m8 20 ne, aI G m9 4 mn, aI G m10 400 tx, aI G m11 6 th, aI G m12 6 od, aI G m13 30 bk, aI G m14 30 bh] sz (fun (r : Int32) (u : (Nat → Int64)) => r = nI (zSafe T Ns Np v 999) ∧ MF 140 mw u) (fun (u : (Nat → Int64)) => [(m0, .inr (8, [.ref m1, .ref m2, .ref m3, .ref m4, .ref m5, .ref m6, .ref m7, .ref m8, .ref m9, .int fu, .int fd, .int fi, .int nu, .int nw, .int nf, .int bf, .int bn, .ref m10, .int ts, .int ap, .int fs, .int ln, .int fo, .int fa, .ref m11, .ref m12, .ref m13, .ref m14, .int wr])), aJ G m1 560 u, aZ G m2 2 ik, aI G m3 20 zs, aI G m4 20 cl, aI G m5 20 hs, aI G m6 20 ks, aI G m7 20 wa, aI G m8 20 ne, aI G m9 4 mn, aI G m10 400 tx, aI G m11 6 th, aI G m12 6 od, aI G m13 30 bk, aI G m14 30 bh]) :=
  c_X8_safe l G m0 m1 m2 m3 m4 m5 m6 m7 m8 m9 m10 m11 m12 m13 m14 sz mw ik zs cl hs ks wa ne mn tx th od bk bh fu fd fi nu nw nf bf bn ts ap fs ln fo fa wr T Ns Np v M (v_X8_safe l G m0 m1 m2 m3 m4 m5 m6 m7 m8 m9 m10 m11 m12 m13 m14 sz mw ik zs cl hs ks wa ne mn tx th od bk bh fu fd fi nu nw nf bf bn ts ap fs ln fo fa wr T Ns Np v M hp)

set_option maxHeartbeats 4000000 in
set_option maxRecDepth 100000 in
theorem c_X8_judge (l : Launch) (G : Gt) (m0 m1 m2 m3 m4 m5 m6 m7 m8 m9 m10 m11 m12 m13 m14 : Nat) (sz : Nat) (mw : Nat → Int64) (ik : Nat → Int32) (zs : Nat → Int32) (cl : Nat → Int32) (hs : Nat → Int32) (ks : Nat → Int32) (wa : Nat → Int32) (ne : Nat → Int32) (mn : Nat → Int32) (tx : Nat → Int32) (th : Nat → Int32) (od : Nat → Int32) (bk : Nat → Int32) (bh : Nat → Int32) (fu : Int32) (fd : Int32) (fi : Int32) (nu : Int32) (nw : Int32) (nf : Int32) (bf : Int32) (bn : Int32) (ts : Int32) (ap : Int32) (fs : Int32) (ln : Int32) (fo : Int32) (fa : Int32) (wr : Int32) (T : Nat → Nat → Int) (Ns : Nat) (Np : Nat) (v : Nat → Int) (M : Int) (en : Nat) (hv : ∃ (gX_1 : Nat) (gY_2 : Nat) (gv_3 : Nat → Int), (((0 : Int32) = nI gX_1 ∧ (140 : Int32) = nI gY_2 ∧ gX_1 + 140 ≤ 560 ∧ gY_2 + 140 ≤ 560 ∧ (gX_1 + 140 ≤ gY_2 ∨ gY_2 + 140 ≤ gX_1) ∧ MR gX_1 mw gv_3) ∧ (∀ (mw2_5 : Nat → Int64), (MR gY_2 mw2_5 gv_3 ∧ MF gY_2 mw mw2_5) → (∃ (I10_8 : (Nat → Int64) → Int32 → Prop) (μ10_9 : (Nat → Int64) → Int32 → Nat), I10_8 mw2_5 0 ∧ (∀ (fm1_6 : (Nat → Int64)) (x1_7 : Int32), I10_8 fm1_6 x1_7 → (wr ≤ x1_7 → ((-1) : Int32).toInt = aJudge T Ns Np v bk bh en ∧ MF 140 mw fm1_6) ∧ (¬ (wr ≤ x1_7) → (vp_in x1_7 30) ∧ ((vp_in (140 + (bk x1_7.toNatClampNeg)) 560) ∧ ((vp_in x1_7 30) ∧ (((fm1_6 (140 + (bk x1_7.toNatClampNeg)).toNatClampNeg) = (bh x1_7.toNatClampNeg).toInt64 → ∃ (gT_14 : Nat → Nat → Int) (gNs_15 : Nat) (gNp_16 : Nat) (gX_17 : Nat) (gv_18 : Nat → Int) (gM_19 : Int), ((TOK gT_14 gNs_15 gNp_16 ∧ MT gT_14 gNs_15 gNp_16 fu fd fi zs cl ks ne mn ∧ (140 : Int32) = nI gX_17 ∧ gX_17 + 140 ≤ 560 ∧ MR gX_17 fm1_6 gv_18 ∧ NOK gT_14 gNs_15 gNp_16 (fun _ => 2 * gM_19) gM_19 gv_18 ∧ gM_19 ≤ 1000000) ∧ (∀ (r_20 : Int32) (mw2_21 : Nat → Int64), (r_20 = nI (zCs gT_14 (zPass gT_14 gNs_15 gNp_16 gv_18) gNp_16) ∧ MR gX_17 mw2_21 (zPass gT_14 gNs_15 gNp_16 gv_18) ∧ MF gX_17 fm1_6 mw2_21) → (I10_8 mw2_21 (x1_7 + 1) ∧ μ10_9 mw2_21 (x1_7 + 1) < μ10_9 fm1_6 x1_7)))) ∧ (¬ ((fm1_6 (140 + (bk x1_7.toNatClampNeg)).toNatClampNeg) = (bh x1_7.toNatClampNeg).toInt64) → x1_7.toInt = aJudge T Ns Np v bk bh en ∧ MF 140 mw fm1_6)))))))))) : MetI l yX8_judge wsX8_judge 4 101 G [.ref m0] [(m0, .inr (8, [.ref m1, .ref m2, .ref m3, .ref m4, .ref m5, .ref m6, .ref m7, .ref m8, .ref m9, .int fu, .int fd, .int fi, .int nu, .int nw, .int nf, .int bf, .int bn, .ref m10, .int ts, .int ap, .int fs, .int ln, .int fo, .int fa, .ref m11, .ref m12, .ref m13, .ref m14, .int wr])), aJ G m1 560 mw, aZ G m2 2 ik, aI G m3 20 zs, aI G m4 20 cl, aI G m5 20 hs, aI G m6 20 ks, aI G m7 20 wa, aI G m8 20 ne, aI G m9 4 mn, aI G m10 400 tx, aI G m11 6 th, aI G m12 6 od, aI G m13 30 bk, aI G m14 30 bh] sz (fun (r : Int32) (u : (Nat → Int64)) => r.toInt = aJudge T Ns Np v bk bh en ∧ MF 140 mw u) (fun (u : (Nat → Int64)) => [(m0, .inr (8, [.ref m1, .ref m2, .ref m3, .ref m4, .ref m5, .ref m6, .ref m7, .ref m8, .ref m9, .int fu, .int fd, .int fi, .int nu, .int nw, .int nf, .int bf, .int bn, .ref m10, .int ts, .int ap, .int fs, .int ln, .int fo, .int fa, .ref m11, .ref m12, .ref m13, .ref m14, .int wr])), aJ G m1 560 u, aZ G m2 2 ik, aI G m3 20 zs, aI G m4 20 cl, aI G m5 20 hs, aI G m6 20 ks, aI G m7 20 wa, aI G m8 20 ne, aI G m9 4 mn, aI G m10 400 tx, aI G m11 6 th, aI G m12 6 od, aI G m13 30 bk, aI G m14 30 bh]) := by
  refine x_startI (cc := cX8_judge) (maxL := 3) (ret := (some .int)) (by decide) rfl (Nat.le_of_ble_eq_true rfl) ?_
  intro p e s m args below meth c A R Q ls hRf hRl hQ C hP hD hS hA hSS hl
  obtain ⟨hx, hb, hr, hml, hown, hts, hlocks, hKK⟩ := C
  have hown : s.vm.findClass RX8 = some m.cls := hown
  have hl : lv_has ls 3 [(0, .ref m0)] := hl
  have hinX8 : ∀ w ∈ u_ws RX8 TX8 29, w ∈ wsX8_judge := by decide +kernel
  have kl149 := hts (.fieldLink RX8 149 "WarmStonesModel" "written" "I") (by decide +kernel)
  have kl58 := hts (.fieldLink RX8 58 "WarmStonesModel" "bookStone" "[I") (by decide +kernel)
  have kl61 := hts (.fieldLink RX8 61 "WarmStonesModel" "bookHeat" "[I") (by decide +kernel)
  have kl7 := hts (.fieldLink RX8 7 "WarmStonesModel" "w" "[J") (by decide +kernel)
  refine lv_aload_n hx hb dX8_judge_0 rfl (lv_at hl 0 rfl) ?_
  refine lv_iconst (v := 0) hx hb dX8_judge_1 (by decide) ?_
  refine lv_sipush (v := 140) hx hb dX8_judge_2 (by decide) ?_
  obtain ⟨gX_1, gY_2, gv_3, hv⟩ := hv
  obtain ⟨hp, hv⟩ := hv
  refine x_callv (wr := []) (w' := fun (u : (Nat → Int64)) => [(m0, .inr (8, [.ref m1, .ref m2, .ref m3, .ref m4, .ref m5, .ref m6, .ref m7, .ref m8, .ref m9, .int fu, .int fd, .int fi, .int nu, .int nw, .int nf, .int bf, .int bn, .ref m10, .int ts, .int ap, .int fs, .int ln, .int fo, .int fa, .ref m11, .ref m12, .ref m13, .ref m14, .int wr])), aJ G m1 560 u, aZ G m2 2 ik, aI G m3 20 zs, aI G m4 20 cl, aI G m5 20 hs, aI G m6 20 ks, aI G m7 20 wa, aI G m8 20 ne, aI G m9 4 mn, aI G m10 400 tx, aI G m11 6 th, aI G m12 6 od, aI G m13 30 bk, aI G m14 30 bh]) (x_runV (As := [.int 0, .int 140]) (rest := []) (n := 2) (C := RX8) (ci := 8) ⟨hx, hb, hml, hown, hts⟩ (k_X8_copy l G m0 m1 m2 m3 m4 m5 m6 m7 m8 m9 m10 m11 m12 m13 m14 _ mw ik zs cl hs ks wa ne mn tx th od bk bh fu fd fi nu nw nf bf bn ts ap fs ln fo fa wr 0 140 gX_1 gY_2 gv_3 hp) gX8_judge_X8_copy rfl (by decide +kernel) ⟨Nat.le_trans (Nat.le_of_ble_eq_true rfl) hRf, Nat.le_trans (Nat.le_of_ble_eq_true rfl) hRl⟩ hKK hSS hS hA hP hD [0, 1, 2, 3, 4, 5, 6, 7, 8, 9, 10, 11, 12, 13, 14] (by decide) rfl rfl rfl 0 rfl rfl hl.1 rfl (Nat.le_of_ble_eq_true rfl) dX8_judge_5) hP hD hS hA [0, 1, 2, 3, 4, 5, 6, 7, 8, 9, 10, 11, 12, 13, 14] [] [0, 1, 2, 3, 4, 5, 6, 7, 8, 9, 10, 11, 12, 13, 14] rfl rfl (by decide) (by decide) (by decide) (fun _ => rfl) (fun  u H locs hw hP hD hS => ?_)
  obtain ⟨mw2_5, rfl⟩ : ∃ z9_, z9_ = u := ⟨_, rfl⟩
  have hP : va_P G.1 vwCl [(m0, .inr (8, [.ref m1, .ref m2, .ref m3, .ref m4, .ref m5, .ref m6, .ref m7, .ref m8, .ref m9, .int fu, .int fd, .int fi, .int nu, .int nw, .int nf, .int bf, .int bn, .ref m10, .int ts, .int ap, .int fs, .int ln, .int fo, .int fa, .ref m11, .ref m12, .ref m13, .ref m14, .int wr])), aJ G m1 560 mw2_5, aZ G m2 2 ik, aI G m3 20 zs, aI G m4 20 cl, aI G m5 20 hs, aI G m6 20 ks, aI G m7 20 wa, aI G m8 20 ne, aI G m9 4 mn, aI G m10 400 tx, aI G m11 6 th, aI G m12 6 od, aI G m13 30 bk, aI G m14 30 bh] H := hP
  have hD : va_D A [(m0, .inr (8, [.ref m1, .ref m2, .ref m3, .ref m4, .ref m5, .ref m6, .ref m7, .ref m8, .ref m9, .int fu, .int fd, .int fi, .int nu, .int nw, .int nf, .int bf, .int bn, .ref m10, .int ts, .int ap, .int fs, .int ln, .int fo, .int fa, .ref m11, .ref m12, .ref m13, .ref m14, .int wr])), aJ G m1 560 mw2_5, aZ G m2 2 ik, aI G m3 20 zs, aI G m4 20 cl, aI G m5 20 hs, aI G m6 20 ks, aI G m7 20 wa, aI G m8 20 ne, aI G m9 4 mn, aI G m10 400 tx, aI G m11 6 th, aI G m12 6 od, aI G m13 30 bk, aI G m14 30 bh] := hD
  have hv := hv mw2_5 hw
  refine lv_iconst (v := 0) hx hb dX8_judge_8 (by decide) ?_
  refine lv_istore_n (lv' := [(1, .int 0), (0, .ref m0)]) hx hb dX8_judge_9 rfl hl (by decide) rfl (fun ls hl => ?_)
  obtain ⟨I10_8, μ10_9, hi0, hs_22⟩ := hv
  have Lm_24 : ∀ (n_23 : Nat) (fm1_6 : (Nat → Int64)) (x1_7 : Int32) (H : Heap) (locs : List Loc) (ls : Array Slot), μ10_9 fm1_6 x1_7 < n_23 → I10_8 fm1_6 x1_7 → va_P G.1 vwCl [(m0, .inr (8, [.ref m1, .ref m2, .ref m3, .ref m4, .ref m5, .ref m6, .ref m7, .ref m8, .ref m9, .int fu, .int fd, .int fi, .int nu, .int nw, .int nf, .int bf, .int bn, .ref m10, .int ts, .int ap, .int fs, .int ln, .int fo, .int fa, .ref m11, .ref m12, .ref m13, .ref m14, .int wr])), aJ G m1 560 fm1_6, aZ G m2 2 ik, aI G m3 20 zs, aI G m4 20 cl, aI G m5 20 hs, aI G m6 20 ks, aI G m7 20 wa, aI G m8 20 ne, aI G m9 4 mn, aI G m10 400 tx, aI G m11 6 th, aI G m12 6 od, aI G m13 30 bk, aI G m14 30 bh] H → va_D A [(m0, .inr (8, [.ref m1, .ref m2, .ref m3, .ref m4, .ref m5, .ref m6, .ref m7, .ref m8, .ref m9, .int fu, .int fd, .int fi, .int nu, .int nw, .int nf, .int bf, .int bn, .ref m10, .int ts, .int ap, .int fs, .int ln, .int fo, .int fa, .ref m11, .ref m12, .ref m13, .ref m14, .int wr])), aJ G m1 560 fm1_6, aZ G m2 2 ik, aI G m3 20 zs, aI G m4 20 cl, aI G m5 20 hs, aI G m6 20 ks, aI G m7 20 wa, aI G m8 20 ne, aI G m9 4 mn, aI G m10 400 tx, aI G m11 6 th, aI G m12 6 od, aI G m13 30 bk, aI G m14 30 bh] → va_S A s.heap H locs → lv_has ls 3 [(1, .int x1_7), (0, .ref m0)] → W p l e R s m args below meth c H locs 0 0 Q (F0 m 10 ls []) := by
    intro n_23
    induction n_23 with
    | zero => intro fm1_6 x1_7 H locs ls hm; exact absurd hm (Nat.not_lt_zero _)
    | succ n_23 ih_10 =>
      intro fm1_6 x1_7 H locs ls hI_11 hi hP hD hS hl
      have hv := hs_22 fm1_6 x1_7 hi
      refine lv_iload_n hx hb dX8_judge_10 rfl (lv_at hl 0 rfl) ?_
      refine lv_aload_n hx hb dX8_judge_11 rfl (lv_at hl 1 rfl) ?_
      refine va_get (D := G.1) (ci := 8) (v := .int wr) (C := RX8) (T := TX8) (N := 29) hx hb hts hinX8 hown hKK.1 hP 0 rfl rfl 28 (by decide) kl149 (fun _ h9 => h9) rfl dX8_judge_12 ?_
      refine lv_icmp_ge (tgt := 60) hx hb dX8_judge_15 (by decide) (fun hc_12 => ?_) (fun hc_12 => ?_)
      · have hv := hv.1 hc_12
        refine lv_iconst (v := (-1)) hx hb dX8_judge_60 (by decide) ?_
        exact x_iret (v := (-1)) fm1_6 hQ hx hb hr hlocks hS dX8_judge_61 hv hP hD
      · have hv := hv.2 hc_12
        refine lv_aload_n hx hb dX8_judge_18 rfl (lv_at hl 1 rfl) ?_
        refine va_get (D := G.1) (ci := 8) (v := .ref m1) (C := RX8) (T := TX8) (N := 29) hx hb hts hinX8 hown hKK.1 hP 0 rfl rfl 0 (by decide) kl7 (fun _ h9 => h9) rfl dX8_judge_19 ?_
        refine lv_sipush (v := 140) hx hb dX8_judge_22 (by decide) ?_
        refine lv_aload_n hx hb dX8_judge_25 rfl (lv_at hl 1 rfl) ?_
        refine va_get (D := G.1) (ci := 8) (v := .ref m13) (C := RX8) (T := TX8) (N := 29) hx hb hts hinX8 hown hKK.1 hP 0 rfl rfl 26 (by decide) kl58 (fun _ h9 => h9) rfl dX8_judge_26 ?_
        refine lv_iload_n hx hb dX8_judge_29 rfl (lv_at hl 0 rfl) ?_
        obtain ⟨hin, hv⟩ := hv
        refine va_iald hx hb hKK.1 hP 13 0 rfl rfl hin dX8_judge_30 ?_
        refine lv_iadd hx hb dX8_judge_31 ?_
        obtain ⟨hin, hv⟩ := hv
        refine va_lald hx hb hKK.1 hP 1 2 rfl rfl hin dX8_judge_32 ?_
        refine lv_aload_n hx hb dX8_judge_33 rfl (lv_at hl 1 rfl) ?_
        refine va_get (D := G.1) (ci := 8) (v := .ref m14) (C := RX8) (T := TX8) (N := 29) hx hb hts hinX8 hown hKK.1 hP 0 rfl rfl 27 (by decide) kl61 (fun _ h9 => h9) rfl dX8_judge_34 ?_
        refine lv_iload_n hx hb dX8_judge_37 rfl (lv_at hl 0 rfl) ?_
        obtain ⟨hin, hv⟩ := hv
        refine va_iald hx hb hKK.1 hP 14 0 rfl rfl hin dX8_judge_38 ?_
        refine lv_i2l hx hb dX8_judge_39 rfl ?_
        refine W.lcmp hx hb dX8_judge_40 ?_
        refine lv_if_eq (tgt := 46) hx hb dX8_judge_41 (by decide) (fun hc_13 => ?_) (fun hc_13 => ?_)
        · have hv := hv.1 ((lg_cmp_eq _ _).mp hc_13)
          refine lv_aload_n hx hb dX8_judge_46 rfl (lv_at hl 1 rfl) ?_
          refine lv_sipush (v := 140) hx hb dX8_judge_47 (by decide) ?_
          obtain ⟨gT_14, gNs_15, gNp_16, gX_17, gv_18, gM_19, hv⟩ := hv
          obtain ⟨hp, hv⟩ := hv
          refine x_calli (wr := []) (w' := fun (u : (Nat → Int64)) => [(m0, .inr (8, [.ref m1, .ref m2, .ref m3, .ref m4, .ref m5, .ref m6, .ref m7, .ref m8, .ref m9, .int fu, .int fd, .int fi, .int nu, .int nw, .int nf, .int bf, .int bn, .ref m10, .int ts, .int ap, .int fs, .int ln, .int fo, .int fa, .ref m11, .ref m12, .ref m13, .ref m14, .int wr])), aJ G m1 560 u, aZ G m2 2 ik, aI G m3 20 zs, aI G m4 20 cl, aI G m5 20 hs, aI G m6 20 ks, aI G m7 20 wa, aI G m8 20 ne, aI G m9 4 mn, aI G m10 400 tx, aI G m11 6 th, aI G m12 6 od, aI G m13 30 bk, aI G m14 30 bh]) (x_runV (As := [.int 140]) (rest := []) (n := 1) (C := RX8) (ci := 8) ⟨hx, hb, hml, hown, hts⟩ (k_X8_pass l G m0 m1 m2 m3 m4 m5 m6 m7 m8 m9 m10 m11 m12 m13 m14 _ fm1_6 ik zs cl hs ks wa ne mn tx th od bk bh fu fd fi nu nw nf bf bn ts ap fs ln fo fa wr 140 gT_14 gNs_15 gNp_16 gX_17 gv_18 gM_19 hp) gX8_judge_X8_pass rfl (by decide +kernel) ⟨Nat.le_trans (Nat.le_of_ble_eq_true rfl) hRf, Nat.le_trans (Nat.le_of_ble_eq_true rfl) hRl⟩ hKK hSS hS hA hP hD [0, 1, 2, 3, 4, 5, 6, 7, 8, 9, 10, 11, 12, 13, 14] (by decide) rfl rfl rfl 0 rfl rfl hl.1 rfl (Nat.le_of_ble_eq_true rfl) dX8_judge_50) hP hD hS hA [0, 1, 2, 3, 4, 5, 6, 7, 8, 9, 10, 11, 12, 13, 14] [] [0, 1, 2, 3, 4, 5, 6, 7, 8, 9, 10, 11, 12, 13, 14] rfl rfl (by decide) (by decide) (by decide) (fun _ => rfl) (fun r_20 u H locs hw hP hD hS => ?_)
          obtain ⟨mw2_21, rfl⟩ : ∃ z9_, z9_ = u := ⟨_, rfl⟩
          have hP : va_P G.1 vwCl [(m0, .inr (8, [.ref m1, .ref m2, .ref m3, .ref m4, .ref m5, .ref m6, .ref m7, .ref m8, .ref m9, .int fu, .int fd, .int fi, .int nu, .int nw, .int nf, .int bf, .int bn, .ref m10, .int ts, .int ap, .int fs, .int ln, .int fo, .int fa, .ref m11, .ref m12, .ref m13, .ref m14, .int wr])), aJ G m1 560 mw2_21, aZ G m2 2 ik, aI G m3 20 zs, aI G m4 20 cl, aI G m5 20 hs, aI G m6 20 ks, aI G m7 20 wa, aI G m8 20 ne, aI G m9 4 mn, aI G m10 400 tx, aI G m11 6 th, aI G m12 6 od, aI G m13 30 bk, aI G m14 30 bh] H := hP
          have hD : va_D A [(m0, .inr (8, [.ref m1, .ref m2, .ref m3, .ref m4, .ref m5, .ref m6, .ref m7, .ref m8, .ref m9, .int fu, .int fd, .int fi, .int nu, .int nw, .int nf, .int bf, .int bn, .ref m10, .int ts, .int ap, .int fs, .int ln, .int fo, .int fa, .ref m11, .ref m12, .ref m13, .ref m14, .int wr])), aJ G m1 560 mw2_21, aZ G m2 2 ik, aI G m3 20 zs, aI G m4 20 cl, aI G m5 20 hs, aI G m6 20 ks, aI G m7 20 wa, aI G m8 20 ne, aI G m9 4 mn, aI G m10 400 tx, aI G m11 6 th, aI G m12 6 od, aI G m13 30 bk, aI G m14 30 bh] := hD
          have hv := hv r_20 mw2_21 hw
          refine lv_istore_n (lv' := [(2, .int r_20), (1, .int x1_7), (0, .ref m0)]) hx hb dX8_judge_53 rfl hl (by decide) rfl (fun ls hl => ?_)
          refine lv_iinc (v := (x1_7 + 1)) (lv' := [(1, .int (x1_7 + 1)), (2, .int r_20), (0, .ref m0)]) hx hb dX8_judge_54 hl (k := 1) rfl rfl (by decide) rfl (fun ls hl => ?_)
          refine lv_goto (tgt := 10) hx hb dX8_judge_57 (by decide) ?_
          exact ih_10 _ _ _ _ _ (Nat.lt_of_lt_of_le hv.2 (Nat.le_of_lt_succ hI_11)) hv.1 hP hD hS (lv_sub hl [0, 2] rfl)
        · have hv := hv.2 (fun h => hc_13 ((lg_cmp_eq _ _).mpr h))
          refine lv_iload_n hx hb dX8_judge_44 rfl (lv_at hl 0 rfl) ?_
          exact x_iret (v := x1_7) fm1_6 hQ hx hb hr hlocks hS dX8_judge_45 hv hP hD
  exact Lm_24 _ _ _ _ _ _ (Nat.lt_succ_self _) hi0 hP hD hS hl
theorem v_X8_judge (l : Launch) (G : Gt) (m0 m1 m2 m3 m4 m5 m6 m7 m8 m9 m10 m11 m12 m13 m14 : Nat) (sz : Nat) (mw : Nat → Int64) (ik : Nat → Int32) (zs : Nat → Int32) (cl : Nat → Int32) (hs : Nat → Int32) (ks : Nat → Int32) (wa : Nat → Int32) (ne : Nat → Int32) (mn : Nat → Int32) (tx : Nat → Int32) (th : Nat → Int32) (od : Nat → Int32) (bk : Nat → Int32) (bh : Nat → Int32) (fu : Int32) (fd : Int32) (fi : Int32) (nu : Int32) (nw : Int32) (nf : Int32) (bf : Int32) (bn : Int32) (ts : Int32) (ap : Int32) (fs : Int32) (ln : Int32) (fo : Int32) (fa : Int32) (wr : Int32) (T : Nat → Nat → Int) (Ns : Nat) (Np : Nat) (v : Nat → Int) (M : Int) (en : Nat) (hp : TOK T Ns Np ∧ MT T Ns Np fu fd fi zs cl ks ne mn ∧ MR 0 mw v ∧ NOK T Ns Np (fun _ => 2 * M) M v ∧ M ≤ 900000 ∧ wr = nI en ∧ en ≤ 30 ∧ (∀ j, j < en → 0 ≤ (bk j).toInt ∧ (bk j).toInt < Ns)) : ∃ (gX_1 : Nat) (gY_2 : Nat) (gv_3 : Nat → Int), (((0 : Int32) = nI gX_1 ∧ (140 : Int32) = nI gY_2 ∧ gX_1 + 140 ≤ 560 ∧ gY_2 + 140 ≤ 560 ∧ (gX_1 + 140 ≤ gY_2 ∨ gY_2 + 140 ≤ gX_1) ∧ MR gX_1 mw gv_3) ∧ (∀ (mw2_5 : Nat → Int64), (MR gY_2 mw2_5 gv_3 ∧ MF gY_2 mw mw2_5) → (∃ (I10_8 : (Nat → Int64) → Int32 → Prop) (μ10_9 : (Nat → Int64) → Int32 → Nat), I10_8 mw2_5 0 ∧ (∀ (fm1_6 : (Nat → Int64)) (x1_7 : Int32), I10_8 fm1_6 x1_7 → (wr ≤ x1_7 → ((-1) : Int32).toInt = aJudge T Ns Np v bk bh en ∧ MF 140 mw fm1_6) ∧ (¬ (wr ≤ x1_7) → (vp_in x1_7 30) ∧ ((vp_in (140 + (bk x1_7.toNatClampNeg)) 560) ∧ ((vp_in x1_7 30) ∧ (((fm1_6 (140 + (bk x1_7.toNatClampNeg)).toNatClampNeg) = (bh x1_7.toNatClampNeg).toInt64 → ∃ (gT_14 : Nat → Nat → Int) (gNs_15 : Nat) (gNp_16 : Nat) (gX_17 : Nat) (gv_18 : Nat → Int) (gM_19 : Int), ((TOK gT_14 gNs_15 gNp_16 ∧ MT gT_14 gNs_15 gNp_16 fu fd fi zs cl ks ne mn ∧ (140 : Int32) = nI gX_17 ∧ gX_17 + 140 ≤ 560 ∧ MR gX_17 fm1_6 gv_18 ∧ NOK gT_14 gNs_15 gNp_16 (fun _ => 2 * gM_19) gM_19 gv_18 ∧ gM_19 ≤ 1000000) ∧ (∀ (r_20 : Int32) (mw2_21 : Nat → Int64), (r_20 = nI (zCs gT_14 (zPass gT_14 gNs_15 gNp_16 gv_18) gNp_16) ∧ MR gX_17 mw2_21 (zPass gT_14 gNs_15 gNp_16 gv_18) ∧ MF gX_17 fm1_6 mw2_21) → (I10_8 mw2_21 (x1_7 + 1) ∧ μ10_9 mw2_21 (x1_7 + 1) < μ10_9 fm1_6 x1_7)))) ∧ (¬ ((fm1_6 (140 + (bk x1_7.toNatClampNeg)).toNatClampNeg) = (bh x1_7.toNatClampNeg).toInt64) → x1_7.toInt = aJudge T Ns Np v bk bh en ∧ MF 140 mw fm1_6))))))))) := by
  obtain ⟨hT, hC, hR, hO, hM, rfl, hen, hbk⟩ := hp
  have t1 := hT.1
  have t2 := hT.2.1
  refine ⟨0, 140, v, ⟨rfl, rfl, by omega, by omega, by omega, hR⟩, fun w0 hw0 => ?_⟩
  refine ⟨fun w z => ∃ i, i ≤ en ∧ z = nI i ∧ zJudge T Ns Np v bk bh i = i ∧ MR 140 w (zGo T Ns Np v i) ∧ MF 140 mw w, fun _ z => 30 - z.toNatClampNeg, ⟨0, by omega, rfl, rfl, hw0.1, hw0.2⟩, ?_⟩
  rintro w z ⟨i, hi, rfl, hs, hRi, hFi⟩
  have ei : (nI i).toNatClampNeg = i := nI_clamp (by omega)
  have ei1 : nI i + 1 = nI (i + 1) := nI_1 i
  have ej : (nI (i + 1)).toNatClampNeg = i + 1 := nI_clamp (by omega)
  simp only [ei, ei1, ej]
  refine ⟨fun h => ?_, fun h => ?_⟩
  · have e : en = i := by have := (nI_leI (a := en) (b := i) (by omega) (by omega)).mp h; omega
    subst e
    exact ⟨by rw [aJudge, if_pos hs]; rfl, hFi⟩
  · have hlt : i < en := by
      rcases Nat.lt_or_ge i en with q | q
      · exact q
      · exact absurd ((nI_leI (by omega) (by omega)).mpr q) h
    obtain ⟨c, hc, hbc, hbi, hbt⟩ := in_nat (hbk i hlt) (by omega)
    have e140 : 140 + bk i = nI (140 + c) := by rw [hbc]; exact ix1 140 c
    have c140 : (nI (140 + c)).toNatClampNeg = 140 + c := nI_clamp (by omega)
    simp only [e140, c140]
    have v30 : vp_in (nI i) 30 := vp_in_nI (by omega) (by omega)
    have er := hRi c (by omega)
    have heq : w (140 + c) = (bh i).toInt64 ↔ zGo T Ns Np v i c = (bh i).toInt := l_eq er (i_l rfl)
    rw [heq]
    refine ⟨v30, vp_in_nI (by omega) (by omega), v30, fun q => ⟨T, Ns, Np, 140, _, M + i, ⟨hT, hC, rfl, by omega, hRi, zGo_ok hT hO i, by omega⟩, fun r w2 hw => ⟨⟨i + 1, by omega, rfl, ?_, hw.2.1, hFi.tr hw.2.2⟩, by omega⟩⟩, fun q => ⟨?_, hFi⟩⟩
    · rw [zJudge, if_pos ⟨hs, by rw [hbt]; exact q⟩]
    · have e := zJudge_stop hs (by rw [hbt]; exact q) en hlt
      rw [aJudge, if_neg (by omega), e, nI_toInt (by omega)]
theorem k_X8_judge (l : Launch) (G : Gt) (m0 m1 m2 m3 m4 m5 m6 m7 m8 m9 m10 m11 m12 m13 m14 : Nat) (sz : Nat) (mw : Nat → Int64) (ik : Nat → Int32) (zs : Nat → Int32) (cl : Nat → Int32) (hs : Nat → Int32) (ks : Nat → Int32) (wa : Nat → Int32) (ne : Nat → Int32) (mn : Nat → Int32) (tx : Nat → Int32) (th : Nat → Int32) (od : Nat → Int32) (bk : Nat → Int32) (bh : Nat → Int32) (fu : Int32) (fd : Int32) (fi : Int32) (nu : Int32) (nw : Int32) (nf : Int32) (bf : Int32) (bn : Int32) (ts : Int32) (ap : Int32) (fs : Int32) (ln : Int32) (fo : Int32) (fa : Int32) (wr : Int32) (T : Nat → Nat → Int) (Ns : Nat) (Np : Nat) (v : Nat → Int) (M : Int) (en : Nat) (hp : TOK T Ns Np ∧ MT T Ns Np fu fd fi zs cl ks ne mn ∧ MR 0 mw v ∧ NOK T Ns Np (fun _ => 2 * M) M v ∧ M ≤ 900000 ∧ wr = nI en ∧ en ≤ 30 ∧ (∀ j, j < en → 0 ≤ (bk j).toInt ∧ (bk j).toInt < Ns)) : MetI l yX8_judge wsX8_judge 4 101 G [.ref m0] [(m0, .inr (8, [.ref m1, .ref m2, .ref m3, .ref m4, .ref m5, .ref m6, .ref m7, .ref m8, .ref m9, .int fu, .int fd, .int fi, .int nu, .int nw, .int nf, .int bf, .int bn, .ref m10, .int ts, .int ap, .int fs, .int ln, .int fo, .int fa, .ref m11, .ref m12, .ref m13, .ref m14, .int wr])), aJ G m1 560 mw, aZ G m2 2 ik, aI G m3 20 zs, aI G m4 20 cl, aI G m5 20 hs, aI G m6 20 ks, aI G m7 20 wa, aI G m8 20 ne, aI G m9 4 mn, aI G m10 400 tx, aI G m11 6 th, aI G m12 6 od, aI G m13 30 bk, aI G m14 30 bh] sz (fun (r : Int32) (u : (Nat → Int64)) => r.toInt = aJudge T Ns Np v bk bh en ∧ MF 140 mw u) (fun (u : (Nat → Int64)) => [(m0, .inr (8, [.ref m1, .ref m2, .ref m3, .ref m4, .ref m5, .ref m6, .ref m7, .ref m8, .ref m9, .int fu, .int fd, .int fi, .int nu, .int nw, .int nf, .int bf, .int bn, .ref m10, .int ts, .int ap, .int fs, .int ln, .int fo, .int fa, .ref m11, .ref m12, .ref m13, .ref m14, .int wr])), aJ G m1 560 u, aZ G m2 2 ik, aI G m3 20 zs, aI G m4 20 cl, aI G m5 20 hs, aI G m6 20 ks, aI G m7 20 wa, aI G m8 20 ne, aI G m9 4 mn, aI G m10 400 tx, aI G m11 6 th, aI G m12 6 od, aI G m13 30 bk, aI G m14 30 bh]) :=
  c_X8_judge l G m0 m1 m2 m3 m4 m5 m6 m7 m8 m9 m10 m11 m12 m13 m14 sz mw ik zs cl hs ks wa ne mn tx th od bk bh fu fd fi nu nw nf bf bn ts ap fs ln fo fa wr T Ns Np v M en (v_X8_judge l G m0 m1 m2 m3 m4 m5 m6 m7 m8 m9 m10 m11 m12 m13 m14 sz mw ik zs cl hs ks wa ne mn tx th od bk bh fu fd fi nu nw nf bf bn ts ap fs ln fo fa wr T Ns Np v M en hp)
