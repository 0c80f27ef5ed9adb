set_option maxHeartbeats 4000000 in
set_option maxRecDepth 100000 in
theorem c_X8_town (l : Launch) (G : Gt) (m0 m1 m2 m3 m4 m5 m6 m7 m8 m9 m10 m11 m12 m13 m14 : Nat) (sz : Nat) (mw : Nat → Int64) (ik : Nat → Int32) (zs : Nat → Int32) (cl : Nat → Int32) (hs : Nat → Int32) (ks : Nat → Int32) (wa : Nat → Int32) (ne : Nat → Int32) (mn : Nat → Int32) (tx : Nat → Int32) (th : Nat → Int32) (od : Nat → Int32) (bk : Nat → Int32) (bh : Nat → Int32) (fu : Int32) (fd : Int32) (fi : Int32) (nu : Int32) (nw : Int32) (nf : Int32) (bf : Int32) (bn : Int32) (ts : Int32) (ap : Int32) (fs : Int32) (ln : Int32) (fo : Int32) (fa : Int32) (wr : Int32) (hv : ∃ (I54_18 : (Nat → Int32) → (Nat → Int32) → (Nat → Int32) → (Nat → Int32) → (Nat → Int32) → (Nat → Int32) → (Nat → Int32) → Int32 → Int32 → Int32 → Int32 → Int32 → Int32 → Int32 → Int32 → Int32 → Int32 → Prop) (μ54_19 : (Nat → Int32) → (Nat → Int32) → (Nat → Int32) → (Nat → Int32) → (Nat → Int32) → (Nat → Int32) → (Nat → Int32) → Int32 → Int32 → Int32 → Int32 → Int32 → Int32 → Int32 → Int32 → Int32 → Int32 → Nat), I54_18 zs cl hs ks wa ne (upd (upd mn 2 0) 3 0) 3 1 0 0 0 0 fs ln 0 (-1) ∧ (∀ (fm3_1 : (Nat → Int32)) (fm4_2 : (Nat → Int32)) (fm5_3 : (Nat → Int32)) (fm6_4 : (Nat → Int32)) (fm7_5 : (Nat → Int32)) (fm8_6 : (Nat → Int32)) (fm9_7 : (Nat → Int32)) (gm012_8 : Int32) (gm013_9 : Int32) (gm014_10 : Int32) (gm015_11 : Int32) (gm016_12 : Int32) (gm019_13 : Int32) (gm020_14 : Int32) (gm021_15 : Int32) (gm022_16 : Int32) (gm023_17 : Int32), I54_18 fm3_1 fm4_2 fm5_3 fm6_4 fm7_5 fm8_6 fm9_7 gm012_8 gm013_9 gm014_10 gm015_11 gm016_12 gm019_13 gm020_14 gm021_15 gm022_16 gm023_17 → (¬ gm022_16 = 0 → (gm022_16 ≤ 0 → ∃ (I145_31 : (Nat → Int32) → (Nat → Int32) → (Nat → Int32) → (Nat → Int32) → (Nat → Int32) → (Nat → Int32) → Int32 → Prop) (μ145_32 : (Nat → Int32) → (Nat → Int32) → (Nat → Int32) → (Nat → Int32) → (Nat → Int32) → (Nat → Int32) → Int32 → Nat), I145_31 fm3_1 fm4_2 fm5_3 fm6_4 fm7_5 fm8_6 0 ∧ (∀ (fm3_24 : (Nat → Int32)) (fm4_25 : (Nat → Int32)) (fm5_26 : (Nat → Int32)) (fm6_27 : (Nat → Int32)) (fm7_28 : (Nat → Int32)) (fm8_29 : (Nat → Int32)) (x1_30 : Int32), I145_31 fm3_24 fm4_25 fm5_26 fm6_27 fm7_28 fm8_29 x1_30 → (10 ≤ x1_30 → (True) ∧ (∀ (mw2_37 : Nat → Int64), (True) → (True))) ∧ (¬ (10 ≤ x1_30) → (vp_in (10 + x1_30) 20) ∧ ((vp_in x1_30 20) ∧ ((vp_in (10 + x1_30) 20) ∧ ((vp_in x1_30 20) ∧ ((vp_in (10 + x1_30) 20) ∧ ((vp_in x1_30 20) ∧ ((vp_in (10 + x1_30) 20) ∧ ((vp_in x1_30 20) ∧ ((vp_in (10 + x1_30) 20) ∧ ((vp_in x1_30 20) ∧ ((vp_in (10 + x1_30) 20) ∧ ((vp_in x1_30 20) ∧ (I145_31 (upd fm3_24 x1_30.toNatClampNeg (fm3_24 (10 + x1_30).toNatClampNeg)) (upd fm4_25 x1_30.toNatClampNeg (fm4_25 (10 + x1_30).toNatClampNeg)) (upd fm5_26 x1_30.toNatClampNeg (fm5_26 (10 + x1_30).toNatClampNeg)) (upd fm6_27 x1_30.toNatClampNeg (fm6_27 (10 + x1_30).toNatClampNeg)) (upd fm7_28 x1_30.toNatClampNeg (fm7_28 (10 + x1_30).toNatClampNeg)) (upd fm8_29 x1_30.toNatClampNeg (fm8_29 (10 + x1_30).toNatClampNeg)) (x1_30 + 1) ∧ μ145_32 (upd fm3_24 x1_30.toNatClampNeg (fm3_24 (10 + x1_30).toNatClampNeg)) (upd fm4_25 x1_30.toNatClampNeg (fm4_25 (10 + x1_30).toNatClampNeg)) (upd fm5_26 x1_30.toNatClampNeg (fm5_26 (10 + x1_30).toNatClampNeg)) (upd fm6_27 x1_30.toNatClampNeg (fm6_27 (10 + x1_30).toNatClampNeg)) (upd fm7_28 x1_30.toNatClampNeg (fm7_28 (10 + x1_30).toNatClampNeg)) (upd fm8_29 x1_30.toNatClampNeg (fm8_29 (10 + x1_30).toNatClampNeg)) (x1_30 + 1) < μ145_32 fm3_24 fm4_25 fm5_26 fm6_27 fm7_28 fm8_29 x1_30))))))))))))))) ∧ (¬ (gm022_16 ≤ 0) → True)) ∧ (gm022_16 = 0 → (True) ∧ (∀ (r_41 : Int32) (ap2_42 : Int32), (True) → ((r_41 < 0 → (gm022_16 ≤ 0 → ∃ (I145_52 : (Nat → Int32) → (Nat → Int32) → (Nat → Int32) → (Nat → Int32) → (Nat → Int32) → (Nat → Int32) → Int32 → Prop) (μ145_53 : (Nat → Int32) → (Nat → Int32) → (Nat → Int32) → (Nat → Int32) → (Nat → Int32) → (Nat → Int32) → Int32 → Nat), I145_52 fm3_1 fm4_2 fm5_3 fm6_4 fm7_5 fm8_6 0 ∧ (∀ (fm3_45 : (Nat → Int32)) (fm4_46 : (Nat → Int32)) (fm5_47 : (Nat → Int32)) (fm6_48 : (Nat → Int32)) (fm7_49 : (Nat → Int32)) (fm8_50 : (Nat → Int32)) (x1_51 : Int32), I145_52 fm3_45 fm4_46 fm5_47 fm6_48 fm7_49 fm8_50 x1_51 → (10 ≤ x1_51 → (True) ∧ (∀ (mw2_58 : Nat → Int64), (True) → (True))) ∧ (¬ (10 ≤ x1_51) → (vp_in (10 + x1_51) 20) ∧ ((vp_in x1_51 20) ∧ ((vp_in (10 + x1_51) 20) ∧ ((vp_in x1_51 20) ∧ ((vp_in (10 + x1_51) 20) ∧ ((vp_in x1_51 20) ∧ ((vp_in (10 + x1_51) 20) ∧ ((vp_in x1_51 20) ∧ ((vp_in (10 + x1_51) 20) ∧ ((vp_in x1_51 20) ∧ ((vp_in (10 + x1_51) 20) ∧ ((vp_in x1_51 20) ∧ (I145_52 (upd fm3_45 x1_51.toNatClampNeg (fm3_45 (10 + x1_51).toNatClampNeg)) (upd fm4_46 x1_51.toNatClampNeg (fm4_46 (10 + x1_51).toNatClampNeg)) (upd fm5_47 x1_51.toNatClampNeg (fm5_47 (10 + x1_51).toNatClampNeg)) (upd fm6_48 x1_51.toNatClampNeg (fm6_48 (10 + x1_51).toNatClampNeg)) (upd fm7_49 x1_51.toNatClampNeg (fm7_49 (10 + x1_51).toNatClampNeg)) (upd fm8_50 x1_51.toNatClampNeg (fm8_50 (10 + x1_51).toNatClampNeg)) (x1_51 + 1) ∧ μ145_53 (upd fm3_45 x1_51.toNatClampNeg (fm3_45 (10 + x1_51).toNatClampNeg)) (upd fm4_46 x1_51.toNatClampNeg (fm4_46 (10 + x1_51).toNatClampNeg)) (upd fm5_47 x1_51.toNatClampNeg (fm5_47 (10 + x1_51).toNatClampNeg)) (upd fm6_48 x1_51.toNatClampNeg (fm6_48 (10 + x1_51).toNatClampNeg)) (upd fm7_49 x1_51.toNatClampNeg (fm7_49 (10 + x1_51).toNatClampNeg)) (upd fm8_50 x1_51.toNatClampNeg (fm8_50 (10 + x1_51).toNatClampNeg)) (x1_51 + 1) < μ145_53 fm3_45 fm4_46 fm5_47 fm6_48 fm7_49 fm8_50 x1_51))))))))))))))) ∧ (¬ (gm022_16 ≤ 0) → True)) ∧ (¬ (r_41 < 0) → (True) ∧ (∀ (zs2_63 : Nat → Int32) (cl2_64 : Nat → Int32) (hs2_65 : Nat → Int32) (ks2_66 : Nat → Int32) (wa2_67 : Nat → Int32) (ne2_68 : Nat → Int32) (mn2_69 : Nat → Int32) (ap2_70 : Int32) (fs2_71 : Int32) (ln2_72 : Int32) (fo2_73 : Int32) (fa2_74 : Int32) (bf2_75 : Int32) (bn2_76 : Int32) (nu2_77 : Int32) (nw2_78 : Int32) (nf2_79 : Int32), (True) → (I54_18 zs2_63 cl2_64 hs2_65 ks2_66 wa2_67 ne2_68 mn2_69 nu2_77 nw2_78 nf2_79 bf2_75 bn2_76 ap2_70 fs2_71 ln2_72 fo2_73 fa2_74 ∧ μ54_19 zs2_63 cl2_64 hs2_65 ks2_66 wa2_67 ne2_68 mn2_69 nu2_77 nw2_78 nf2_79 bf2_75 bn2_76 ap2_70 fs2_71 ln2_72 fo2_73 fa2_74 < μ54_19 fm3_1 fm4_2 fm5_3 fm6_4 fm7_5 fm8_6 fm9_7 gm012_8 gm013_9 gm014_10 gm015_11 gm016_12 gm019_13 gm020_14 gm021_15 gm022_16 gm023_17)))))))) : MetI l yX8_town wsX8_town 4 94 G [.ref m0] [(m0, .inr (8, [.ref m1, .ref m2, .ref m3, .ref m4, .ref m5, .ref m6, .ref m7, .ref m8, .ref m9, .int fu, .int fd, .int fi, .int nu, .int nw, .int nf, .int bf, .int bn, .ref m10, .int ts, .int ap, .int fs, .int ln, .int fo, .int fa, .ref m11, .ref m12, .ref m13, .ref m14, .int wr])), aJ G m1 560 mw, aZ G m2 2 ik, aI G m3 20 zs, aI G m4 20 cl, aI G m5 20 hs, aI G m6 20 ks, aI G m7 20 wa, aI G m8 20 ne, aI G m9 4 mn, aI G m10 400 tx, aI G m11 6 th, aI G m12 6 od, aI G m13 30 bk, aI G m14 30 bh] sz (fun (r : Int32) (u : (Nat → Int64) × (Nat → Int32) × (Nat → Int32) × (Nat → Int32) × (Nat → Int32) × (Nat → Int32) × (Nat → Int32) × (Nat → Int32) × (Nat → Int32) × (Int32) × (Int32) × (Int32) × (Int32) × (Int32) × (Int32) × (Int32) × (Int32) × (Int32) × (Int32) × (Int32) × (Int32) × (Int32) × (Int32) × (Int32)) => True) (fun (u : (Nat → Int64) × (Nat → Int32) × (Nat → Int32) × (Nat → Int32) × (Nat → Int32) × (Nat → Int32) × (Nat → Int32) × (Nat → Int32) × (Nat → Int32) × (Int32) × (Int32) × (Int32) × (Int32) × (Int32) × (Int32) × (Int32) × (Int32) × (Int32) × (Int32) × (Int32) × (Int32) × (Int32) × (Int32) × (Int32)) => [(m0, .inr (8, [.ref m1, .ref m2, .ref m3, .ref m4, .ref m5, .ref m6, .ref m7, .ref m8, .ref m9, .int u.2.2.2.2.2.2.2.2.2.1, .int u.2.2.2.2.2.2.2.2.2.2.1, .int u.2.2.2.2.2.2.2.2.2.2.2.1, .int u.2.2.2.2.2.2.2.2.2.2.2.2.1, .int u.2.2.2.2.2.2.2.2.2.2.2.2.2.1, .int u.2.2.2.2.2.2.2.2.2.2.2.2.2.2.1, .int u.2.2.2.2.2.2.2.2.2.2.2.2.2.2.2.1, .int u.2.2.2.2.2.2.2.2.2.2.2.2.2.2.2.2.1, .ref m10, .int u.2.2.2.2.2.2.2.2.2.2.2.2.2.2.2.2.2.1, .int u.2.2.2.2.2.2.2.2.2.2.2.2.2.2.2.2.2.2.1, .int u.2.2.2.2.2.2.2.2.2.2.2.2.2.2.2.2.2.2.2.1, .int u.2.2.2.2.2.2.2.2.2.2.2.2.2.2.2.2.2.2.2.2.1, .int u.2.2.2.2.2.2.2.2.2.2.2.2.2.2.2.2.2.2.2.2.2.1, .int u.2.2.2.2.2.2.2.2.2.2.2.2.2.2.2.2.2.2.2.2.2.2.1, .ref m11, .ref m12, .ref m13, .ref m14, .int u.2.2.2.2.2.2.2.2.2.2.2.2.2.2.2.2.2.2.2.2.2.2.2])), aJ G m1 560 u.1, aZ G m2 2 u.2.1, aI G m3 20 u.2.2.1, aI G m4 20 u.2.2.2.1, aI G m5 20 u.2.2.2.2.1, aI G m6 20 u.2.2.2.2.2.1, aI G m7 20 u.2.2.2.2.2.2.1, aI G m8 20 u.2.2.2.2.2.2.2.1, aI G m9 4 u.2.2.2.2.2.2.2.2.1, aI G m10 400 tx, aI G m11 6 th, aI G m12 6 od, aI G m13 30 bk, aI G m14 30 bh]) := by
  refine x_startI (cc := cX8_town) (maxL := 2) (ret := (some .int)) (by decide) rfl (Nat.le_of_ble_eq_true rfl) ?_
  intro p e s m args below meth c A R Q ls hRf hRl hQ C hP hD hS hA hSS hl
  obtain ⟨hx, hb, hr, hml, hown, hts, hlocks, hKK⟩ := C
  have hown : s.vm.findClass RX8 = some m.cls := hown
  have hl : lv_has ls 2 [(0, .ref m0)] := hl
  have hinX8 : ∀ w ∈ u_ws RX8 TX8 29, w ∈ wsX8_town := by decide +kernel
  have kl127 := hts (.fieldLink RX8 127 "WarmStonesModel" "isFrost" "Z") (by decide +kernel)
  have kl13 := hts (.fieldLink RX8 13 "WarmStonesModel" "isKept" "[Z") (by decide +kernel)
  have kl131 := hts (.fieldLink RX8 131 "WarmStonesModel" "newUp" "I") (by decide +kernel)
  have kl134 := hts (.fieldLink RX8 134 "WarmStonesModel" "newDown" "I") (by decide +kernel)
  have kl137 := hts (.fieldLink RX8 137 "WarmStonesModel" "isFine" "Z") (by decide +kernel)
  have kl140 := hts (.fieldLink RX8 140 "WarmStonesModel" "newFine" "I") (by decide +kernel)
  have kl146 := hts (.fieldLink RX8 146 "WarmStonesModel" "fine" "I") (by decide +kernel)
  have kl149 := hts (.fieldLink RX8 149 "WarmStonesModel" "written" "I") (by decide +kernel)
  have kl17 := hts (.fieldLink RX8 17 "WarmStonesModel" "sizes" "[I") (by decide +kernel)
  have kl21 := hts (.fieldLink RX8 21 "WarmStonesModel" "coolings" "[I") (by decide +kernel)
  have kl24 := hts (.fieldLink RX8 24 "WarmStonesModel" "heats" "[I") (by decide +kernel)
  have kl27 := hts (.fieldLink RX8 27 "WarmStonesModel" "kinds" "[I") (by decide +kernel)
  have kl30 := hts (.fieldLink RX8 30 "WarmStonesModel" "warmths" "[I") (by decide +kernel)
  have kl33 := hts (.fieldLink RX8 33 "WarmStonesModel" "needs" "[I") (by decide +kernel)
  have kl36 := hts (.fieldLink RX8 36 "WarmStonesModel" "many" "[I") (by decide +kernel)
  have kl39 := hts (.fieldLink RX8 39 "WarmStonesModel" "frostUp" "I") (by decide +kernel)
  have kl43 := hts (.fieldLink RX8 43 "WarmStonesModel" "frostDown" "I") (by decide +kernel)
  have kl49 := hts (.fieldLink RX8 49 "WarmStonesModel" "fault" "I") (by decide +kernel)
  have kl74 := hts (.fieldLink RX8 74 "WarmStonesModel" "textSize" "I") (by decide +kernel)
  have kl80 := hts (.fieldLink RX8 80 "WarmStonesModel" "at" "I") (by decide +kernel)
  have kl83 := hts (.fieldLink RX8 83 "WarmStonesModel" "faultOf" "I") (by decide +kernel)
  refine lv_aload_n hx hb dX8_town_0 rfl (lv_at hl 0 rfl) ?_
  refine lv_iconst (v := 0) hx hb dX8_town_1 (by decide) ?_
  refine va_put (D := G.1) (ci := 8) (v := .int 0) (ty := .int) (C := RX8) (T := TX8) (N := 29) hx hb hts hinX8 tyX8 tyX8_ok nmX8 hown hKK.1 hP hD hS 0 rfl rfl 19 (by decide) kl80 (fun _ h9 => h9) rfl (by decide +kernel) rfl rfl (Nat.le_of_ble_eq_true rfl) dX8_town_2 (fun H locs hP hD hS => ?_)
  have hP : va_P G.1 vwCl [(m0, .inr (8, [.ref m1, .ref m2, .ref m3, .ref m4, .ref m5, .ref m6, .ref m7, .ref m8, .ref m9, .int fu, .int fd, .int fi, .int nu, .int nw, .int nf, .int bf, .int bn, .ref m10, .int ts, .int 0, .int fs, .int ln, .int fo, .int fa, .ref m11, .ref m12, .ref m13, .ref m14, .int wr])), aJ G m1 560 mw, aZ G m2 2 ik, aI G m3 20 zs, aI G m4 20 cl, aI G m5 20 hs, aI G m6 20 ks, aI G m7 20 wa, aI G m8 20 ne, aI G m9 4 mn, aI G m10 400 tx, aI G m11 6 th, aI G m12 6 od, aI G m13 30 bk, aI G m14 30 bh] H := hP
  have hD : va_D A [(m0, .inr (8, [.ref m1, .ref m2, .ref m3, .ref m4, .ref m5, .ref m6, .ref m7, .ref m8, .ref m9, .int fu, .int fd, .int fi, .int nu, .int nw, .int nf, .int bf, .int bn, .ref m10, .int ts, .int 0, .int fs, .int ln, .int fo, .int fa, .ref m11, .ref m12, .ref m13, .ref m14, .int wr])), aJ G m1 560 mw, aZ G m2 2 ik, aI G m3 20 zs, aI G m4 20 cl, aI G m5 20 hs, aI G m6 20 ks, aI G m7 20 wa, aI G m8 20 ne, aI G m9 4 mn, aI G m10 400 tx, aI G m11 6 th, aI G m12 6 od, aI G m13 30 bk, aI G m14 30 bh] := hD
  refine lv_aload_n hx hb dX8_town_5 rfl (lv_at hl 0 rfl) ?_
  refine lv_iconst (v := 0) hx hb dX8_town_6 (by decide) ?_
  refine va_put (D := G.1) (ci := 8) (v := .int 0) (ty := .int) (C := RX8) (T := TX8) (N := 29) hx hb hts hinX8 tyX8 tyX8_ok nmX8 hown hKK.1 hP hD hS 0 rfl rfl 22 (by decide) kl83 (fun _ h9 => h9) rfl (by decide +kernel) rfl rfl (Nat.le_of_ble_eq_true rfl) dX8_town_7 (fun H locs hP hD hS => ?_)
  have hP : va_P G.1 vwCl [(m0, .inr (8, [.ref m1, .ref m2, .ref m3, .ref m4, .ref m5, .ref m6, .ref m7, .ref m8, .ref m9, .int fu, .int fd, .int fi, .int nu, .int nw, .int nf, .int bf, .int bn, .ref m10, .int ts, .int 0, .int fs, .int ln, .int 0, .int fa, .ref m11, .ref m12, .ref m13, .ref m14, .int wr])), aJ G m1 560 mw, aZ G m2 2 ik, aI G m3 20 zs, aI G m4 20 cl, aI G m5 20 hs, aI G m6 20 ks, aI G m7 20 wa, aI G m8 20 ne, aI G m9 4 mn, aI G m10 400 tx, aI G m11 6 th, aI G m12 6 od, aI G m13 30 bk, aI G m14 30 bh] H := hP
  have hD : va_D A [(m0, .inr (8, [.ref m1, .ref m2, .ref m3, .ref m4, .ref m5, .ref m6, .ref m7, .ref m8, .ref m9, .int fu, .int fd, .int fi, .int nu, .int nw, .int nf, .int bf, .int bn, .ref m10, .int ts, .int 0, .int fs, .int ln, .int 0, .int fa, .ref m11, .ref m12, .ref m13, .ref m14, .int wr])), aJ G m1 560 mw, aZ G m2 2 ik, aI G m3 20 zs, aI G m4 20 cl, aI G m5 20 hs, aI G m6 20 ks, aI G m7 20 wa, aI G m8 20 ne, aI G m9 4 mn, aI G m10 400 tx, aI G m11 6 th, aI G m12 6 od, aI G m13 30 bk, aI G m14 30 bh] := hD
  refine lv_aload_n hx hb dX8_town_10 rfl (lv_at hl 0 rfl) ?_
  refine lv_iconst (v := (-1)) hx hb dX8_town_11 (by decide) ?_
  refine va_put (D := G.1) (ci := 8) (v := .int (-1)) (ty := .int) (C := RX8) (T := TX8) (N := 29) hx hb hts hinX8 tyX8 tyX8_ok nmX8 hown hKK.1 hP hD hS 0 rfl rfl 23 (by decide) kl49 (fun _ h9 => h9) rfl (by decide +kernel) rfl rfl (Nat.le_of_ble_eq_true rfl) dX8_town_12 (fun H locs hP hD hS => ?_)
  have hP : va_P G.1 vwCl [(m0, .inr (8, [.ref m1, .ref m2, .ref m3, .ref m4, .ref m5, .ref m6, .ref m7, .ref m8, .ref m9, .int fu, .int fd, .int fi, .int nu, .int nw, .int nf, .int bf, .int bn, .ref m10, .int ts, .int 0, .int fs, .int ln, .int 0, .int (-1), .ref m11, .ref m12, .ref m13, .ref m14, .int wr])), aJ G m1 560 mw, aZ G m2 2 ik, aI G m3 20 zs, aI G m4 20 cl, aI G m5 20 hs, aI G m6 20 ks, aI G m7 20 wa, aI G m8 20 ne, aI G m9 4 mn, aI G m10 400 tx, aI G m11 6 th, aI G m12 6 od, aI G m13 30 bk, aI G m14 30 bh] H := hP
  have hD : va_D A [(m0, .inr (8, [.ref m1, .ref m2, .ref m3, .ref m4, .ref m5, .ref m6, .ref m7, .ref m8, .ref m9, .int fu, .int fd, .int fi, .int nu, .int nw, .int nf, .int bf, .int bn, .ref m10, .int ts, .int 0, .int fs, .int ln, .int 0, .int (-1), .ref m11, .ref m12, .ref m13, .ref m14, .int wr])), aJ G m1 560 mw, aZ G m2 2 ik, aI G m3 20 zs, aI G m4 20 cl, aI G m5 20 hs, aI G m6 20 ks, aI G m7 20 wa, aI G m8 20 ne, aI G m9 4 mn, aI G m10 400 tx, aI G m11 6 th, aI G m12 6 od, aI G m13 30 bk, aI G m14 30 bh] := hD
  refine lv_aload_n hx hb dX8_town_15 rfl (lv_at hl 0 rfl) ?_
  refine va_get (D := G.1) (ci := 8) (v := .ref m9) (C := RX8) (T := TX8) (N := 29) hx hb hts hinX8 hown hKK.1 hP 0 rfl rfl 8 (by decide) kl36 (fun _ h9 => h9) rfl dX8_town_16 ?_
  refine lv_iconst (v := 2) hx hb dX8_town_19 (by decide) ?_
  refine lv_iconst (v := 0) hx hb dX8_town_20 (by decide) ?_
  refine va_iast hx hb hKK.1 hP hD hS 9 0 rfl rfl (by unfold vp_in; decide) dX8_town_21 (fun H locs hP hD hS => ?_)
  have hP : va_P G.1 vwCl [(m0, .inr (8, [.ref m1, .ref m2, .ref m3, .ref m4, .ref m5, .ref m6, .ref m7, .ref m8, .ref m9, .int fu, .int fd, .int fi, .int nu, .int nw, .int nf, .int bf, .int bn, .ref m10, .int ts, .int 0, .int fs, .int ln, .int 0, .int (-1), .ref m11, .ref m12, .ref m13, .ref m14, .int wr])), aJ G m1 560 mw, aZ G m2 2 ik, aI G m3 20 zs, aI G m4 20 cl, aI G m5 20 hs, aI G m6 20 ks, aI G m7 20 wa, aI G m8 20 ne, aI G m9 4 (upd mn 2 0), aI G m10 400 tx, aI G m11 6 th, aI G m12 6 od, aI G m13 30 bk, aI G m14 30 bh] H := hP
  have hD : va_D A [(m0, .inr (8, [.ref m1, .ref m2, .ref m3, .ref m4, .ref m5, .ref m6, .ref m7, .ref m8, .ref m9, .int fu, .int fd, .int fi, .int nu, .int nw, .int nf, .int bf, .int bn, .ref m10, .int ts, .int 0, .int fs, .int ln, .int 0, .int (-1), .ref m11, .ref m12, .ref m13, .ref m14, .int wr])), aJ G m1 560 mw, aZ G m2 2 ik, aI G m3 20 zs, aI G m4 20 cl, aI G m5 20 hs, aI G m6 20 ks, aI G m7 20 wa, aI G m8 20 ne, aI G m9 4 (upd mn 2 0), aI G m10 400 tx, aI G m11 6 th, aI G m12 6 od, aI G m13 30 bk, aI G m14 30 bh] := hD
  refine lv_aload_n hx hb dX8_town_22 rfl (lv_at hl 0 rfl) ?_
  refine va_get (D := G.1) (ci := 8) (v := .ref m9) (C := RX8) (T := TX8) (N := 29) hx hb hts hinX8 hown hKK.1 hP 0 rfl rfl 8 (by decide) kl36 (fun _ h9 => h9) rfl dX8_town_23 ?_
  refine lv_iconst (v := 3) hx hb dX8_town_26 (by decide) ?_
  refine lv_iconst (v := 0) hx hb dX8_town_27 (by decide) ?_
  refine va_iast hx hb hKK.1 hP hD hS 9 0 rfl rfl (by unfold vp_in; decide) dX8_town_28 (fun H locs hP hD hS => ?_)
  have hP : va_P G.1 vwCl [(m0, .inr (8, [.ref m1, .ref m2, .ref m3, .ref m4, .ref m5, .ref m6, .ref m7, .ref m8, .ref m9, .int fu, .int fd, .int fi, .int nu, .int nw, .int nf, .int bf, .int bn, .ref m10, .int ts, .int 0, .int fs, .int ln, .int 0, .int (-1), .ref m11, .ref m12, .ref m13, .ref m14, .int wr])), aJ G m1 560 mw, aZ G m2 2 ik, aI G m3 20 zs, aI G m4 20 cl, aI G m5 20 hs, aI G m6 20 ks, aI G m7 20 wa, aI G m8 20 ne, aI G m9 4 (upd (upd mn 2 0) 3 0), aI G m10 400 tx, aI G m11 6 th, aI G m12 6 od, aI G m13 30 bk, aI G m14 30 bh] H := hP
  have hD : va_D A [(m0, .inr (8, [.ref m1, .ref m2, .ref m3, .ref m4, .ref m5, .ref m6, .ref m7, .ref m8, .ref m9, .int fu, .int fd, .int fi, .int nu, .int nw, .int nf, .int bf, .int bn, .ref m10, .int ts, .int 0, .int fs, .int ln, .int 0, .int (-1), .ref m11, .ref m12, .ref m13, .ref m14, .int wr])), aJ G m1 560 mw, aZ G m2 2 ik, aI G m3 20 zs, aI G m4 20 cl, aI G m5 20 hs, aI G m6 20 ks, aI G m7 20 wa, aI G m8 20 ne, aI G m9 4 (upd (upd mn 2 0) 3 0), aI G m10 400 tx, aI G m11 6 th, aI G m12 6 od, aI G m13 30 bk, aI G m14 30 bh] := hD
  refine lv_aload_n hx hb dX8_town_29 rfl (lv_at hl 0 rfl) ?_
  refine lv_iconst (v := 0) hx hb dX8_town_30 (by decide) ?_
  refine va_put (D := G.1) (ci := 8) (v := .int 0) (ty := .boolean) (C := RX8) (T := TX8) (N := 29) hx hb hts hinX8 tyX8 tyX8_ok nmX8 hown hKK.1 hP hD hS 0 rfl rfl 15 (by decide) kl127 (fun _ h9 => h9) rfl (by decide +kernel) rfl rfl (Nat.le_of_ble_eq_true rfl) dX8_town_31 (fun H locs hP hD hS => ?_)
  have hP : va_P G.1 vwCl [(m0, .inr (8, [.ref m1, .ref m2, .ref m3, .ref m4, .ref m5, .ref m6, .ref m7, .ref m8, .ref m9, .int fu, .int fd, .int fi, .int nu, .int nw, .int nf, .int 0, .int bn, .ref m10, .int ts, .int 0, .int fs, .int ln, .int 0, .int (-1), .ref m11, .ref m12, .ref m13, .ref m14, .int wr])), aJ G m1 560 mw, aZ G m2 2 ik, aI G m3 20 zs, aI G m4 20 cl, aI G m5 20 hs, aI G m6 20 ks, aI G m7 20 wa, aI G m8 20 ne, aI G m9 4 (upd (upd mn 2 0) 3 0), aI G m10 400 tx, aI G m11 6 th, aI G m12 6 od, aI G m13 30 bk, aI G m14 30 bh] H := hP
  have hD : va_D A [(m0, .inr (8, [.ref m1, .ref m2, .ref m3, .ref m4, .ref m5, .ref m6, .ref m7, .ref m8, .ref m9, .int fu, .int fd, .int fi, .int nu, .int nw, .int nf, .int 0, .int bn, .ref m10, .int ts, .int 0, .int fs, .int ln, .int 0, .int (-1), .ref m11, .ref m12, .ref m13, .ref m14, .int wr])), aJ G m1 560 mw, aZ G m2 2 ik, aI G m3 20 zs, aI G m4 20 cl, aI G m5 20 hs, aI G m6 20 ks, aI G m7 20 wa, aI G m8 20 ne, aI G m9 4 (upd (upd mn 2 0) 3 0), aI G m10 400 tx, aI G m11 6 th, aI G m12 6 od, aI G m13 30 bk, aI G m14 30 bh] := hD
  refine lv_aload_n hx hb dX8_town_34 rfl (lv_at hl 0 rfl) ?_
  refine lv_iconst (v := 0) hx hb dX8_town_35 (by decide) ?_
  refine va_put (D := G.1) (ci := 8) (v := .int 0) (ty := .boolean) (C := RX8) (T := TX8) (N := 29) hx hb hts hinX8 tyX8 tyX8_ok nmX8 hown hKK.1 hP hD hS 0 rfl rfl 16 (by decide) kl137 (fun _ h9 => h9) rfl (by decide +kernel) rfl rfl (Nat.le_of_ble_eq_true rfl) dX8_town_36 (fun H locs hP hD hS => ?_)
  have hP : va_P G.1 vwCl [(m0, .inr (8, [.ref m1, .ref m2, .ref m3, .ref m4, .ref m5, .ref m6, .ref m7, .ref m8, .ref m9, .int fu, .int fd, .int fi, .int nu, .int nw, .int nf, .int 0, .int 0, .ref m10, .int ts, .int 0, .int fs, .int ln, .int 0, .int (-1), .ref m11, .ref m12, .ref m13, .ref m14, .int wr])), aJ G m1 560 mw, aZ G m2 2 ik, aI G m3 20 zs, aI G m4 20 cl, aI G m5 20 hs, aI G m6 20 ks, aI G m7 20 wa, aI G m8 20 ne, aI G m9 4 (upd (upd mn 2 0) 3 0), aI G m10 400 tx, aI G m11 6 th, aI G m12 6 od, aI G m13 30 bk, aI G m14 30 bh] H := hP
  have hD : va_D A [(m0, .inr (8, [.ref m1, .ref m2, .ref m3, .ref m4, .ref m5, .ref m6, .ref m7, .ref m8, .ref m9, .int fu, .int fd, .int fi, .int nu, .int nw, .int nf, .int 0, .int 0, .ref m10, .int ts, .int 0, .int fs, .int ln, .int 0, .int (-1), .ref m11, .ref m12, .ref m13, .ref m14, .int wr])), aJ G m1 560 mw, aZ G m2 2 ik, aI G m3 20 zs, aI G m4 20 cl, aI G m5 20 hs, aI G m6 20 ks, aI G m7 20 wa, aI G m8 20 ne, aI G m9 4 (upd (upd mn 2 0) 3 0), aI G m10 400 tx, aI G m11 6 th, aI G m12 6 od, aI G m13 30 bk, aI G m14 30 bh] := hD
  refine lv_aload_n hx hb dX8_town_39 rfl (lv_at hl 0 rfl) ?_
  refine lv_iconst (v := 3) hx hb dX8_town_40 (by decide) ?_
  refine va_put (D := G.1) (ci := 8) (v := .int 3) (ty := .int) (C := RX8) (T := TX8) (N := 29) hx hb hts hinX8 tyX8 tyX8_ok nmX8 hown hKK.1 hP hD hS 0 rfl rfl 12 (by decide) kl131 (fun _ h9 => h9) rfl (by decide +kernel) rfl rfl (Nat.le_of_ble_eq_true rfl) dX8_town_41 (fun H locs hP hD hS => ?_)
  have hP : va_P G.1 vwCl [(m0, .inr (8, [.ref m1, .ref m2, .ref m3, .ref m4, .ref m5, .ref m6, .ref m7, .ref m8, .ref m9, .int fu, .int fd, .int fi, .int 3, .int nw, .int nf, .int 0, .int 0, .ref m10, .int ts, .int 0, .int fs, .int ln, .int 0, .int (-1), .ref m11, .ref m12, .ref m13, .ref m14, .int wr])), aJ G m1 560 mw, aZ G m2 2 ik, aI G m3 20 zs, aI G m4 20 cl, aI G m5 20 hs, aI G m6 20 ks, aI G m7 20 wa, aI G m8 20 ne, aI G m9 4 (upd (upd mn 2 0) 3 0), aI G m10 400 tx, aI G m11 6 th, aI G m12 6 od, aI G m13 30 bk, aI G m14 30 bh] H := hP
  have hD : va_D A [(m0, .inr (8, [.ref m1, .ref m2, .ref m3, .ref m4, .ref m5, .ref m6, .ref m7, .ref m8, .ref m9, .int fu, .int fd, .int fi, .int 3, .int nw, .int nf, .int 0, .int 0, .ref m10, .int ts, .int 0, .int fs, .int ln, .int 0, .int (-1), .ref m11, .ref m12, .ref m13, .ref m14, .int wr])), aJ G m1 560 mw, aZ G m2 2 ik, aI G m3 20 zs, aI G m4 20 cl, aI G m5 20 hs, aI G m6 20 ks, aI G m7 20 wa, aI G m8 20 ne, aI G m9 4 (upd (upd mn 2 0) 3 0), aI G m10 400 tx, aI G m11 6 th, aI G m12 6 od, aI G m13 30 bk, aI G m14 30 bh] := hD
  refine lv_aload_n hx hb dX8_town_44 rfl (lv_at hl 0 rfl) ?_
  refine lv_iconst (v := 1) hx hb dX8_town_45 (by decide) ?_
  refine va_put (D := G.1) (ci := 8) (v := .int 1) (ty := .int) (C := RX8) (T := TX8) (N := 29) hx hb hts hinX8 tyX8 tyX8_ok nmX8 hown hKK.1 hP hD hS 0 rfl rfl 13 (by decide) kl134 (fun _ h9 => h9) rfl (by decide +kernel) rfl rfl (Nat.le_of_ble_eq_true rfl) dX8_town_46 (fun H locs hP hD hS => ?_)
  have hP : va_P G.1 vwCl [(m0, .inr (8, [.ref m1, .ref m2, .ref m3, .ref m4, .ref m5, .ref m6, .ref m7, .ref m8, .ref m9, .int fu, .int fd, .int fi, .int 3, .int 1, .int nf, .int 0, .int 0, .ref m10, .int ts, .int 0, .int fs, .int ln, .int 0, .int (-1), .ref m11, .ref m12, .ref m13, .ref m14, .int wr])), aJ G m1 560 mw, aZ G m2 2 ik, aI G m3 20 zs, aI G m4 20 cl, aI G m5 20 hs, aI G m6 20 ks, aI G m7 20 wa, aI G m8 20 ne, aI G m9 4 (upd (upd mn 2 0) 3 0), aI G m10 400 tx, aI G m11 6 th, aI G m12 6 od, aI G m13 30 bk, aI G m14 30 bh] H := hP
  have hD : va_D A [(m0, .inr (8, [.ref m1, .ref m2, .ref m3, .ref m4, .ref m5, .ref m6, .ref m7, .ref m8, .ref m9, .int fu, .int fd, .int fi, .int 3, .int 1, .int nf, .int 0, .int 0, .ref m10, .int ts, .int 0, .int fs, .int ln, .int 0, .int (-1), .ref m11, .ref m12, .ref m13, .ref m14, .int wr])), aJ G m1 560 mw, aZ G m2 2 ik, aI G m3 20 zs, aI G m4 20 cl, aI G m5 20 hs, aI G m6 20 ks, aI G m7 20 wa, aI G m8 20 ne, aI G m9 4 (upd (upd mn 2 0) 3 0), aI G m10 400 tx, aI G m11 6 th, aI G m12 6 od, aI G m13 30 bk, aI G m14 30 bh] := hD
  refine lv_aload_n hx hb dX8_town_49 rfl (lv_at hl 0 rfl) ?_
  refine lv_iconst (v := 0) hx hb dX8_town_50 (by decide) ?_
  refine va_put (D := G.1) (ci := 8) (v := .int 0) (ty := .int) (C := RX8) (T := TX8) (N := 29) hx hb hts hinX8 tyX8 tyX8_ok nmX8 hown hKK.1 hP hD hS 0 rfl rfl 14 (by decide) kl140 (fun _ h9 => h9) rfl (by decide +kernel) rfl rfl (Nat.le_of_ble_eq_true rfl) dX8_town_51 (fun H locs hP hD hS => ?_)
  have hP : va_P G.1 vwCl [(m0, .inr (8, [.ref m1, .ref m2, .ref m3, .ref m4, .ref m5, .ref m6, .ref m7, .ref m8, .ref m9, .int fu, .int fd, .int fi, .int 3, .int 1, .int 0, .int 0, .int 0, .ref m10, .int ts, .int 0, .int fs, .int ln, .int 0, .int (-1), .ref m11, .ref m12, .ref m13, .ref m14, .int wr])), aJ G m1 560 mw, aZ G m2 2 ik, aI G m3 20 zs, aI G m4 20 cl, aI G m5 20 hs, aI G m6 20 ks, aI G m7 20 wa, aI G m8 20 ne, aI G m9 4 (upd (upd mn 2 0) 3 0), aI G m10 400 tx, aI G m11 6 th, aI G m12 6 od, aI G m13 30 bk, aI G m14 30 bh] H := hP
  have hD : va_D A [(m0, .inr (8, [.ref m1, .ref m2, .ref m3, .ref m4, .ref m5, .ref m6, .ref m7, .ref m8, .ref m9, .int fu, .int fd, .int fi, .int 3, .int 1, .int 0, .int 0, .int 0, .ref m10, .int ts, .int 0, .int fs, .int ln, .int 0, .int (-1), .ref m11, .ref m12, .ref m13, .ref m14, .int wr])), aJ G m1 560 mw, aZ G m2 2 ik, aI G m3 20 zs, aI G m4 20 cl, aI G m5 20 hs, aI G m6 20 ks, aI G m7 20 wa, aI G m8 20 ne, aI G m9 4 (upd (upd mn 2 0) 3 0), aI G m10 400 tx, aI G m11 6 th, aI G m12 6 od, aI G m13 30 bk, aI G m14 30 bh] := hD
  obtain ⟨I54_18, μ54_19, hi0, hs_80⟩ := hv
  have Lm_82 : ∀ (n_81 : Nat) (fm3_1 : (Nat → Int32)) (fm4_2 : (Nat → Int32)) (fm5_3 : (Nat → Int32)) (fm6_4 : (Nat → Int32)) (fm7_5 : (Nat → Int32)) (fm8_6 : (Nat → Int32)) (fm9_7 : (Nat → Int32)) (gm012_8 : Int32) (gm013_9 : Int32) (gm014_10 : Int32) (gm015_11 : Int32) (gm016_12 : Int32) (gm019_13 : Int32) (gm020_14 : Int32) (gm021_15 : Int32) (gm022_16 : Int32) (gm023_17 : Int32) (H : Heap) (locs : List Loc) (ls : Array Slot), μ54_19 fm3_1 fm4_2 fm5_3 fm6_4 fm7_5 fm8_6 fm9_7 gm012_8 gm013_9 gm014_10 gm015_11 gm016_12 gm019_13 gm020_14 gm021_15 gm022_16 gm023_17 < n_81 → I54_18 fm3_1 fm4_2 fm5_3 fm6_4 fm7_5 fm8_6 fm9_7 gm012_8 gm013_9 gm014_10 gm015_11 gm016_12 gm019_13 gm020_14 gm021_15 gm022_16 gm023_17 → va_P G.1 vwCl [(m0, .inr (8, [.ref m1, .ref m2, .ref m3, .ref m4, .ref m5, .ref m6, .ref m7, .ref m8, .ref m9, .int fu, .int fd, .int fi, .int gm012_8, .int gm013_9, .int gm014_10, .int gm015_11, .int gm016_12, .ref m10, .int ts, .int gm019_13, .int gm020_14, .int gm021_15, .int gm022_16, .int gm023_17, .ref m11, .ref m12, .ref m13, .ref m14, .int wr])), aJ G m1 560 mw, aZ G m2 2 ik, aI G m3 20 fm3_1, aI G m4 20 fm4_2, aI G m5 20 fm5_3, aI G m6 20 fm6_4, aI G m7 20 fm7_5, aI G m8 20 fm8_6, aI G m9 4 fm9_7, aI G m10 400 tx, aI G m11 6 th, aI G m12 6 od, aI G m13 30 bk, aI G m14 30 bh] H → va_D A [(m0, .inr (8, [.ref m1, .ref m2, .ref m3, .ref m4, .ref m5, .ref m6, .ref m7, .ref m8, .ref m9, .int fu, .int fd, .int fi, .int gm012_8, .int gm013_9, .int gm014_10, .int gm015_11, .int gm016_12, .ref m10, .int ts, .int gm019_13, .int gm020_14, .int gm021_15, .int gm022_16, .int gm023_17, .ref m11, .ref m12, .ref m13, .ref m14, .int wr])), aJ G m1 560 mw, aZ G m2 2 ik, aI G m3 20 fm3_1, aI G m4 20 fm4_2, aI G m5 20 fm5_3, aI G m6 20 fm6_4, aI G m7 20 fm7_5, aI G m8 20 fm8_6, aI G m9 4 fm9_7, aI G m10 400 tx, aI G m11 6 th, aI G m12 6 od, aI G m13 30 bk, aI G m14 30 bh] → va_S A s.heap H locs → lv_has ls 2 [(0, .ref m0)] → W p l e R s m args below meth c H locs 0 0 Q (F0 m 54 ls []) := by
    intro n_81
    induction n_81 with
    | zero => intro fm3_1 fm4_2 fm5_3 fm6_4 fm7_5 fm8_6 fm9_7 gm012_8 gm013_9 gm014_10 gm015_11 gm016_12 gm019_13 gm020_14 gm021_15 gm022_16 gm023_17 H locs ls hm; exact absurd hm (Nat.not_lt_zero _)
    | succ n_81 ih_20 =>
      intro fm3_1 fm4_2 fm5_3 fm6_4 fm7_5 fm8_6 fm9_7 gm012_8 gm013_9 gm014_10 gm015_11 gm016_12 gm019_13 gm020_14 gm021_15 gm022_16 gm023_17 H locs ls hI_21 hi hP hD hS hl
      have hv := hs_80 fm3_1 fm4_2 fm5_3 fm6_4 fm7_5 fm8_6 fm9_7 gm012_8 gm013_9 gm014_10 gm015_11 gm016_12 gm019_13 gm020_14 gm021_15 gm022_16 gm023_17 hi
      refine lv_aload_n hx hb dX8_town_54 rfl (lv_at hl 0 rfl) ?_
      refine va_get (D := G.1) (ci := 8) (v := .int gm022_16) (C := RX8) (T := TX8) (N := 29) hx hb hts hinX8 hown hKK.1 hP 0 rfl rfl 22 (by decide) kl83 (fun _ h9 => h9) rfl dX8_town_55 ?_
      refine lv_if_ne (tgt := 75) hx hb dX8_town_58 (by decide) (fun hc_22 => ?_) (fun hc_22 => ?_)
      · have hv := hv.1 hc_22
        refine lv_aload_n hx hb dX8_town_75 rfl (lv_at hl 0 rfl) ?_
        refine lv_iconst (v := 0) hx hb dX8_town_76 (by decide) ?_
        refine va_put (D := G.1) (ci := 8) (v := .int 0) (ty := .int) (C := RX8) (T := TX8) (N := 29) hx hb hts hinX8 tyX8 tyX8_ok nmX8 hown hKK.1 hP hD hS 0 rfl rfl 18 (by decide) kl74 (fun _ h9 => h9) rfl (by decide +kernel) rfl rfl (Nat.le_of_ble_eq_true rfl) dX8_town_77 (fun H locs hP hD hS => ?_)
        have hP : va_P G.1 vwCl [(m0, .inr (8, [.ref m1, .ref m2, .ref m3, .ref m4, .ref m5, .ref m6, .ref m7, .ref m8, .ref m9, .int fu, .int fd, .int fi, .int gm012_8, .int gm013_9, .int gm014_10, .int gm015_11, .int gm016_12, .ref m10, .int 0, .int gm019_13, .int gm020_14, .int gm021_15, .int gm022_16, .int gm023_17, .ref m11, .ref m12, .ref m13, .ref m14, .int wr])), aJ G m1 560 mw, aZ G m2 2 ik, aI G m3 20 fm3_1, aI G m4 20 fm4_2, aI G m5 20 fm5_3, aI G m6 20 fm6_4, aI G m7 20 fm7_5, aI G m8 20 fm8_6, aI G m9 4 fm9_7, aI G m10 400 tx, aI G m11 6 th, aI G m12 6 od, aI G m13 30 bk, aI G m14 30 bh] H := hP
        have hD : va_D A [(m0, .inr (8, [.ref m1, .ref m2, .ref m3, .ref m4, .ref m5, .ref m6, .ref m7, .ref m8, .ref m9, .int fu, .int fd, .int fi, .int gm012_8, .int gm013_9, .int gm014_10, .int gm015_11, .int gm016_12, .ref m10, .int 0, .int gm019_13, .int gm020_14, .int gm021_15, .int gm022_16, .int gm023_17, .ref m11, .ref m12, .ref m13, .ref m14, .int wr])), aJ G m1 560 mw, aZ G m2 2 ik, aI G m3 20 fm3_1, aI G m4 20 fm4_2, aI G m5 20 fm5_3, aI G m6 20 fm6_4, aI G m7 20 fm7_5, aI G m8 20 fm8_6, aI G m9 4 fm9_7, aI G m10 400 tx, aI G m11 6 th, aI G m12 6 od, aI G m13 30 bk, aI G m14 30 bh] := hD
        refine lv_aload_n hx hb dX8_town_80 rfl (lv_at hl 0 rfl) ?_
        refine va_get (D := G.1) (ci := 8) (v := .int gm022_16) (C := RX8) (T := TX8) (N := 29) hx hb hts hinX8 hown hKK.1 hP 0 rfl rfl 22 (by decide) kl83 (fun _ h9 => h9) rfl dX8_town_81 ?_
        refine lv_if_le (tgt := 95) hx hb dX8_town_84 (by decide) (fun hc_23 => ?_) (fun hc_23 => ?_)
        · have hv := hv.1 hc_23
          refine lv_aload_n hx hb dX8_town_95 rfl (lv_at hl 0 rfl) ?_
          refine va_get (D := G.1) (ci := 8) (v := .ref m9) (C := RX8) (T := TX8) (N := 29) hx hb hts hinX8 hown hKK.1 hP 0 rfl rfl 8 (by decide) kl36 (fun _ h9 => h9) rfl dX8_town_96 ?_
          refine lv_iconst (v := 0) hx hb dX8_town_99 (by decide) ?_
          refine lv_aload_n hx hb dX8_town_100 rfl (lv_at hl 0 rfl) ?_
          refine va_get (D := G.1) (ci := 8) (v := .ref m9) (C := RX8) (T := TX8) (N := 29) hx hb hts hinX8 hown hKK.1 hP 0 rfl rfl 8 (by decide) kl36 (fun _ h9 => h9) rfl dX8_town_101 ?_
          refine lv_iconst (v := 2) hx hb dX8_town_104 (by decide) ?_
          refine va_iald hx hb hKK.1 hP 9 0 rfl rfl (by unfold vp_in; decide) dX8_town_105 ?_
          refine va_iast hx hb hKK.1 hP hD hS 9 0 rfl rfl (by unfold vp_in; decide) dX8_town_106 (fun H locs hP hD hS => ?_)
          have hP : va_P G.1 vwCl [(m0, .inr (8, [.ref m1, .ref m2, .ref m3, .ref m4, .ref m5, .ref m6, .ref m7, .ref m8, .ref m9, .int fu, .int fd, .int fi, .int gm012_8, .int gm013_9, .int gm014_10, .int gm015_11, .int gm016_12, .ref m10, .int 0, .int gm019_13, .int gm020_14, .int gm021_15, .int gm022_16, .int gm023_17, .ref m11, .ref m12, .ref m13, .ref m14, .int wr])), aJ G m1 560 mw, aZ G m2 2 ik, aI G m3 20 fm3_1, aI G m4 20 fm4_2, aI G m5 20 fm5_3, aI G m6 20 fm6_4, aI G m7 20 fm7_5, aI G m8 20 fm8_6, aI G m9 4 (upd fm9_7 0 (fm9_7 2)), aI G m10 400 tx, aI G m11 6 th, aI G m12 6 od, aI G m13 30 bk, aI G m14 30 bh] H := hP
          have hD : va_D A [(m0, .inr (8, [.ref m1, .ref m2, .ref m3, .ref m4, .ref m5, .ref m6, .ref m7, .ref m8, .ref m9, .int fu, .int fd, .int fi, .int gm012_8, .int gm013_9, .int gm014_10, .int gm015_11, .int gm016_12, .ref m10, .int 0, .int gm019_13, .int gm020_14, .int gm021_15, .int gm022_16, .int gm023_17, .ref m11, .ref m12, .ref m13, .ref m14, .int wr])), aJ G m1 560 mw, aZ G m2 2 ik, aI G m3 20 fm3_1, aI G m4 20 fm4_2, aI G m5 20 fm5_3, aI G m6 20 fm6_4, aI G m7 20 fm7_5, aI G m8 20 fm8_6, aI G m9 4 (upd fm9_7 0 (fm9_7 2)), aI G m10 400 tx, aI G m11 6 th, aI G m12 6 od, aI G m13 30 bk, aI G m14 30 bh] := hD
          refine lv_aload_n hx hb dX8_town_107 rfl (lv_at hl 0 rfl) ?_
          refine va_get (D := G.1) (ci := 8) (v := .ref m9) (C := RX8) (T := TX8) (N := 29) hx hb hts hinX8 hown hKK.1 hP 0 rfl rfl 8 (by decide) kl36 (fun _ h9 => h9) rfl dX8_town_108 ?_
          refine lv_iconst (v := 1) hx hb dX8_town_111 (by decide) ?_
          refine lv_aload_n hx hb dX8_town_112 rfl (lv_at hl 0 rfl) ?_
          refine va_get (D := G.1) (ci := 8) (v := .ref m9) (C := RX8) (T := TX8) (N := 29) hx hb hts hinX8 hown hKK.1 hP 0 rfl rfl 8 (by decide) kl36 (fun _ h9 => h9) rfl dX8_town_113 ?_
          refine lv_iconst (v := 3) hx hb dX8_town_116 (by decide) ?_
          refine va_iald hx hb hKK.1 hP 9 0 rfl rfl (by unfold vp_in; decide) dX8_town_117 ?_
          refine va_iast hx hb hKK.1 hP hD hS 9 0 rfl rfl (by unfold vp_in; decide) dX8_town_118 (fun H locs hP hD hS => ?_)
          have hP : va_P G.1 vwCl [(m0, .inr (8, [.ref m1, .ref m2, .ref m3, .ref m4, .ref m5, .ref m6, .ref m7, .ref m8, .ref m9, .int fu, .int fd, .int fi, .int gm012_8, .int gm013_9, .int gm014_10, .int gm015_11, .int gm016_12, .ref m10, .int 0, .int gm019_13, .int gm020_14, .int gm021_15, .int gm022_16, .int gm023_17, .ref m11, .ref m12, .ref m13, .ref m14, .int wr])), aJ G m1 560 mw, aZ G m2 2 ik, aI G m3 20 fm3_1, aI G m4 20 fm4_2, aI G m5 20 fm5_3, aI G m6 20 fm6_4, aI G m7 20 fm7_5, aI G m8 20 fm8_6, aI G m9 4 (upd (upd fm9_7 0 (fm9_7 2)) 1 ((upd fm9_7 0 (fm9_7 2)) 3)), aI G m10 400 tx, aI G m11 6 th, aI G m12 6 od, aI G m13 30 bk, aI G m14 30 bh] H := hP
          have hD : va_D A [(m0, .inr (8, [.ref m1, .ref m2, .ref m3, .ref m4, .ref m5, .ref m6, .ref m7, .ref m8, .ref m9, .int fu, .int fd, .int fi, .int gm012_8, .int gm013_9, .int gm014_10, .int gm015_11, .int gm016_12, .ref m10, .int 0, .int gm019_13, .int gm020_14, .int gm021_15, .int gm022_16, .int gm023_17, .ref m11, .ref m12, .ref m13, .ref m14, .int wr])), aJ G m1 560 mw, aZ G m2 2 ik, aI G m3 20 fm3_1, aI G m4 20 fm4_2, aI G m5 20 fm5_3, aI G m6 20 fm6_4, aI G m7 20 fm7_5, aI G m8 20 fm8_6, aI G m9 4 (upd (upd fm9_7 0 (fm9_7 2)) 1 ((upd fm9_7 0 (fm9_7 2)) 3)), aI G m10 400 tx, aI G m11 6 th, aI G m12 6 od, aI G m13 30 bk, aI G m14 30 bh] := hD
          refine lv_aload_n hx hb dX8_town_119 rfl (lv_at hl 0 rfl) ?_
          refine lv_aload_n hx hb dX8_town_120 rfl (lv_at hl 0 rfl) ?_
          refine va_get (D := G.1) (ci := 8) (v := .int gm012_8) (C := RX8) (T := TX8) (N := 29) hx hb hts hinX8 hown hKK.1 hP 0 rfl rfl 12 (by decide) kl131 (fun _ h9 => h9) rfl dX8_town_121 ?_
          refine va_put (D := G.1) (ci := 8) (v := .int gm012_8) (ty := .int) (C := RX8) (T := TX8) (N := 29) hx hb hts hinX8 tyX8 tyX8_ok nmX8 hown hKK.1 hP hD hS 0 rfl rfl 9 (by decide) kl39 (fun _ h9 => h9) rfl (by decide +kernel) rfl rfl (Nat.le_of_ble_eq_true rfl) dX8_town_124 (fun H locs hP hD hS => ?_)
          have hP : va_P G.1 vwCl [(m0, .inr (8, [.ref m1, .ref m2, .ref m3, .ref m4, .ref m5, .ref m6, .ref m7, .ref m8, .ref m9, .int gm012_8, .int fd, .int fi, .int gm012_8, .int gm013_9, .int gm014_10, .int gm015_11, .int gm016_12, .ref m10, .int 0, .int gm019_13, .int gm020_14, .int gm021_15, .int gm022_16, .int gm023_17, .ref m11, .ref m12, .ref m13, .ref m14, .int wr])), aJ G m1 560 mw, aZ G m2 2 ik, aI G m3 20 fm3_1, aI G m4 20 fm4_2, aI G m5 20 fm5_3, aI G m6 20 fm6_4, aI G m7 20 fm7_5, aI G m8 20 fm8_6, aI G m9 4 (upd (upd fm9_7 0 (fm9_7 2)) 1 ((upd fm9_7 0 (fm9_7 2)) 3)), aI G m10 400 tx, aI G m11 6 th, aI G m12 6 od, aI G m13 30 bk, aI G m14 30 bh] H := hP
          have hD : va_D A [(m0, .inr (8, [.ref m1, .ref m2, .ref m3, .ref m4, .ref m5, .ref m6, .ref m7, .ref m8, .ref m9, .int gm012_8, .int fd, .int fi, .int gm012_8, .int gm013_9, .int gm014_10, .int gm015_11, .int gm016_12, .ref m10, .int 0, .int gm019_13, .int gm020_14, .int gm021_15, .int gm022_16, .int gm023_17, .ref m11, .ref m12, .ref m13, .ref m14, .int wr])), aJ G m1 560 mw, aZ G m2 2 ik, aI G m3 20 fm3_1, aI G m4 20 fm4_2, aI G m5 20 fm5_3, aI G m6 20 fm6_4, aI G m7 20 fm7_5, aI G m8 20 fm8_6, aI G m9 4 (upd (upd fm9_7 0 (fm9_7 2)) 1 ((upd fm9_7 0 (fm9_7 2)) 3)), aI G m10 400 tx, aI G m11 6 th, aI G m12 6 od, aI G m13 30 bk, aI G m14 30 bh] := hD
          refine lv_aload_n hx hb dX8_town_127 rfl (lv_at hl 0 rfl) ?_
          refine lv_aload_n hx hb dX8_town_128 rfl (lv_at hl 0 rfl) ?_
          refine va_get (D := G.1) (ci := 8) (v := .int gm013_9) (C := RX8) (T := TX8) (N := 29) hx hb hts hinX8 hown hKK.1 hP 0 rfl rfl 13 (by decide) kl134 (fun _ h9 => h9) rfl dX8_town_129 ?_
          refine va_put (D := G.1) (ci := 8) (v := .int gm013_9) (ty := .int) (C := RX8) (T := TX8) (N := 29) hx hb hts hinX8 tyX8 tyX8_ok nmX8 hown hKK.1 hP hD hS 0 rfl rfl 10 (by decide) kl43 (fun _ h9 => h9) rfl (by decide +kernel) rfl rfl (Nat.le_of_ble_eq_true rfl) dX8_town_132 (fun H locs hP hD hS => ?_)
          have hP : va_P G.1 vwCl [(m0, .inr (8, [.ref m1, .ref m2, .ref m3, .ref m4, .ref m5, .ref m6, .ref m7, .ref m8, .ref m9, .int gm012_8, .int gm013_9, .int fi, .int gm012_8, .int gm013_9, .int gm014_10, .int gm015_11, .int gm016_12, .ref m10, .int 0, .int gm019_13, .int gm020_14, .int gm021_15, .int gm022_16, .int gm023_17, .ref m11, .ref m12, .ref m13, .ref m14, .int wr])), aJ G m1 560 mw, aZ G m2 2 ik, aI G m3 20 fm3_1, aI G m4 20 fm4_2, aI G m5 20 fm5_3, aI G m6 20 fm6_4, aI G m7 20 fm7_5, aI G m8 20 fm8_6, aI G m9 4 (upd (upd fm9_7 0 (fm9_7 2)) 1 ((upd fm9_7 0 (fm9_7 2)) 3)), aI G m10 400 tx, aI G m11 6 th, aI G m12 6 od, aI G m13 30 bk, aI G m14 30 bh] H := hP
          have hD : va_D A [(m0, .inr (8, [.ref m1, .ref m2, .ref m3, .ref m4, .ref m5, .ref m6, .ref m7, .ref m8, .ref m9, .int gm012_8, .int gm013_9, .int fi, .int gm012_8, .int gm013_9, .int gm014_10, .int gm015_11, .int gm016_12, .ref m10, .int 0, .int gm019_13, .int gm020_14, .int gm021_15, .int gm022_16, .int gm023_17, .ref m11, .ref m12, .ref m13, .ref m14, .int wr])), aJ G m1 560 mw, aZ G m2 2 ik, aI G m3 20 fm3_1, aI G m4 20 fm4_2, aI G m5 20 fm5_3, aI G m6 20 fm6_4, aI G m7 20 fm7_5, aI G m8 20 fm8_6, aI G m9 4 (upd (upd fm9_7 0 (fm9_7 2)) 1 ((upd fm9_7 0 (fm9_7 2)) 3)), aI G m10 400 tx, aI G m11 6 th, aI G m12 6 od, aI G m13 30 bk, aI G m14 30 bh] := hD
          refine lv_aload_n hx hb dX8_town_135 rfl (lv_at hl 0 rfl) ?_
          refine lv_aload_n hx hb dX8_town_136 rfl (lv_at hl 0 rfl) ?_
          refine va_get (D := G.1) (ci := 8) (v := .int gm014_10) (C := RX8) (T := TX8) (N := 29) hx hb hts hinX8 hown hKK.1 hP 0 rfl rfl 14 (by decide) kl140 (fun _ h9 => h9) rfl dX8_town_137 ?_
          refine va_put (D := G.1) (ci := 8) (v := .int gm014_10) (ty := .int) (C := RX8) (T := TX8) (N := 29) hx hb hts hinX8 tyX8 tyX8_ok nmX8 hown hKK.1 hP hD hS 0 rfl rfl 11 (by decide) kl146 (fun _ h9 => h9) rfl (by decide +kernel) rfl rfl (Nat.le_of_ble_eq_true rfl) dX8_town_140 (fun H locs hP hD hS => ?_)
          have hP : va_P G.1 vwCl [(m0, .inr (8, [.ref m1, .ref m2, .ref m3, .ref m4, .ref m5, .ref m6, .ref m7, .ref m8, .ref m9, .int gm012_8, .int gm013_9, .int gm014_10, .int gm012_8, .int gm013_9, .int gm014_10, .int gm015_11, .int gm016_12, .ref m10, .int 0, .int gm019_13, .int gm020_14, .int gm021_15, .int gm022_16, .int gm023_17, .ref m11, .ref m12, .ref m13, .ref m14, .int wr])), aJ G m1 560 mw, aZ G m2 2 ik, aI G m3 20 fm3_1, aI G m4 20 fm4_2, aI G m5 20 fm5_3, aI G m6 20 fm6_4, aI G m7 20 fm7_5, aI G m8 20 fm8_6, aI G m9 4 (upd (upd fm9_7 0 (fm9_7 2)) 1 ((upd fm9_7 0 (fm9_7 2)) 3)), aI G m10 400 tx, aI G m11 6 th, aI G m12 6 od, aI G m13 30 bk, aI G m14 30 bh] H := hP
          have hD : va_D A [(m0, .inr (8, [.ref m1, .ref m2, .ref m3, .ref m4, .ref m5, .ref m6, .ref m7, .ref m8, .ref m9, .int gm012_8, .int gm013_9, .int gm014_10, .int gm012_8, .int gm013_9, .int gm014_10, .int gm015_11, .int gm016_12, .ref m10, .int 0, .int gm019_13, .int gm020_14, .int gm021_15, .int gm022_16, .int gm023_17, .ref m11, .ref m12, .ref m13, .ref m14, .int wr])), aJ G m1 560 mw, aZ G m2 2 ik, aI G m3 20 fm3_1, aI G m4 20 fm4_2, aI G m5 20 fm5_3, aI G m6 20 fm6_4, aI G m7 20 fm7_5, aI G m8 20 fm8_6, aI G m9 4 (upd (upd fm9_7 0 (fm9_7 2)) 1 ((upd fm9_7 0 (fm9_7 2)) 3)), aI G m10 400 tx, aI G m11 6 th, aI G m12 6 od, aI G m13 30 bk, aI G m14 30 bh] := hD
          refine lv_iconst (v := 0) hx hb dX8_town_143 (by decide) ?_
          refine lv_istore_n (lv' := [(1, .int 0), (0, .ref m0)]) hx hb dX8_town_144 rfl hl (by decide) rfl (fun ls hl => ?_)
          obtain ⟨I145_31, μ145_32, hi0, hs_38⟩ := hv
          have Lm_40 : ∀ (n_39 : Nat) (fm3_24 : (Nat → Int32)) (fm4_25 : (Nat → Int32)) (fm5_26 : (Nat → Int32)) (fm6_27 : (Nat → Int32)) (fm7_28 : (Nat → Int32)) (fm8_29 : (Nat → Int32)) (x1_30 : Int32) (H : Heap) (locs : List Loc) (ls : Array Slot), μ145_32 fm3_24 fm4_25 fm5_26 fm6_27 fm7_28 fm8_29 x1_30 < n_39 → I145_31 fm3_24 fm4_25 fm5_26 fm6_27 fm7_28 fm8_29 x1_30 → va_P G.1 vwCl [(m0, .inr (8, [.ref m1, .ref m2, .ref m3, .ref m4, .ref m5, .ref m6, .ref m7, .ref m8, .ref m9, .int gm012_8, .int gm013_9, .int gm014_10, .int gm012_8, .int gm013_9, .int gm014_10, .int gm015_11, .int gm016_12, .ref m10, .int 0, .int gm019_13, .int gm020_14, .int gm021_15, .int gm022_16, .int gm023_17, .ref m11, .ref m12, .ref m13, .ref m14, .int wr])), aJ G m1 560 mw, aZ G m2 2 ik, aI G m3 20 fm3_24, aI G m4 20 fm4_25, aI G m5 20 fm5_26, aI G m6 20 fm6_27, aI G m7 20 fm7_28, aI G m8 20 fm8_29, aI G m9 4 (upd (upd fm9_7 0 (fm9_7 2)) 1 ((upd fm9_7 0 (fm9_7 2)) 3)), aI G m10 400 tx, aI G m11 6 th, aI G m12 6 od, aI G m13 30 bk, aI G m14 30 bh] H → va_D A [(m0, .inr (8, [.ref m1, .ref m2, .ref m3, .ref m4, .ref m5, .ref m6, .ref m7, .ref m8, .ref m9, .int gm012_8, .int gm013_9, .int gm014_10, .int gm012_8, .int gm013_9, .int gm014_10, .int gm015_11, .int gm016_12, .ref m10, .int 0, .int gm019_13, .int gm020_14, .int gm021_15, .int gm022_16, .int gm023_17, .ref m11, .ref m12, .ref m13, .ref m14, .int wr])), aJ G m1 560 mw, aZ G m2 2 ik, aI G m3 20 fm3_24, aI G m4 20 fm4_25, aI G m5 20 fm5_26, aI G m6 20 fm6_27, aI G m7 20 fm7_28, aI G m8 20 fm8_29, aI G m9 4 (upd (upd fm9_7 0 (fm9_7 2)) 1 ((upd fm9_7 0 (fm9_7 2)) 3)), aI G m10 400 tx, aI G m11 6 th, aI G m12 6 od, aI G m13 30 bk, aI G m14 30 bh] → va_S A s.heap H locs → lv_has ls 2 [(1, .int x1_30), (0, .ref m0)] → W p l e R s m args below meth c H locs 0 0 Q (F0 m 145 ls []) := by
            intro n_39
            induction n_39 with
            | zero => intro fm3_24 fm4_25 fm5_26 fm6_27 fm7_28 fm8_29 x1_30 H locs ls hm; exact absurd hm (Nat.not_lt_zero _)
            | succ n_39 ih_33 =>
              intro fm3_24 fm4_25 fm5_26 fm6_27 fm7_28 fm8_29 x1_30 H locs ls hI_34 hi hP hD hS hl
              have hv := hs_38 fm3_24 fm4_25 fm5_26 fm6_27 fm7_28 fm8_29 x1_30 hi
              refine lv_iload_n hx hb dX8_town_145 rfl (lv_at hl 0 rfl) ?_
              refine lv_bipush (v := 10) hx hb dX8_town_146 (by decide) ?_
              refine lv_icmp_ge (tgt := 247) hx hb dX8_town_148 (by decide) (fun hc_35 => ?_) (fun hc_35 => ?_)
              · have hv := hv.1 hc_35
                refine lv_aload_n hx hb dX8_town_247 rfl (lv_at hl 1 rfl) ?_
                obtain ⟨hp, hv⟩ := hv
                refine x_callv (wr := []) (w' := fun (u : (Nat → Int64)) => [(m0, .inr (8, [.ref m1, .ref m2, .ref m3, .ref m4, .ref m5, .ref m6, .ref m7, .ref m8, .ref m9, .int gm012_8, .int gm013_9, .int gm014_10, .int gm012_8, .int gm013_9, .int gm014_10, .int gm015_11, .int gm016_12, .ref m10, .int 0, .int gm019_13, .int gm020_14, .int gm021_15, .int gm022_16, .int gm023_17, .ref m11, .ref m12, .ref m13, .ref m14, .int wr])), aJ G m1 560 u, aZ G m2 2 ik, aI G m3 20 fm3_24, aI G m4 20 fm4_25, aI G m5 20 fm5_26, aI G m6 20 fm6_27, aI G m7 20 fm7_28, aI G m8 20 fm8_29, aI G m9 4 (upd (upd fm9_7 0 (fm9_7 2)) 1 ((upd fm9_7 0 (fm9_7 2)) 3)), aI G m10 400 tx, aI G m11 6 th, aI G m12 6 od, aI G m13 30 bk, aI G m14 30 bh]) (x_runV (As := []) (rest := []) (n := 0) (C := RX8) (ci := 8) ⟨hx, hb, hml, hown, hts⟩ (k_X8_begin l G m0 m1 m2 m3 m4 m5 m6 m7 m8 m9 m10 m11 m12 m13 m14 _ mw ik fm3_24 fm4_25 fm5_26 fm6_27 fm7_28 fm8_29 (upd (upd fm9_7 0 (fm9_7 2)) 1 ((upd fm9_7 0 (fm9_7 2)) 3)) tx th od bk bh gm012_8 gm013_9 gm014_10 gm012_8 gm013_9 gm014_10 gm015_11 gm016_12 0 gm019_13 gm020_14 gm021_15 gm022_16 gm023_17 wr hp) gX8_town_X8_begin rfl (by decide +kernel) ⟨Nat.le_trans (Nat.le_of_ble_eq_true rfl) hRf, Nat.le_trans (Nat.le_of_ble_eq_true rfl) hRl⟩ hKK hSS hS hA hP hD [0, 1, 2, 3, 4, 5, 6, 7, 8, 9, 10, 11, 12, 13, 14] (by decide) rfl rfl rfl 0 rfl rfl hl.1 rfl (Nat.le_of_ble_eq_true rfl) dX8_town_248) hP hD hS hA [0, 1, 2, 3, 4, 5, 6, 7, 8, 9, 10, 11, 12, 13, 14] [] [0, 1, 2, 3, 4, 5, 6, 7, 8, 9, 10, 11, 12, 13, 14] rfl rfl (by decide) (by decide) (by decide) (fun _ => rfl) (fun  u H locs hw hP hD hS => ?_)
                obtain ⟨mw2_37, rfl⟩ : ∃ z, z = u := ⟨_, rfl⟩
                have hP : va_P G.1 vwCl [(m0, .inr (8, [.ref m1, .ref m2, .ref m3, .ref m4, .ref m5, .ref m6, .ref m7, .ref m8, .ref m9, .int gm012_8, .int gm013_9, .int gm014_10, .int gm012_8, .int gm013_9, .int gm014_10, .int gm015_11, .int gm016_12, .ref m10, .int 0, .int gm019_13, .int gm020_14, .int gm021_15, .int gm022_16, .int gm023_17, .ref m11, .ref m12, .ref m13, .ref m14, .int wr])), aJ G m1 560 mw2_37, aZ G m2 2 ik, aI G m3 20 fm3_24, aI G m4 20 fm4_25, aI G m5 20 fm5_26, aI G m6 20 fm6_27, aI G m7 20 fm7_28, aI G m8 20 fm8_29, aI G m9 4 (upd (upd fm9_7 0 (fm9_7 2)) 1 ((upd fm9_7 0 (fm9_7 2)) 3)), aI G m10 400 tx, aI G m11 6 th, aI G m12 6 od, aI G m13 30 bk, aI G m14 30 bh] H := hP
                have hD : va_D A [(m0, .inr (8, [.ref m1, .ref m2, .ref m3, .ref m4, .ref m5, .ref m6, .ref m7, .ref m8, .ref m9, .int gm012_8, .int gm013_9, .int gm014_10, .int gm012_8, .int gm013_9, .int gm014_10, .int gm015_11, .int gm016_12, .ref m10, .int 0, .int gm019_13, .int gm020_14, .int gm021_15, .int gm022_16, .int gm023_17, .ref m11, .ref m12, .ref m13, .ref m14, .int wr])), aJ G m1 560 mw2_37, aZ G m2 2 ik, aI G m3 20 fm3_24, aI G m4 20 fm4_25, aI G m5 20 fm5_26, aI G m6 20 fm6_27, aI G m7 20 fm7_28, aI G m8 20 fm8_29, aI G m9 4 (upd (upd fm9_7 0 (fm9_7 2)) 1 ((upd fm9_7 0 (fm9_7 2)) 3)), aI G m10 400 tx, aI G m11 6 th, aI G m12 6 od, aI G m13 30 bk, aI G m14 30 bh] := hD
                have hv := hv mw2_37 hw
                refine lv_aload_n hx hb dX8_town_251 rfl (lv_at hl 1 rfl) ?_
                refine lv_iconst (v := 0) hx hb dX8_town_252 (by decide) ?_
                refine va_put (D := G.1) (ci := 8) (v := .int 0) (ty := .int) (C := RX8) (T := TX8) (N := 29) hx hb hts hinX8 tyX8 tyX8_ok nmX8 hown hKK.1 hP hD hS 0 rfl rfl 28 (by decide) kl149 (fun _ h9 => h9) rfl (by decide +kernel) rfl rfl (Nat.le_of_ble_eq_true rfl) dX8_town_253 (fun H locs hP hD hS => ?_)
                have hP : va_P G.1 vwCl [(m0, .inr (8, [.ref m1, .ref m2, .ref m3, .ref m4, .ref m5, .ref m6, .ref m7, .ref m8, .ref m9, .int gm012_8, .int gm013_9, .int gm014_10, .int gm012_8, .int gm013_9, .int gm014_10, .int gm015_11, .int gm016_12, .ref m10, .int 0, .int gm019_13, .int gm020_14, .int gm021_15, .int gm022_16, .int gm023_17, .ref m11, .ref m12, .ref m13, .ref m14, .int 0])), aJ G m1 560 mw2_37, aZ G m2 2 ik, aI G m3 20 fm3_24, aI G m4 20 fm4_25, aI G m5 20 fm5_26, aI G m6 20 fm6_27, aI G m7 20 fm7_28, aI G m8 20 fm8_29, aI G m9 4 (upd (upd fm9_7 0 (fm9_7 2)) 1 ((upd fm9_7 0 (fm9_7 2)) 3)), aI G m10 400 tx, aI G m11 6 th, aI G m12 6 od, aI G m13 30 bk, aI G m14 30 bh] H := hP
                have hD : va_D A [(m0, .inr (8, [.ref m1, .ref m2, .ref m3, .ref m4, .ref m5, .ref m6, .ref m7, .ref m8, .ref m9, .int gm012_8, .int gm013_9, .int gm014_10, .int gm012_8, .int gm013_9, .int gm014_10, .int gm015_11, .int gm016_12, .ref m10, .int 0, .int gm019_13, .int gm020_14, .int gm021_15, .int gm022_16, .int gm023_17, .ref m11, .ref m12, .ref m13, .ref m14, .int 0])), aJ G m1 560 mw2_37, aZ G m2 2 ik, aI G m3 20 fm3_24, aI G m4 20 fm4_25, aI G m5 20 fm5_26, aI G m6 20 fm6_27, aI G m7 20 fm7_28, aI G m8 20 fm8_29, aI G m9 4 (upd (upd fm9_7 0 (fm9_7 2)) 1 ((upd fm9_7 0 (fm9_7 2)) 3)), aI G m10 400 tx, aI G m11 6 th, aI G m12 6 od, aI G m13 30 bk, aI G m14 30 bh] := hD
                refine lv_aload_n hx hb dX8_town_256 rfl (lv_at hl 1 rfl) ?_
                refine va_get (D := G.1) (ci := 8) (v := .ref m2) (C := RX8) (T := TX8) (N := 29) hx hb hts hinX8 hown hKK.1 hP 0 rfl rfl 1 (by decide) kl13 (fun _ h9 => h9) rfl dX8_town_257 ?_
                refine lv_iconst (v := 0) hx hb dX8_town_260 (by decide) ?_
                refine lv_iconst (v := 0) hx hb dX8_town_261 (by decide) ?_
                refine va_zast hx hb hKK.1 hP hD hS 2 3 rfl rfl (by unfold vp_in; decide) dX8_town_262 (fun H locs hP hD hS => ?_)
                have hP : va_P G.1 vwCl [(m0, .inr (8, [.ref m1, .ref m2, .ref m3, .ref m4, .ref m5, .ref m6, .ref m7, .ref m8, .ref m9, .int gm012_8, .int gm013_9, .int gm014_10, .int gm012_8, .int gm013_9, .int gm014_10, .int gm015_11, .int gm016_12, .ref m10, .int 0, .int gm019_13, .int gm020_14, .int gm021_15, .int gm022_16, .int gm023_17, .ref m11, .ref m12, .ref m13, .ref m14, .int 0])), aJ G m1 560 mw2_37, aZ G m2 2 (upd ik 0 (vp_nar .boolean 0)), aI G m3 20 fm3_24, aI G m4 20 fm4_25, aI G m5 20 fm5_26, aI G m6 20 fm6_27, aI G m7 20 fm7_28, aI G m8 20 fm8_29, aI G m9 4 (upd (upd fm9_7 0 (fm9_7 2)) 1 ((upd fm9_7 0 (fm9_7 2)) 3)), aI G m10 400 tx, aI G m11 6 th, aI G m12 6 od, aI G m13 30 bk, aI G m14 30 bh] H := hP
                have hD : va_D A [(m0, .inr (8, [.ref m1, .ref m2, .ref m3, .ref m4, .ref m5, .ref m6, .ref m7, .ref m8, .ref m9, .int gm012_8, .int gm013_9, .int gm014_10, .int gm012_8, .int gm013_9, .int gm014_10, .int gm015_11, .int gm016_12, .ref m10, .int 0, .int gm019_13, .int gm020_14, .int gm021_15, .int gm022_16, .int gm023_17, .ref m11, .ref m12, .ref m13, .ref m14, .int 0])), aJ G m1 560 mw2_37, aZ G m2 2 (upd ik 0 (vp_nar .boolean 0)), aI G m3 20 fm3_24, aI G m4 20 fm4_25, aI G m5 20 fm5_26, aI G m6 20 fm6_27, aI G m7 20 fm7_28, aI G m8 20 fm8_29, aI G m9 4 (upd (upd fm9_7 0 (fm9_7 2)) 1 ((upd fm9_7 0 (fm9_7 2)) 3)), aI G m10 400 tx, aI G m11 6 th, aI G m12 6 od, aI G m13 30 bk, aI G m14 30 bh] := hD
                refine lv_aload_n hx hb dX8_town_263 rfl (lv_at hl 1 rfl) ?_
                refine va_get (D := G.1) (ci := 8) (v := .ref m2) (C := RX8) (T := TX8) (N := 29) hx hb hts hinX8 hown hKK.1 hP 0 rfl rfl 1 (by decide) kl13 (fun _ h9 => h9) rfl dX8_town_264 ?_
                refine lv_iconst (v := 1) hx hb dX8_town_267 (by decide) ?_
                refine lv_iconst (v := 0) hx hb dX8_town_268 (by decide) ?_
                refine va_zast hx hb hKK.1 hP hD hS 2 3 rfl rfl (by unfold vp_in; decide) dX8_town_269 (fun H locs hP hD hS => ?_)
                have hP : va_P G.1 vwCl [(m0, .inr (8, [.ref m1, .ref m2, .ref m3, .ref m4, .ref m5, .ref m6, .ref m7, .ref m8, .ref m9, .int gm012_8, .int gm013_9, .int gm014_10, .int gm012_8, .int gm013_9, .int gm014_10, .int gm015_11, .int gm016_12, .ref m10, .int 0, .int gm019_13, .int gm020_14, .int gm021_15, .int gm022_16, .int gm023_17, .ref m11, .ref m12, .ref m13, .ref m14, .int 0])), aJ G m1 560 mw2_37, aZ G m2 2 (upd (upd ik 0 (vp_nar .boolean 0)) 1 (vp_nar .boolean 0)), aI G m3 20 fm3_24, aI G m4 20 fm4_25, aI G m5 20 fm5_26, aI G m6 20 fm6_27, aI G m7 20 fm7_28, aI G m8 20 fm8_29, aI G m9 4 (upd (upd fm9_7 0 (fm9_7 2)) 1 ((upd fm9_7 0 (fm9_7 2)) 3)), aI G m10 400 tx, aI G m11 6 th, aI G m12 6 od, aI G m13 30 bk, aI G m14 30 bh] H := hP
                have hD : va_D A [(m0, .inr (8, [.ref m1, .ref m2, .ref m3, .ref m4, .ref m5, .ref m6, .ref m7, .ref m8, .ref m9, .int gm012_8, .int gm013_9, .int gm014_10, .int gm012_8, .int gm013_9, .int gm014_10, .int gm015_11, .int gm016_12, .ref m10, .int 0, .int gm019_13, .int gm020_14, .int gm021_15, .int gm022_16, .int gm023_17, .ref m11, .ref m12, .ref m13, .ref m14, .int 0])), aJ G m1 560 mw2_37, aZ G m2 2 (upd (upd ik 0 (vp_nar .boolean 0)) 1 (vp_nar .boolean 0)), aI G m3 20 fm3_24, aI G m4 20 fm4_25, aI G m5 20 fm5_26, aI G m6 20 fm6_27, aI G m7 20 fm7_28, aI G m8 20 fm8_29, aI G m9 4 (upd (upd fm9_7 0 (fm9_7 2)) 1 ((upd fm9_7 0 (fm9_7 2)) 3)), aI G m10 400 tx, aI G m11 6 th, aI G m12 6 od, aI G m13 30 bk, aI G m14 30 bh] := hD
                refine lv_aload_n hx hb dX8_town_270 rfl (lv_at hl 1 rfl) ?_
                refine va_get (D := G.1) (ci := 8) (v := .ref m9) (C := RX8) (T := TX8) (N := 29) hx hb hts hinX8 hown hKK.1 hP 0 rfl rfl 8 (by decide) kl36 (fun _ h9 => h9) rfl dX8_town_271 ?_
                refine lv_iconst (v := 0) hx hb dX8_town_274 (by decide) ?_
                refine va_iald hx hb hKK.1 hP 9 0 rfl rfl (by unfold vp_in; decide) dX8_town_275 ?_
                exact x_iret (v := ((upd (upd fm9_7 0 (fm9_7 2)) 1 ((upd fm9_7 0 (fm9_7 2)) 3)) 0)) (mw2_37, (upd (upd ik 0 (vp_nar .boolean 0)) 1 (vp_nar .boolean 0)), fm3_24, fm4_25, fm5_26, fm6_27, fm7_28, fm8_29, (upd (upd fm9_7 0 (fm9_7 2)) 1 ((upd fm9_7 0 (fm9_7 2)) 3)), gm012_8, gm013_9, gm014_10, gm012_8, gm013_9, gm014_10, gm015_11, gm016_12, 0, gm019_13, gm020_14, gm021_15, gm022_16, gm023_17, 0) hQ hx hb hr hlocks hS dX8_town_276 hv hP hD
              · have hv := hv.2 hc_35
                refine lv_aload_n hx hb dX8_town_151 rfl (lv_at hl 1 rfl) ?_
                refine va_get (D := G.1) (ci := 8) (v := .ref m3) (C := RX8) (T := TX8) (N := 29) hx hb hts hinX8 hown hKK.1 hP 0 rfl rfl 2 (by decide) kl17 (fun _ h9 => h9) rfl dX8_town_152 ?_
                refine lv_iload_n hx hb dX8_town_155 rfl (lv_at hl 0 rfl) ?_
                refine lv_aload_n hx hb dX8_town_156 rfl (lv_at hl 1 rfl) ?_
                refine va_get (D := G.1) (ci := 8) (v := .ref m3) (C := RX8) (T := TX8) (N := 29) hx hb hts hinX8 hown hKK.1 hP 0 rfl rfl 2 (by decide) kl17 (fun _ h9 => h9) rfl dX8_town_157 ?_
                refine lv_bipush (v := 10) hx hb dX8_town_160 (by decide) ?_
                refine lv_iload_n hx hb dX8_town_162 rfl (lv_at hl 0 rfl) ?_
                refine lv_iadd hx hb dX8_town_163 ?_
                obtain ⟨hin, hv⟩ := hv
                refine va_iald hx hb hKK.1 hP 3 0 rfl rfl hin dX8_town_164 ?_
                obtain ⟨hin, hv⟩ := hv
                refine va_iast hx hb hKK.1 hP hD hS 3 0 rfl rfl hin dX8_town_165 (fun H locs hP hD hS => ?_)
                have hP : va_P G.1 vwCl [(m0, .inr (8, [.ref m1, .ref m2, .ref m3, .ref m4, .ref m5, .ref m6, .ref m7, .ref m8, .ref m9, .int gm012_8, .int gm013_9, .int gm014_10, .int gm012_8, .int gm013_9, .int gm014_10, .int gm015_11, .int gm016_12, .ref m10, .int 0, .int gm019_13, .int gm020_14, .int gm021_15, .int gm022_16, .int gm023_17, .ref m11, .ref m12, .ref m13, .ref m14, .int wr])), aJ G m1 560 mw, aZ G m2 2 ik, aI G m3 20 (upd fm3_24 x1_30.toNatClampNeg (fm3_24 (10 + x1_30).toNatClampNeg)), aI G m4 20 fm4_25, aI G m5 20 fm5_26, aI G m6 20 fm6_27, aI G m7 20 fm7_28, aI G m8 20 fm8_29, aI G m9 4 (upd (upd fm9_7 0 (fm9_7 2)) 1 ((upd fm9_7 0 (fm9_7 2)) 3)), aI G m10 400 tx, aI G m11 6 th, aI G m12 6 od, aI G m13 30 bk, aI G m14 30 bh] H := hP
                have hD : va_D A [(m0, .inr (8, [.ref m1, .ref m2, .ref m3, .ref m4, .ref m5, .ref m6, .ref m7, .ref m8, .ref m9, .int gm012_8, .int gm013_9, .int gm014_10, .int gm012_8, .int gm013_9, .int gm014_10, .int gm015_11, .int gm016_12, .ref m10, .int 0, .int gm019_13, .int gm020_14, .int gm021_15, .int gm022_16, .int gm023_17, .ref m11, .ref m12, .ref m13, .ref m14, .int wr])), aJ G m1 560 mw, aZ G m2 2 ik, aI G m3 20 (upd fm3_24 x1_30.toNatClampNeg (fm3_24 (10 + x1_30).toNatClampNeg)), aI G m4 20 fm4_25, aI G m5 20 fm5_26, aI G m6 20 fm6_27, aI G m7 20 fm7_28, aI G m8 20 fm8_29, aI G m9 4 (upd (upd fm9_7 0 (fm9_7 2)) 1 ((upd fm9_7 0 (fm9_7 2)) 3)), aI G m10 400 tx, aI G m11 6 th, aI G m12 6 od, aI G m13 30 bk, aI G m14 30 bh] := hD
                refine lv_aload_n hx hb dX8_town_166 rfl (lv_at hl 1 rfl) ?_
                refine va_get (D := G.1) (ci := 8) (v := .ref m4) (C := RX8) (T := TX8) (N := 29) hx hb hts hinX8 hown hKK.1 hP 0 rfl rfl 3 (by decide) kl21 (fun _ h9 => h9) rfl dX8_town_167 ?_
                refine lv_iload_n hx hb dX8_town_170 rfl (lv_at hl 0 rfl) ?_
                refine lv_aload_n hx hb dX8_town_171 rfl (lv_at hl 1 rfl) ?_
                refine va_get (D := G.1) (ci := 8) (v := .ref m4) (C := RX8) (T := TX8) (N := 29) hx hb hts hinX8 hown hKK.1 hP 0 rfl rfl 3 (by decide) kl21 (fun _ h9 => h9) rfl dX8_town_172 ?_
                refine lv_bipush (v := 10) hx hb dX8_town_175 (by decide) ?_
                refine lv_iload_n hx hb dX8_town_177 rfl (lv_at hl 0 rfl) ?_
                refine lv_iadd hx hb dX8_town_178 ?_
                obtain ⟨hin, hv⟩ := hv
                refine va_iald hx hb hKK.1 hP 4 0 rfl rfl hin dX8_town_179 ?_
                obtain ⟨hin, hv⟩ := hv
                refine va_iast hx hb hKK.1 hP hD hS 4 0 rfl rfl hin dX8_town_180 (fun H locs hP hD hS => ?_)
                have hP : va_P G.1 vwCl [(m0, .inr (8, [.ref m1, .ref m2, .ref m3, .ref m4, .ref m5, .ref m6, .ref m7, .ref m8, .ref m9, .int gm012_8, .int gm013_9, .int gm014_10, .int gm012_8, .int gm013_9, .int gm014_10, .int gm015_11, .int gm016_12, .ref m10, .int 0, .int gm019_13, .int gm020_14, .int gm021_15, .int gm022_16, .int gm023_17, .ref m11, .ref m12, .ref m13, .ref m14, .int wr])), aJ G m1 560 mw, aZ G m2 2 ik, aI G m3 20 (upd fm3_24 x1_30.toNatClampNeg (fm3_24 (10 + x1_30).toNatClampNeg)), aI G m4 20 (upd fm4_25 x1_30.toNatClampNeg (fm4_25 (10 + x1_30).toNatClampNeg)), aI G m5 20 fm5_26, aI G m6 20 fm6_27, aI G m7 20 fm7_28, aI G m8 20 fm8_29, aI G m9 4 (upd (upd fm9_7 0 (fm9_7 2)) 1 ((upd fm9_7 0 (fm9_7 2)) 3)), aI G m10 400 tx, aI G m11 6 th, aI G m12 6 od, aI G m13 30 bk, aI G m14 30 bh] H := hP
                have hD : va_D A [(m0, .inr (8, [.ref m1, .ref m2, .ref m3, .ref m4, .ref m5, .ref m6, .ref m7, .ref m8, .ref m9, .int gm012_8, .int gm013_9, .int gm014_10, .int gm012_8, .int gm013_9, .int gm014_10, .int gm015_11, .int gm016_12, .ref m10, .int 0, .int gm019_13, .int gm020_14, .int gm021_15, .int gm022_16, .int gm023_17, .ref m11, .ref m12, .ref m13, .ref m14, .int wr])), aJ G m1 560 mw, aZ G m2 2 ik, aI G m3 20 (upd fm3_24 x1_30.toNatClampNeg (fm3_24 (10 + x1_30).toNatClampNeg)), aI G m4 20 (upd fm4_25 x1_30.toNatClampNeg (fm4_25 (10 + x1_30).toNatClampNeg)), aI G m5 20 fm5_26, aI G m6 20 fm6_27, aI G m7 20 fm7_28, aI G m8 20 fm8_29, aI G m9 4 (upd (upd fm9_7 0 (fm9_7 2)) 1 ((upd fm9_7 0 (fm9_7 2)) 3)), aI G m10 400 tx, aI G m11 6 th, aI G m12 6 od, aI G m13 30 bk, aI G m14 30 bh] := hD
                refine lv_aload_n hx hb dX8_town_181 rfl (lv_at hl 1 rfl) ?_
                refine va_get (D := G.1) (ci := 8) (v := .ref m5) (C := RX8) (T := TX8) (N := 29) hx hb hts hinX8 hown hKK.1 hP 0 rfl rfl 4 (by decide) kl24 (fun _ h9 => h9) rfl dX8_town_182 ?_
                refine lv_iload_n hx hb dX8_town_185 rfl (lv_at hl 0 rfl) ?_
                refine lv_aload_n hx hb dX8_town_186 rfl (lv_at hl 1 rfl) ?_
                refine va_get (D := G.1) (ci := 8) (v := .ref m5) (C := RX8) (T := TX8) (N := 29) hx hb hts hinX8 hown hKK.1 hP 0 rfl rfl 4 (by decide) kl24 (fun _ h9 => h9) rfl dX8_town_187 ?_
                refine lv_bipush (v := 10) hx hb dX8_town_190 (by decide) ?_
                refine lv_iload_n hx hb dX8_town_192 rfl (lv_at hl 0 rfl) ?_
                refine lv_iadd hx hb dX8_town_193 ?_
                obtain ⟨hin, hv⟩ := hv
                refine va_iald hx hb hKK.1 hP 5 0 rfl rfl hin dX8_town_194 ?_
                obtain ⟨hin, hv⟩ := hv
                refine va_iast hx hb hKK.1 hP hD hS 5 0 rfl rfl hin dX8_town_195 (fun H locs hP hD hS => ?_)
                have hP : va_P G.1 vwCl [(m0, .inr (8, [.ref m1, .ref m2, .ref m3, .ref m4, .ref m5, .ref m6, .ref m7, .ref m8, .ref m9, .int gm012_8, .int gm013_9, .int gm014_10, .int gm012_8, .int gm013_9, .int gm014_10, .int gm015_11, .int gm016_12, .ref m10, .int 0, .int gm019_13, .int gm020_14, .int gm021_15, .int gm022_16, .int gm023_17, .ref m11, .ref m12, .ref m13, .ref m14, .int wr])), aJ G m1 560 mw, aZ G m2 2 ik, aI G m3 20 (upd fm3_24 x1_30.toNatClampNeg (fm3_24 (10 + x1_30).toNatClampNeg)), aI G m4 20 (upd fm4_25 x1_30.toNatClampNeg (fm4_25 (10 + x1_30).toNatClampNeg)), aI G m5 20 (upd fm5_26 x1_30.toNatClampNeg (fm5_26 (10 + x1_30).toNatClampNeg)), aI G m6 20 fm6_27, aI G m7 20 fm7_28, aI G m8 20 fm8_29, aI G m9 4 (upd (upd fm9_7 0 (fm9_7 2)) 1 ((upd fm9_7 0 (fm9_7 2)) 3)), aI G m10 400 tx, aI G m11 6 th, aI G m12 6 od, aI G m13 30 bk, aI G m14 30 bh] H := hP
                have hD : va_D A [(m0, .inr (8, [.ref m1, .ref m2, .ref m3, .ref m4, .ref m5, .ref m6, .ref m7, .ref m8, .ref m9, .int gm012_8, .int gm013_9, .int gm014_10, .int gm012_8, .int gm013_9, .int gm014_10, .int gm015_11, .int gm016_12, .ref m10, .int 0, .int gm019_13, .int gm020_14, .int gm021_15, .int gm022_16, .int gm023_17, .ref m11, .ref m12, .ref m13, .ref m14, .int wr])), aJ G m1 560 mw, aZ G m2 2 ik, aI G m3 20 (upd fm3_24 x1_30.toNatClampNeg (fm3_24 (10 + x1_30).toNatClampNeg)), aI G m4 20 (upd fm4_25 x1_30.toNatClampNeg (fm4_25 (10 + x1_30).toNatClampNeg)), aI G m5 20 (upd fm5_26 x1_30.toNatClampNeg (fm5_26 (10 + x1_30).toNatClampNeg)), aI G m6 20 fm6_27, aI G m7 20 fm7_28, aI G m8 20 fm8_29, aI G m9 4 (upd (upd fm9_7 0 (fm9_7 2)) 1 ((upd fm9_7 0 (fm9_7 2)) 3)), aI G m10 400 tx, aI G m11 6 th, aI G m12 6 od, aI G m13 30 bk, aI G m14 30 bh] := hD
                refine lv_aload_n hx hb dX8_town_196 rfl (lv_at hl 1 rfl) ?_
                refine va_get (D := G.1) (ci := 8) (v := .ref m6) (C := RX8) (T := TX8) (N := 29) hx hb hts hinX8 hown hKK.1 hP 0 rfl rfl 5 (by decide) kl27 (fun _ h9 => h9) rfl dX8_town_197 ?_
                refine lv_iload_n hx hb dX8_town_200 rfl (lv_at hl 0 rfl) ?_
                refine lv_aload_n hx hb dX8_town_201 rfl (lv_at hl 1 rfl) ?_
                refine va_get (D := G.1) (ci := 8) (v := .ref m6) (C := RX8) (T := TX8) (N := 29) hx hb hts hinX8 hown hKK.1 hP 0 rfl rfl 5 (by decide) kl27 (fun _ h9 => h9) rfl dX8_town_202 ?_
                refine lv_bipush (v := 10) hx hb dX8_town_205 (by decide) ?_
                refine lv_iload_n hx hb dX8_town_207 rfl (lv_at hl 0 rfl) ?_
                refine lv_iadd hx hb dX8_town_208 ?_
                obtain ⟨hin, hv⟩ := hv
                refine va_iald hx hb hKK.1 hP 6 0 rfl rfl hin dX8_town_209 ?_
                obtain ⟨hin, hv⟩ := hv
                refine va_iast hx hb hKK.1 hP hD hS 6 0 rfl rfl hin dX8_town_210 (fun H locs hP hD hS => ?_)
                have hP : va_P G.1 vwCl [(m0, .inr (8, [.ref m1, .ref m2, .ref m3, .ref m4, .ref m5, .ref m6, .ref m7, .ref m8, .ref m9, .int gm012_8, .int gm013_9, .int gm014_10, .int gm012_8, .int gm013_9, .int gm014_10, .int gm015_11, .int gm016_12, .ref m10, .int 0, .int gm019_13, .int gm020_14, .int gm021_15, .int gm022_16, .int gm023_17, .ref m11, .ref m12, .ref m13, .ref m14, .int wr])), aJ G m1 560 mw, aZ G m2 2 ik, aI G m3 20 (upd fm3_24 x1_30.toNatClampNeg (fm3_24 (10 + x1_30).toNatClampNeg)), aI G m4 20 (upd fm4_25 x1_30.toNatClampNeg (fm4_25 (10 + x1_30).toNatClampNeg)), aI G m5 20 (upd fm5_26 x1_30.toNatClampNeg (fm5_26 (10 + x1_30).toNatClampNeg)), aI G m6 20 (upd fm6_27 x1_30.toNatClampNeg (fm6_27 (10 + x1_30).toNatClampNeg)), aI G m7 20 fm7_28, aI G m8 20 fm8_29, aI G m9 4 (upd (upd fm9_7 0 (fm9_7 2)) 1 ((upd fm9_7 0 (fm9_7 2)) 3)), aI G m10 400 tx, aI G m11 6 th, aI G m12 6 od, aI G m13 30 bk, aI G m14 30 bh] H := hP
                have hD : va_D A [(m0, .inr (8, [.ref m1, .ref m2, .ref m3, .ref m4, .ref m5, .ref m6, .ref m7, .ref m8, .ref m9, .int gm012_8, .int gm013_9, .int gm014_10, .int gm012_8, .int gm013_9, .int gm014_10, .int gm015_11, .int gm016_12, .ref m10, .int 0, .int gm019_13, .int gm020_14, .int gm021_15, .int gm022_16, .int gm023_17, .ref m11, .ref m12, .ref m13, .ref m14, .int wr])), aJ G m1 560 mw, aZ G m2 2 ik, aI G m3 20 (upd fm3_24 x1_30.toNatClampNeg (fm3_24 (10 + x1_30).toNatClampNeg)), aI G m4 20 (upd fm4_25 x1_30.toNatClampNeg (fm4_25 (10 + x1_30).toNatClampNeg)), aI G m5 20 (upd fm5_26 x1_30.toNatClampNeg (fm5_26 (10 + x1_30).toNatClampNeg)), aI G m6 20 (upd fm6_27 x1_30.toNatClampNeg (fm6_27 (10 + x1_30).toNatClampNeg)), aI G m7 20 fm7_28, aI G m8 20 fm8_29, aI G m9 4 (upd (upd fm9_7 0 (fm9_7 2)) 1 ((upd fm9_7 0 (fm9_7 2)) 3)), aI G m10 400 tx, aI G m11 6 th, aI G m12 6 od, aI G m13 30 bk, aI G m14 30 bh] := hD
                refine lv_aload_n hx hb dX8_town_211 rfl (lv_at hl 1 rfl) ?_
                refine va_get (D := G.1) (ci := 8) (v := .ref m7) (C := RX8) (T := TX8) (N := 29) hx hb hts hinX8 hown hKK.1 hP 0 rfl rfl 6 (by decide) kl30 (fun _ h9 => h9) rfl dX8_town_212 ?_
                refine lv_iload_n hx hb dX8_town_215 rfl (lv_at hl 0 rfl) ?_
                refine lv_aload_n hx hb dX8_town_216 rfl (lv_at hl 1 rfl) ?_
                refine va_get (D := G.1) (ci := 8) (v := .ref m7) (C := RX8) (T := TX8) (N := 29) hx hb hts hinX8 hown hKK.1 hP 0 rfl rfl 6 (by decide) kl30 (fun _ h9 => h9) rfl dX8_town_217 ?_
                refine lv_bipush (v := 10) hx hb dX8_town_220 (by decide) ?_
                refine lv_iload_n hx hb dX8_town_222 rfl (lv_at hl 0 rfl) ?_
                refine lv_iadd hx hb dX8_town_223 ?_
                obtain ⟨hin, hv⟩ := hv
                refine va_iald hx hb hKK.1 hP 7 0 rfl rfl hin dX8_town_224 ?_
                obtain ⟨hin, hv⟩ := hv
                refine va_iast hx hb hKK.1 hP hD hS 7 0 rfl rfl hin dX8_town_225 (fun H locs hP hD hS => ?_)
                have hP : va_P G.1 vwCl [(m0, .inr (8, [.ref m1, .ref m2, .ref m3, .ref m4, .ref m5, .ref m6, .ref m7, .ref m8, .ref m9, .int gm012_8, .int gm013_9, .int gm014_10, .int gm012_8, .int gm013_9, .int gm014_10, .int gm015_11, .int gm016_12, .ref m10, .int 0, .int gm019_13, .int gm020_14, .int gm021_15, .int gm022_16, .int gm023_17, .ref m11, .ref m12, .ref m13, .ref m14, .int wr])), aJ G m1 560 mw, aZ G m2 2 ik, aI G m3 20 (upd fm3_24 x1_30.toNatClampNeg (fm3_24 (10 + x1_30).toNatClampNeg)), aI G m4 20 (upd fm4_25 x1_30.toNatClampNeg (fm4_25 (10 + x1_30).toNatClampNeg)), aI G m5 20 (upd fm5_26 x1_30.toNatClampNeg (fm5_26 (10 + x1_30).toNatClampNeg)), aI G m6 20 (upd fm6_27 x1_30.toNatClampNeg (fm6_27 (10 + x1_30).toNatClampNeg)), aI G m7 20 (upd fm7_28 x1_30.toNatClampNeg (fm7_28 (10 + x1_30).toNatClampNeg)), aI G m8 20 fm8_29, aI G m9 4 (upd (upd fm9_7 0 (fm9_7 2)) 1 ((upd fm9_7 0 (fm9_7 2)) 3)), aI G m10 400 tx, aI G m11 6 th, aI G m12 6 od, aI G m13 30 bk, aI G m14 30 bh] H := hP
                have hD : va_D A [(m0, .inr (8, [.ref m1, .ref m2, .ref m3, .ref m4, .ref m5, .ref m6, .ref m7, .ref m8, .ref m9, .int gm012_8, .int gm013_9, .int gm014_10, .int gm012_8, .int gm013_9, .int gm014_10, .int gm015_11, .int gm016_12, .ref m10, .int 0, .int gm019_13, .int gm020_14, .int gm021_15, .int gm022_16, .int gm023_17, .ref m11, .ref m12, .ref m13, .ref m14, .int wr])), aJ G m1 560 mw, aZ G m2 2 ik, aI G m3 20 (upd fm3_24 x1_30.toNatClampNeg (fm3_24 (10 + x1_30).toNatClampNeg)), aI G m4 20 (upd fm4_25 x1_30.toNatClampNeg (fm4_25 (10 + x1_30).toNatClampNeg)), aI G m5 20 (upd fm5_26 x1_30.toNatClampNeg (fm5_26 (10 + x1_30).toNatClampNeg)), aI G m6 20 (upd fm6_27 x1_30.toNatClampNeg (fm6_27 (10 + x1_30).toNatClampNeg)), aI G m7 20 (upd fm7_28 x1_30.toNatClampNeg (fm7_28 (10 + x1_30).toNatClampNeg)), aI G m8 20 fm8_29, aI G m9 4 (upd (upd fm9_7 0 (fm9_7 2)) 1 ((upd fm9_7 0 (fm9_7 2)) 3)), aI G m10 400 tx, aI G m11 6 th, aI G m12 6 od, aI G m13 30 bk, aI G m14 30 bh] := hD
                refine lv_aload_n hx hb dX8_town_226 rfl (lv_at hl 1 rfl) ?_
                refine va_get (D := G.1) (ci := 8) (v := .ref m8) (C := RX8) (T := TX8) (N := 29) hx hb hts hinX8 hown hKK.1 hP 0 rfl rfl 7 (by decide) kl33 (fun _ h9 => h9) rfl dX8_town_227 ?_
                refine lv_iload_n hx hb dX8_town_230 rfl (lv_at hl 0 rfl) ?_
                refine lv_aload_n hx hb dX8_town_231 rfl (lv_at hl 1 rfl) ?_
                refine va_get (D := G.1) (ci := 8) (v := .ref m8) (C := RX8) (T := TX8) (N := 29) hx hb hts hinX8 hown hKK.1 hP 0 rfl rfl 7 (by decide) kl33 (fun _ h9 => h9) rfl dX8_town_232 ?_
                refine lv_bipush (v := 10) hx hb dX8_town_235 (by decide) ?_
                refine lv_iload_n hx hb dX8_town_237 rfl (lv_at hl 0 rfl) ?_
                refine lv_iadd hx hb dX8_town_238 ?_
                obtain ⟨hin, hv⟩ := hv
                refine va_iald hx hb hKK.1 hP 8 0 rfl rfl hin dX8_town_239 ?_
                obtain ⟨hin, hv⟩ := hv
                refine va_iast hx hb hKK.1 hP hD hS 8 0 rfl rfl hin dX8_town_240 (fun H locs hP hD hS => ?_)
                have hP : va_P G.1 vwCl [(m0, .inr (8, [.ref m1, .ref m2, .ref m3, .ref m4, .ref m5, .ref m6, .ref m7, .ref m8, .ref m9, .int gm012_8, .int gm013_9, .int gm014_10, .int gm012_8, .int gm013_9, .int gm014_10, .int gm015_11, .int gm016_12, .ref m10, .int 0, .int gm019_13, .int gm020_14, .int gm021_15, .int gm022_16, .int gm023_17, .ref m11, .ref m12, .ref m13, .ref m14, .int wr])), aJ G m1 560 mw, aZ G m2 2 ik, aI G m3 20 (upd fm3_24 x1_30.toNatClampNeg (fm3_24 (10 + x1_30).toNatClampNeg)), aI G m4 20 (upd fm4_25 x1_30.toNatClampNeg (fm4_25 (10 + x1_30).toNatClampNeg)), aI G m5 20 (upd fm5_26 x1_30.toNatClampNeg (fm5_26 (10 + x1_30).toNatClampNeg)), aI G m6 20 (upd fm6_27 x1_30.toNatClampNeg (fm6_27 (10 + x1_30).toNatClampNeg)), aI G m7 20 (upd fm7_28 x1_30.toNatClampNeg (fm7_28 (10 + x1_30).toNatClampNeg)), aI G m8 20 (upd fm8_29 x1_30.toNatClampNeg (fm8_29 (10 + x1_30).toNatClampNeg)), aI G m9 4 (upd (upd fm9_7 0 (fm9_7 2)) 1 ((upd fm9_7 0 (fm9_7 2)) 3)), aI G m10 400 tx, aI G m11 6 th, aI G m12 6 od, aI G m13 30 bk, aI G m14 30 bh] H := hP
                have hD : va_D A [(m0, .inr (8, [.ref m1, .ref m2, .ref m3, .ref m4, .ref m5, .ref m6, .ref m7, .ref m8, .ref m9, .int gm012_8, .int gm013_9, .int gm014_10, .int gm012_8, .int gm013_9, .int gm014_10, .int gm015_11, .int gm016_12, .ref m10, .int 0, .int gm019_13, .int gm020_14, .int gm021_15, .int gm022_16, .int gm023_17, .ref m11, .ref m12, .ref m13, .ref m14, .int wr])), aJ G m1 560 mw, aZ G m2 2 ik, aI G m3 20 (upd fm3_24 x1_30.toNatClampNeg (fm3_24 (10 + x1_30).toNatClampNeg)), aI G m4 20 (upd fm4_25 x1_30.toNatClampNeg (fm4_25 (10 + x1_30).toNatClampNeg)), aI G m5 20 (upd fm5_26 x1_30.toNatClampNeg (fm5_26 (10 + x1_30).toNatClampNeg)), aI G m6 20 (upd fm6_27 x1_30.toNatClampNeg (fm6_27 (10 + x1_30).toNatClampNeg)), aI G m7 20 (upd fm7_28 x1_30.toNatClampNeg (fm7_28 (10 + x1_30).toNatClampNeg)), aI G m8 20 (upd fm8_29 x1_30.toNatClampNeg (fm8_29 (10 + x1_30).toNatClampNeg)), aI G m9 4 (upd (upd fm9_7 0 (fm9_7 2)) 1 ((upd fm9_7 0 (fm9_7 2)) 3)), aI G m10 400 tx, aI G m11 6 th, aI G m12 6 od, aI G m13 30 bk, aI G m14 30 bh] := hD
                refine lv_iinc (v := (x1_30 + 1)) (lv' := [(1, .int (x1_30 + 1)), (0, .ref m0)]) hx hb dX8_town_241 hl (k := 0) rfl rfl (by decide) rfl (fun ls hl => ?_)
                refine lv_goto (tgt := 145) hx hb dX8_town_244 (by decide) ?_
                exact ih_33 _ _ _ _ _ _ _ _ _ _ (Nat.lt_of_lt_of_le hv.2 (Nat.le_of_lt_succ hI_34)) hv.1 hP hD hS hl
          exact Lm_40 _ _ _ _ _ _ _ _ _ _ _ (Nat.lt_succ_self _) hi0 hP hD hS hl
        · have hv := hv.2 hc_23
          refine lv_bipush (v := (-10)) hx hb dX8_town_87 (by decide) ?_
          refine lv_aload_n hx hb dX8_town_89 rfl (lv_at hl 0 rfl) ?_
          refine va_get (D := G.1) (ci := 8) (v := .int gm022_16) (C := RX8) (T := TX8) (N := 29) hx hb hts hinX8 hown hKK.1 hP 0 rfl rfl 22 (by decide) kl83 (fun _ h9 => h9) rfl dX8_town_90 ?_
          refine lv_isub hx hb dX8_town_93 ?_
          exact x_iret (v := ((-10) - gm022_16)) (mw, ik, fm3_1, fm4_2, fm5_3, fm6_4, fm7_5, fm8_6, fm9_7, fu, fd, fi, gm012_8, gm013_9, gm014_10, gm015_11, gm016_12, 0, gm019_13, gm020_14, gm021_15, gm022_16, gm023_17, wr) hQ hx hb hr hlocks hS dX8_town_94 hv hP hD
      · have hv := hv.2 hc_22
        refine lv_aload_n hx hb dX8_town_61 rfl (lv_at hl 0 rfl) ?_
        obtain ⟨hp, hv⟩ := hv
        refine x_calli (wr := []) (w' := fun (u : (Int32)) => [(m0, .inr (8, [.ref m1, .ref m2, .ref m3, .ref m4, .ref m5, .ref m6, .ref m7, .ref m8, .ref m9, .int fu, .int fd, .int fi, .int gm012_8, .int gm013_9, .int gm014_10, .int gm015_11, .int gm016_12, .ref m10, .int ts, .int u, .int gm020_14, .int gm021_15, .int gm022_16, .int gm023_17, .ref m11, .ref m12, .ref m13, .ref m14, .int wr])), aJ G m1 560 mw, aZ G m2 2 ik, aI G m3 20 fm3_1, aI G m4 20 fm4_2, aI G m5 20 fm5_3, aI G m6 20 fm6_4, aI G m7 20 fm7_5, aI G m8 20 fm8_6, aI G m9 4 fm9_7, aI G m10 400 tx, aI G m11 6 th, aI G m12 6 od, aI G m13 30 bk, aI G m14 30 bh]) (x_runV (As := []) (rest := []) (n := 0) (C := RX8) (ci := 8) ⟨hx, hb, hml, hown, hts⟩ (k_X8_here l G m0 m1 m2 m3 m4 m5 m6 m7 m8 m9 m10 m11 m12 m13 m14 _ mw ik fm3_1 fm4_2 fm5_3 fm6_4 fm7_5 fm8_6 fm9_7 tx th od bk bh fu fd fi gm012_8 gm013_9 gm014_10 gm015_11 gm016_12 ts gm019_13 gm020_14 gm021_15 gm022_16 gm023_17 wr hp) gX8_town_X8_here rfl (by decide +kernel) ⟨Nat.le_trans (Nat.le_of_ble_eq_true rfl) hRf, Nat.le_trans (Nat.le_of_ble_eq_true rfl) hRl⟩ hKK hSS hS hA hP hD [0, 1, 2, 3, 4, 5, 6, 7, 8, 9, 10, 11, 12, 13, 14] (by decide) rfl rfl rfl 0 rfl rfl hl.1 rfl (Nat.le_of_ble_eq_true rfl) dX8_town_62) hP hD hS hA [0, 1, 2, 3, 4, 5, 6, 7, 8, 9, 10, 11, 12, 13, 14] [] [0, 1, 2, 3, 4, 5, 6, 7, 8, 9, 10, 11, 12, 13, 14] rfl rfl (by decide) (by decide) (by decide) (fun _ => rfl) (fun r_41 u H locs hw hP hD hS => ?_)
        obtain ⟨ap2_42, rfl⟩ : ∃ z, z = u := ⟨_, rfl⟩
        have hP : va_P G.1 vwCl [(m0, .inr (8, [.ref m1, .ref m2, .ref m3, .ref m4, .ref m5, .ref m6, .ref m7, .ref m8, .ref m9, .int fu, .int fd, .int fi, .int gm012_8, .int gm013_9, .int gm014_10, .int gm015_11, .int gm016_12, .ref m10, .int ts, .int ap2_42, .int gm020_14, .int gm021_15, .int gm022_16, .int gm023_17, .ref m11, .ref m12, .ref m13, .ref m14, .int wr])), aJ G m1 560 mw, aZ G m2 2 ik, aI G m3 20 fm3_1, aI G m4 20 fm4_2, aI G m5 20 fm5_3, aI G m6 20 fm6_4, aI G m7 20 fm7_5, aI G m8 20 fm8_6, aI G m9 4 fm9_7, aI G m10 400 tx, aI G m11 6 th, aI G m12 6 od, aI G m13 30 bk, aI G m14 30 bh] H := hP
        have hD : va_D A [(m0, .inr (8, [.ref m1, .ref m2, .ref m3, .ref m4, .ref m5, .ref m6, .ref m7, .ref m8, .ref m9, .int fu, .int fd, .int fi, .int gm012_8, .int gm013_9, .int gm014_10, .int gm015_11, .int gm016_12, .ref m10, .int ts, .int ap2_42, .int gm020_14, .int gm021_15, .int gm022_16, .int gm023_17, .ref m11, .ref m12, .ref m13, .ref m14, .int wr])), aJ G m1 560 mw, aZ G m2 2 ik, aI G m3 20 fm3_1, aI G m4 20 fm4_2, aI G m5 20 fm5_3, aI G m6 20 fm6_4, aI G m7 20 fm7_5, aI G m8 20 fm8_6, aI G m9 4 fm9_7, aI G m10 400 tx, aI G m11 6 th, aI G m12 6 od, aI G m13 30 bk, aI G m14 30 bh] := hD
        have hv := hv r_41 ap2_42 hw
        refine lv_if_lt (tgt := 75) hx hb dX8_town_65 (by decide) (fun hc_43 => ?_) (fun hc_43 => ?_)
        · have hv := hv.1 hc_43
          refine lv_aload_n hx hb dX8_town_75 rfl (lv_at hl 0 rfl) ?_
          refine lv_iconst (v := 0) hx hb dX8_town_76 (by decide) ?_
          refine va_put (D := G.1) (ci := 8) (v := .int 0) (ty := .int) (C := RX8) (T := TX8) (N := 29) hx hb hts hinX8 tyX8 tyX8_ok nmX8 hown hKK.1 hP hD hS 0 rfl rfl 18 (by decide) kl74 (fun _ h9 => h9) rfl (by decide +kernel) rfl rfl (Nat.le_of_ble_eq_true rfl) dX8_town_77 (fun H locs hP hD hS => ?_)
          have hP : va_P G.1 vwCl [(m0, .inr (8, [.ref m1, .ref m2, .ref m3, .ref m4, .ref m5, .ref m6, .ref m7, .ref m8, .ref m9, .int fu, .int fd, .int fi, .int gm012_8, .int gm013_9, .int gm014_10, .int gm015_11, .int gm016_12, .ref m10, .int 0, .int ap2_42, .int gm020_14, .int gm021_15, .int gm022_16, .int gm023_17, .ref m11, .ref m12, .ref m13, .ref m14, .int wr])), aJ G m1 560 mw, aZ G m2 2 ik, aI G m3 20 fm3_1, aI G m4 20 fm4_2, aI G m5 20 fm5_3, aI G m6 20 fm6_4, aI G m7 20 fm7_5, aI G m8 20 fm8_6, aI G m9 4 fm9_7, aI G m10 400 tx, aI G m11 6 th, aI G m12 6 od, aI G m13 30 bk, aI G m14 30 bh] H := hP
          have hD : va_D A [(m0, .inr (8, [.ref m1, .ref m2, .ref m3, .ref m4, .ref m5, .ref m6, .ref m7, .ref m8, .ref m9, .int fu, .int fd, .int fi, .int gm012_8, .int gm013_9, .int gm014_10, .int gm015_11, .int gm016_12, .ref m10, .int 0, .int ap2_42, .int gm020_14, .int gm021_15, .int gm022_16, .int gm023_17, .ref m11, .ref m12, .ref m13, .ref m14, .int wr])), aJ G m1 560 mw, aZ G m2 2 ik, aI G m3 20 fm3_1, aI G m4 20 fm4_2, aI G m5 20 fm5_3, aI G m6 20 fm6_4, aI G m7 20 fm7_5, aI G m8 20 fm8_6, aI G m9 4 fm9_7, aI G m10 400 tx, aI G m11 6 th, aI G m12 6 od, aI G m13 30 bk, aI G m14 30 bh] := hD
          refine lv_aload_n hx hb dX8_town_80 rfl (lv_at hl 0 rfl) ?_
          refine va_get (D := G.1) (ci := 8) (v := .int gm022_16) (C := RX8) (T := TX8) (N := 29) hx hb hts hinX8 hown hKK.1 hP 0 rfl rfl 22 (by decide) kl83 (fun _ h9 => h9) rfl dX8_town_81 ?_
          refine lv_if_le (tgt := 95) hx hb dX8_town_84 (by decide) (fun hc_44 => ?_) (fun hc_44 => ?_)
          · have hv := hv.1 hc_44
            refine lv_aload_n hx hb dX8_town_95 rfl (lv_at hl 0 rfl) ?_
            refine va_get (D := G.1) (ci := 8) (v := .ref m9) (C := RX8) (T := TX8) (N := 29) hx hb hts hinX8 hown hKK.1 hP 0 rfl rfl 8 (by decide) kl36 (fun _ h9 => h9) rfl dX8_town_96 ?_
            refine lv_iconst (v := 0) hx hb dX8_town_99 (by decide) ?_
            refine lv_aload_n hx hb dX8_town_100 rfl (lv_at hl 0 rfl) ?_
            refine va_get (D := G.1) (ci := 8) (v := .ref m9) (C := RX8) (T := TX8) (N := 29) hx hb hts hinX8 hown hKK.1 hP 0 rfl rfl 8 (by decide) kl36 (fun _ h9 => h9) rfl dX8_town_101 ?_
            refine lv_iconst (v := 2) hx hb dX8_town_104 (by decide) ?_
            refine va_iald hx hb hKK.1 hP 9 0 rfl rfl (by unfold vp_in; decide) dX8_town_105 ?_
            refine va_iast hx hb hKK.1 hP hD hS 9 0 rfl rfl (by unfold vp_in; decide) dX8_town_106 (fun H locs hP hD hS => ?_)
            have hP : va_P G.1 vwCl [(m0, .inr (8, [.ref m1, .ref m2, .ref m3, .ref m4, .ref m5, .ref m6, .ref m7, .ref m8, .ref m9, .int fu, .int fd, .int fi, .int gm012_8, .int gm013_9, .int gm014_10, .int gm015_11, .int gm016_12, .ref m10, .int 0, .int ap2_42, .int gm020_14, .int gm021_15, .int gm022_16, .int gm023_17, .ref m11, .ref m12, .ref m13, .ref m14, .int wr])), aJ G m1 560 mw, aZ G m2 2 ik, aI G m3 20 fm3_1, aI G m4 20 fm4_2, aI G m5 20 fm5_3, aI G m6 20 fm6_4, aI G m7 20 fm7_5, aI G m8 20 fm8_6, aI G m9 4 (upd fm9_7 0 (fm9_7 2)), aI G m10 400 tx, aI G m11 6 th, aI G m12 6 od, aI G m13 30 bk, aI G m14 30 bh] H := hP
            have hD : va_D A [(m0, .inr (8, [.ref m1, .ref m2, .ref m3, .ref m4, .ref m5, .ref m6, .ref m7, .ref m8, .ref m9, .int fu, .int fd, .int fi, .int gm012_8, .int gm013_9, .int gm014_10, .int gm015_11, .int gm016_12, .ref m10, .int 0, .int ap2_42, .int gm020_14, .int gm021_15, .int gm022_16, .int gm023_17, .ref m11, .ref m12, .ref m13, .ref m14, .int wr])), aJ G m1 560 mw, aZ G m2 2 ik, aI G m3 20 fm3_1, aI G m4 20 fm4_2, aI G m5 20 fm5_3, aI G m6 20 fm6_4, aI G m7 20 fm7_5, aI G m8 20 fm8_6, aI G m9 4 (upd fm9_7 0 (fm9_7 2)), aI G m10 400 tx, aI G m11 6 th, aI G m12 6 od, aI G m13 30 bk, aI G m14 30 bh] := hD
            refine lv_aload_n hx hb dX8_town_107 rfl (lv_at hl 0 rfl) ?_
            refine va_get (D := G.1) (ci := 8) (v := .ref m9) (C := RX8) (T := TX8) (N := 29) hx hb hts hinX8 hown hKK.1 hP 0 rfl rfl 8 (by decide) kl36 (fun _ h9 => h9) rfl dX8_town_108 ?_
            refine lv_iconst (v := 1) hx hb dX8_town_111 (by decide) ?_
            refine lv_aload_n hx hb dX8_town_112 rfl (lv_at hl 0 rfl) ?_
            refine va_get (D := G.1) (ci := 8) (v := .ref m9) (C := RX8) (T := TX8) (N := 29) hx hb hts hinX8 hown hKK.1 hP 0 rfl rfl 8 (by decide) kl36 (fun _ h9 => h9) rfl dX8_town_113 ?_
            refine lv_iconst (v := 3) hx hb dX8_town_116 (by decide) ?_
            refine va_iald hx hb hKK.1 hP 9 0 rfl rfl (by unfold vp_in; decide) dX8_town_117 ?_
            refine va_iast hx hb hKK.1 hP hD hS 9 0 rfl rfl (by unfold vp_in; decide) dX8_town_118 (fun H locs hP hD hS => ?_)
            have hP : va_P G.1 vwCl [(m0, .inr (8, [.ref m1, .ref m2, .ref m3, .ref m4, .ref m5, .ref m6, .ref m7, .ref m8, .ref m9, .int fu, .int fd, .int fi, .int gm012_8, .int gm013_9, .int gm014_10, .int gm015_11, .int gm016_12, .ref m10, .int 0, .int ap2_42, .int gm020_14, .int gm021_15, .int gm022_16, .int gm023_17, .ref m11, .ref m12, .ref m13, .ref m14, .int wr])), aJ G m1 560 mw, aZ G m2 2 ik, aI G m3 20 fm3_1, aI G m4 20 fm4_2, aI G m5 20 fm5_3, aI G m6 20 fm6_4, aI G m7 20 fm7_5, aI G m8 20 fm8_6, aI G m9 4 (upd (upd fm9_7 0 (fm9_7 2)) 1 ((upd fm9_7 0 (fm9_7 2)) 3)), aI G m10 400 tx, aI G m11 6 th, aI G m12 6 od, aI G m13 30 bk, aI G m14 30 bh] H := hP
            have hD : va_D A [(m0, .inr (8, [.ref m1, .ref m2, .ref m3, .ref m4, .ref m5, .ref m6, .ref m7, .ref m8, .ref m9, .int fu, .int fd, .int fi, .int gm012_8, .int gm013_9, .int gm014_10, .int gm015_11, .int gm016_12, .ref m10, .int 0, .int ap2_42, .int gm020_14, .int gm021_15, .int gm022_16, .int gm023_17, .ref m11, .ref m12, .ref m13, .ref m14, .int wr])), aJ G m1 560 mw, aZ G m2 2 ik, aI G m3 20 fm3_1, aI G m4 20 fm4_2, aI G m5 20 fm5_3, aI G m6 20 fm6_4, aI G m7 20 fm7_5, aI G m8 20 fm8_6, aI G m9 4 (upd (upd fm9_7 0 (fm9_7 2)) 1 ((upd fm9_7 0 (fm9_7 2)) 3)), aI G m10 400 tx, aI G m11 6 th, aI G m12 6 od, aI G m13 30 bk, aI G m14 30 bh] := hD
            refine lv_aload_n hx hb dX8_town_119 rfl (lv_at hl 0 rfl) ?_
            refine lv_aload_n hx hb dX8_town_120 rfl (lv_at hl 0 rfl) ?_
            refine va_get (D := G.1) (ci := 8) (v := .int gm012_8) (C := RX8) (T := TX8) (N := 29) hx hb hts hinX8 hown hKK.1 hP 0 rfl rfl 12 (by decide) kl131 (fun _ h9 => h9) rfl dX8_town_121 ?_
            refine va_put (D := G.1) (ci := 8) (v := .int gm012_8) (ty := .int) (C := RX8) (T := TX8) (N := 29) hx hb hts hinX8 tyX8 tyX8_ok nmX8 hown hKK.1 hP hD hS 0 rfl rfl 9 (by decide) kl39 (fun _ h9 => h9) rfl (by decide +kernel) rfl rfl (Nat.le_of_ble_eq_true rfl) dX8_town_124 (fun H locs hP hD hS => ?_)
            have hP : va_P G.1 vwCl [(m0, .inr (8, [.ref m1, .ref m2, .ref m3, .ref m4, .ref m5, .ref m6, .ref m7, .ref m8, .ref m9, .int gm012_8, .int fd, .int fi, .int gm012_8, .int gm013_9, .int gm014_10, .int gm015_11, .int gm016_12, .ref m10, .int 0, .int ap2_42, .int gm020_14, .int gm021_15, .int gm022_16, .int gm023_17, .ref m11, .ref m12, .ref m13, .ref m14, .int wr])), aJ G m1 560 mw, aZ G m2 2 ik, aI G m3 20 fm3_1, aI G m4 20 fm4_2, aI G m5 20 fm5_3, aI G m6 20 fm6_4, aI G m7 20 fm7_5, aI G m8 20 fm8_6, aI G m9 4 (upd (upd fm9_7 0 (fm9_7 2)) 1 ((upd fm9_7 0 (fm9_7 2)) 3)), aI G m10 400 tx, aI G m11 6 th, aI G m12 6 od, aI G m13 30 bk, aI G m14 30 bh] H := hP
            have hD : va_D A [(m0, .inr (8, [.ref m1, .ref m2, .ref m3, .ref m4, .ref m5, .ref m6, .ref m7, .ref m8, .ref m9, .int gm012_8, .int fd, .int fi, .int gm012_8, .int gm013_9, .int gm014_10, .int gm015_11, .int gm016_12, .ref m10, .int 0, .int ap2_42, .int gm020_14, .int gm021_15, .int gm022_16, .int gm023_17, .ref m11, .ref m12, .ref m13, .ref m14, .int wr])), aJ G m1 560 mw, aZ G m2 2 ik, aI G m3 20 fm3_1, aI G m4 20 fm4_2, aI G m5 20 fm5_3, aI G m6 20 fm6_4, aI G m7 20 fm7_5, aI G m8 20 fm8_6, aI G m9 4 (upd (upd fm9_7 0 (fm9_7 2)) 1 ((upd fm9_7 0 (fm9_7 2)) 3)), aI G m10 400 tx, aI G m11 6 th, aI G m12 6 od, aI G m13 30 bk, aI G m14 30 bh] := hD
            refine lv_aload_n hx hb dX8_town_127 rfl (lv_at hl 0 rfl) ?_
            refine lv_aload_n hx hb dX8_town_128 rfl (lv_at hl 0 rfl) ?_
            refine va_get (D := G.1) (ci := 8) (v := .int gm013_9) (C := RX8) (T := TX8) (N := 29) hx hb hts hinX8 hown hKK.1 hP 0 rfl rfl 13 (by decide) kl134 (fun _ h9 => h9) rfl dX8_town_129 ?_
            refine va_put (D := G.1) (ci := 8) (v := .int gm013_9) (ty := .int) (C := RX8) (T := TX8) (N := 29) hx hb hts hinX8 tyX8 tyX8_ok nmX8 hown hKK.1 hP hD hS 0 rfl rfl 10 (by decide) kl43 (fun _ h9 => h9) rfl (by decide +kernel) rfl rfl (Nat.le_of_ble_eq_true rfl) dX8_town_132 (fun H locs hP hD hS => ?_)
            have hP : va_P G.1 vwCl [(m0, .inr (8, [.ref m1, .ref m2, .ref m3, .ref m4, .ref m5, .ref m6, .ref m7, .ref m8, .ref m9, .int gm012_8, .int gm013_9, .int fi, .int gm012_8, .int gm013_9, .int gm014_10, .int gm015_11, .int gm016_12, .ref m10, .int 0, .int ap2_42, .int gm020_14, .int gm021_15, .int gm022_16, .int gm023_17, .ref m11, .ref m12, .ref m13, .ref m14, .int wr])), aJ G m1 560 mw, aZ G m2 2 ik, aI G m3 20 fm3_1, aI G m4 20 fm4_2, aI G m5 20 fm5_3, aI G m6 20 fm6_4, aI G m7 20 fm7_5, aI G m8 20 fm8_6, aI G m9 4 (upd (upd fm9_7 0 (fm9_7 2)) 1 ((upd fm9_7 0 (fm9_7 2)) 3)), aI G m10 400 tx, aI G m11 6 th, aI G m12 6 od, aI G m13 30 bk, aI G m14 30 bh] H := hP
            have hD : va_D A [(m0, .inr (8, [.ref m1, .ref m2, .ref m3, .ref m4, .ref m5, .ref m6, .ref m7, .ref m8, .ref m9, .int gm012_8, .int gm013_9, .int fi, .int gm012_8, .int gm013_9, .int gm014_10, .int gm015_11, .int gm016_12, .ref m10, .int 0, .int ap2_42, .int gm020_14, .int gm021_15, .int gm022_16, .int gm023_17, .ref m11, .ref m12, .ref m13, .ref m14, .int wr])), aJ G m1 560 mw, aZ G m2 2 ik, aI G m3 20 fm3_1, aI G m4 20 fm4_2, aI G m5 20 fm5_3, aI G m6 20 fm6_4, aI G m7 20 fm7_5, aI G m8 20 fm8_6, aI G m9 4 (upd (upd fm9_7 0 (fm9_7 2)) 1 ((upd fm9_7 0 (fm9_7 2)) 3)), aI G m10 400 tx, aI G m11 6 th, aI G m12 6 od, aI G m13 30 bk, aI G m14 30 bh] := hD
            refine lv_aload_n hx hb dX8_town_135 rfl (lv_at hl 0 rfl) ?_
            refine lv_aload_n hx hb dX8_town_136 rfl (lv_at hl 0 rfl) ?_
            refine va_get (D := G.1) (ci := 8) (v := .int gm014_10) (C := RX8) (T := TX8) (N := 29) hx hb hts hinX8 hown hKK.1 hP 0 rfl rfl 14 (by decide) kl140 (fun _ h9 => h9) rfl dX8_town_137 ?_
            refine va_put (D := G.1) (ci := 8) (v := .int gm014_10) (ty := .int) (C := RX8) (T := TX8) (N := 29) hx hb hts hinX8 tyX8 tyX8_ok nmX8 hown hKK.1 hP hD hS 0 rfl rfl 11 (by decide) kl146 (fun _ h9 => h9) rfl (by decide +kernel) rfl rfl (Nat.le_of_ble_eq_true rfl) dX8_town_140 (fun H locs hP hD hS => ?_)
            have hP : va_P G.1 vwCl [(m0, .inr (8, [.ref m1, .ref m2, .ref m3, .ref m4, .ref m5, .ref m6, .ref m7, .ref m8, .ref m9, .int gm012_8, .int gm013_9, .int gm014_10, .int gm012_8, .int gm013_9, .int gm014_10, .int gm015_11, .int gm016_12, .ref m10, .int 0, .int ap2_42, .int gm020_14, .int gm021_15, .int gm022_16, .int gm023_17, .ref m11, .ref m12, .ref m13, .ref m14, .int wr])), aJ G m1 560 mw, aZ G m2 2 ik, aI G m3 20 fm3_1, aI G m4 20 fm4_2, aI G m5 20 fm5_3, aI G m6 20 fm6_4, aI G m7 20 fm7_5, aI G m8 20 fm8_6, aI G m9 4 (upd (upd fm9_7 0 (fm9_7 2)) 1 ((upd fm9_7 0 (fm9_7 2)) 3)), aI G m10 400 tx, aI G m11 6 th, aI G m12 6 od, aI G m13 30 bk, aI G m14 30 bh] H := hP
            have hD : va_D A [(m0, .inr (8, [.ref m1, .ref m2, .ref m3, .ref m4, .ref m5, .ref m6, .ref m7, .ref m8, .ref m9, .int gm012_8, .int gm013_9, .int gm014_10, .int gm012_8, .int gm013_9, .int gm014_10, .int gm015_11, .int gm016_12, .ref m10, .int 0, .int ap2_42, .int gm020_14, .int gm021_15, .int gm022_16, .int gm023_17, .ref m11, .ref m12, .ref m13, .ref m14, .int wr])), aJ G m1 560 mw, aZ G m2 2 ik, aI G m3 20 fm3_1, aI G m4 20 fm4_2, aI G m5 20 fm5_3, aI G m6 20 fm6_4, aI G m7 20 fm7_5, aI G m8 20 fm8_6, aI G m9 4 (upd (upd fm9_7 0 (fm9_7 2)) 1 ((upd fm9_7 0 (fm9_7 2)) 3)), aI G m10 400 tx, aI G m11 6 th, aI G m12 6 od, aI G m13 30 bk, aI G m14 30 bh] := hD
            refine lv_iconst (v := 0) hx hb dX8_town_143 (by decide) ?_
            refine lv_istore_n (lv' := [(1, .int 0), (0, .ref m0)]) hx hb dX8_town_144 rfl hl (by decide) rfl (fun ls hl => ?_)
            obtain ⟨I145_52, μ145_53, hi0, hs_59⟩ := hv
            have Lm_61 : ∀ (n_60 : Nat) (fm3_45 : (Nat → Int32)) (fm4_46 : (Nat → Int32)) (fm5_47 : (Nat → Int32)) (fm6_48 : (Nat → Int32)) (fm7_49 : (Nat → Int32)) (fm8_50 : (Nat → Int32)) (x1_51 : Int32) (H : Heap) (locs : List Loc) (ls : Array Slot), μ145_53 fm3_45 fm4_46 fm5_47 fm6_48 fm7_49 fm8_50 x1_51 < n_60 → I145_52 fm3_45 fm4_46 fm5_47 fm6_48 fm7_49 fm8_50 x1_51 → va_P G.1 vwCl [(m0, .inr (8, [.ref m1, .ref m2, .ref m3, .ref m4, .ref m5, .ref m6, .ref m7, .ref m8, .ref m9, .int gm012_8, .int gm013_9, .int gm014_10, .int gm012_8, .int gm013_9, .int gm014_10, .int gm015_11, .int gm016_12, .ref m10, .int 0, .int ap2_42, .int gm020_14, .int gm021_15, .int gm022_16, .int gm023_17, .ref m11, .ref m12, .ref m13, .ref m14, .int wr])), aJ G m1 560 mw, aZ G m2 2 ik, aI G m3 20 fm3_45, aI G m4 20 fm4_46, aI G m5 20 fm5_47, aI G m6 20 fm6_48, aI G m7 20 fm7_49, aI G m8 20 fm8_50, aI G m9 4 (upd (upd fm9_7 0 (fm9_7 2)) 1 ((upd fm9_7 0 (fm9_7 2)) 3)), aI G m10 400 tx, aI G m11 6 th, aI G m12 6 od, aI G m13 30 bk, aI G m14 30 bh] H → va_D A [(m0, .inr (8, [.ref m1, .ref m2, .ref m3, .ref m4, .ref m5, .ref m6, .ref m7, .ref m8, .ref m9, .int gm012_8, .int gm013_9, .int gm014_10, .int gm012_8, .int gm013_9, .int gm014_10, .int gm015_11, .int gm016_12, .ref m10, .int 0, .int ap2_42, .int gm020_14, .int gm021_15, .int gm022_16, .int gm023_17, .ref m11, .ref m12, .ref m13, .ref m14, .int wr])), aJ G m1 560 mw, aZ G m2 2 ik, aI G m3 20 fm3_45, aI G m4 20 fm4_46, aI G m5 20 fm5_47, aI G m6 20 fm6_48, aI G m7 20 fm7_49, aI G m8 20 fm8_50, aI G m9 4 (upd (upd fm9_7 0 (fm9_7 2)) 1 ((upd fm9_7 0 (fm9_7 2)) 3)), aI G m10 400 tx, aI G m11 6 th, aI G m12 6 od, aI G m13 30 bk, aI G m14 30 bh] → va_S A s.heap H locs → lv_has ls 2 [(1, .int x1_51), (0, .ref m0)] → W p l e R s m args below meth c H locs 0 0 Q (F0 m 145 ls []) := by
              intro n_60
              induction n_60 with
              | zero => intro fm3_45 fm4_46 fm5_47 fm6_48 fm7_49 fm8_50 x1_51 H locs ls hm; exact absurd hm (Nat.not_lt_zero _)
              | succ n_60 ih_54 =>
                intro fm3_45 fm4_46 fm5_47 fm6_48 fm7_49 fm8_50 x1_51 H locs ls hI_55 hi hP hD hS hl
                have hv := hs_59 fm3_45 fm4_46 fm5_47 fm6_48 fm7_49 fm8_50 x1_51 hi
                refine lv_iload_n hx hb dX8_town_145 rfl (lv_at hl 0 rfl) ?_
                refine lv_bipush (v := 10) hx hb dX8_town_146 (by decide) ?_
                refine lv_icmp_ge (tgt := 247) hx hb dX8_town_148 (by decide) (fun hc_56 => ?_) (fun hc_56 => ?_)
                · have hv := hv.1 hc_56
                  refine lv_aload_n hx hb dX8_town_247 rfl (lv_at hl 1 rfl) ?_
                  obtain ⟨hp, hv⟩ := hv
                  refine x_callv (wr := []) (w' := fun (u : (Nat → Int64)) => [(m0, .inr (8, [.ref m1, .ref m2, .ref m3, .ref m4, .ref m5, .ref m6, .ref m7, .ref m8, .ref m9, .int gm012_8, .int gm013_9, .int gm014_10, .int gm012_8, .int gm013_9, .int gm014_10, .int gm015_11, .int gm016_12, .ref m10, .int 0, .int ap2_42, .int gm020_14, .int gm021_15, .int gm022_16, .int gm023_17, .ref m11, .ref m12, .ref m13, .ref m14, .int wr])), aJ G m1 560 u, aZ G m2 2 ik, aI G m3 20 fm3_45, aI G m4 20 fm4_46, aI G m5 20 fm5_47, aI G m6 20 fm6_48, aI G m7 20 fm7_49, aI G m8 20 fm8_50, aI G m9 4 (upd (upd fm9_7 0 (fm9_7 2)) 1 ((upd fm9_7 0 (fm9_7 2)) 3)), aI G m10 400 tx, aI G m11 6 th, aI G m12 6 od, aI G m13 30 bk, aI G m14 30 bh]) (x_runV (As := []) (rest := []) (n := 0) (C := RX8) (ci := 8) ⟨hx, hb, hml, hown, hts⟩ (k_X8_begin l G m0 m1 m2 m3 m4 m5 m6 m7 m8 m9 m10 m11 m12 m13 m14 _ mw ik fm3_45 fm4_46 fm5_47 fm6_48 fm7_49 fm8_50 (upd (upd fm9_7 0 (fm9_7 2)) 1 ((upd fm9_7 0 (fm9_7 2)) 3)) tx th od bk bh gm012_8 gm013_9 gm014_10 gm012_8 gm013_9 gm014_10 gm015_11 gm016_12 0 ap2_42 gm020_14 gm021_15 gm022_16 gm023_17 wr hp) gX8_town_X8_begin rfl (by decide +kernel) ⟨Nat.le_trans (Nat.le_of_ble_eq_true rfl) hRf, Nat.le_trans (Nat.le_of_ble_eq_true rfl) hRl⟩ hKK hSS hS hA hP hD [0, 1, 2, 3, 4, 5, 6, 7, 8, 9, 10, 11, 12, 13, 14] (by decide) rfl rfl rfl 0 rfl rfl hl.1 rfl (Nat.le_of_ble_eq_true rfl) dX8_town_248) hP hD hS hA [0, 1, 2, 3, 4, 5, 6, 7, 8, 9, 10, 11, 12, 13, 14] [] [0, 1, 2, 3, 4, 5, 6, 7, 8, 9, 10, 11, 12, 13, 14] rfl rfl (by decide) (by decide) (by decide) (fun _ => rfl) (fun  u H locs hw hP hD hS => ?_)
                  obtain ⟨mw2_58, rfl⟩ : ∃ z, z = u := ⟨_, rfl⟩
                  have hP : va_P G.1 vwCl [(m0, .inr (8, [.ref m1, .ref m2, .ref m3, .ref m4, .ref m5, .ref m6, .ref m7, .ref m8, .ref m9, .int gm012_8, .int gm013_9, .int gm014_10, .int gm012_8, .int gm013_9, .int gm014_10, .int gm015_11, .int gm016_12, .ref m10, .int 0, .int ap2_42, .int gm020_14, .int gm021_15, .int gm022_16, .int gm023_17, .ref m11, .ref m12, .ref m13, .ref m14, .int wr])), aJ G m1 560 mw2_58, aZ G m2 2 ik, aI G m3 20 fm3_45, aI G m4 20 fm4_46, aI G m5 20 fm5_47, aI G m6 20 fm6_48, aI G m7 20 fm7_49, aI G m8 20 fm8_50, aI G m9 4 (upd (upd fm9_7 0 (fm9_7 2)) 1 ((upd fm9_7 0 (fm9_7 2)) 3)), aI G m10 400 tx, aI G m11 6 th, aI G m12 6 od, aI G m13 30 bk, aI G m14 30 bh] H := hP
                  have hD : va_D A [(m0, .inr (8, [.ref m1, .ref m2, .ref m3, .ref m4, .ref m5, .ref m6, .ref m7, .ref m8, .ref m9, .int gm012_8, .int gm013_9, .int gm014_10, .int gm012_8, .int gm013_9, .int gm014_10, .int gm015_11, .int gm016_12, .ref m10, .int 0, .int ap2_42, .int gm020_14, .int gm021_15, .int gm022_16, .int gm023_17, .ref m11, .ref m12, .ref m13, .ref m14, .int wr])), aJ G m1 560 mw2_58, aZ G m2 2 ik, aI G m3 20 fm3_45, aI G m4 20 fm4_46, aI G m5 20 fm5_47, aI G m6 20 fm6_48, aI G m7 20 fm7_49, aI G m8 20 fm8_50, aI G m9 4 (upd (upd fm9_7 0 (fm9_7 2)) 1 ((upd fm9_7 0 (fm9_7 2)) 3)), aI G m10 400 tx, aI G m11 6 th, aI G m12 6 od, aI G m13 30 bk, aI G m14 30 bh] := hD
                  have hv := hv mw2_58 hw
                  refine lv_aload_n hx hb dX8_town_251 rfl (lv_at hl 1 rfl) ?_
                  refine lv_iconst (v := 0) hx hb dX8_town_252 (by decide) ?_
                  refine va_put (D := G.1) (ci := 8) (v := .int 0) (ty := .int) (C := RX8) (T := TX8) (N := 29) hx hb hts hinX8 tyX8 tyX8_ok nmX8 hown hKK.1 hP hD hS 0 rfl rfl 28 (by decide) kl149 (fun _ h9 => h9) rfl (by decide +kernel) rfl rfl (Nat.le_of_ble_eq_true rfl) dX8_town_253 (fun H locs hP hD hS => ?_)
                  have hP : va_P G.1 vwCl [(m0, .inr (8, [.ref m1, .ref m2, .ref m3, .ref m4, .ref m5, .ref m6, .ref m7, .ref m8, .ref m9, .int gm012_8, .int gm013_9, .int gm014_10, .int gm012_8, .int gm013_9, .int gm014_10, .int gm015_11, .int gm016_12, .ref m10, .int 0, .int ap2_42, .int gm020_14, .int gm021_15, .int gm022_16, .int gm023_17, .ref m11, .ref m12, .ref m13, .ref m14, .int 0])), aJ G m1 560 mw2_58, aZ G m2 2 ik, aI G m3 20 fm3_45, aI G m4 20 fm4_46, aI G m5 20 fm5_47, aI G m6 20 fm6_48, aI G m7 20 fm7_49, aI G m8 20 fm8_50, aI G m9 4 (upd (upd fm9_7 0 (fm9_7 2)) 1 ((upd fm9_7 0 (fm9_7 2)) 3)), aI G m10 400 tx, aI G m11 6 th, aI G m12 6 od, aI G m13 30 bk, aI G m14 30 bh] H := hP
                  have hD : va_D A [(m0, .inr (8, [.ref m1, .ref m2, .ref m3, .ref m4, .ref m5, .ref m6, .ref m7, .ref m8, .ref m9, .int gm012_8, .int gm013_9, .int gm014_10, .int gm012_8, .int gm013_9, .int gm014_10, .int gm015_11, .int gm016_12, .ref m10, .int 0, .int ap2_42, .int gm020_14, .int gm021_15, .int gm022_16, .int gm023_17, .ref m11, .ref m12, .ref m13, .ref m14, .int 0])), aJ G m1 560 mw2_58, aZ G m2 2 ik, aI G m3 20 fm3_45, aI G m4 20 fm4_46, aI G m5 20 fm5_47, aI G m6 20 fm6_48, aI G m7 20 fm7_49, aI G m8 20 fm8_50, aI G m9 4 (upd (upd fm9_7 0 (fm9_7 2)) 1 ((upd fm9_7 0 (fm9_7 2)) 3)), aI G m10 400 tx, aI G m11 6 th, aI G m12 6 od, aI G m13 30 bk, aI G m14 30 bh] := hD
                  refine lv_aload_n hx hb dX8_town_256 rfl (lv_at hl 1 rfl) ?_
                  refine va_get (D := G.1) (ci := 8) (v := .ref m2) (C := RX8) (T := TX8) (N := 29) hx hb hts hinX8 hown hKK.1 hP 0 rfl rfl 1 (by decide) kl13 (fun _ h9 => h9) rfl dX8_town_257 ?_
                  refine lv_iconst (v := 0) hx hb dX8_town_260 (by decide) ?_
                  refine lv_iconst (v := 0) hx hb dX8_town_261 (by decide) ?_
                  refine va_zast hx hb hKK.1 hP hD hS 2 3 rfl rfl (by unfold vp_in; decide) dX8_town_262 (fun H locs hP hD hS => ?_)
                  have hP : va_P G.1 vwCl [(m0, .inr (8, [.ref m1, .ref m2, .ref m3, .ref m4, .ref m5, .ref m6, .ref m7, .ref m8, .ref m9, .int gm012_8, .int gm013_9, .int gm014_10, .int gm012_8, .int gm013_9, .int gm014_10, .int gm015_11, .int gm016_12, .ref m10, .int 0, .int ap2_42, .int gm020_14, .int gm021_15, .int gm022_16, .int gm023_17, .ref m11, .ref m12, .ref m13, .ref m14, .int 0])), aJ G m1 560 mw2_58, aZ G m2 2 (upd ik 0 (vp_nar .boolean 0)), aI G m3 20 fm3_45, aI G m4 20 fm4_46, aI G m5 20 fm5_47, aI G m6 20 fm6_48, aI G m7 20 fm7_49, aI G m8 20 fm8_50, aI G m9 4 (upd (upd fm9_7 0 (fm9_7 2)) 1 ((upd fm9_7 0 (fm9_7 2)) 3)), aI G m10 400 tx, aI G m11 6 th, aI G m12 6 od, aI G m13 30 bk, aI G m14 30 bh] H := hP
                  have hD : va_D A [(m0, .inr (8, [.ref m1, .ref m2, .ref m3, .ref m4, .ref m5, .ref m6, .ref m7, .ref m8, .ref m9, .int gm012_8, .int gm013_9, .int gm014_10, .int gm012_8, .int gm013_9, .int gm014_10, .int gm015_11, .int gm016_12, .ref m10, .int 0, .int ap2_42, .int gm020_14, .int gm021_15, .int gm022_16, .int gm023_17, .ref m11, .ref m12, .ref m13, .ref m14, .int 0])), aJ G m1 560 mw2_58, aZ G m2 2 (upd ik 0 (vp_nar .boolean 0)), aI G m3 20 fm3_45, aI G m4 20 fm4_46, aI G m5 20 fm5_47, aI G m6 20 fm6_48, aI G m7 20 fm7_49, aI G m8 20 fm8_50, aI G m9 4 (upd (upd fm9_7 0 (fm9_7 2)) 1 ((upd fm9_7 0 (fm9_7 2)) 3)), aI G m10 400 tx, aI G m11 6 th, aI G m12 6 od, aI G m13 30 bk, aI G m14 30 bh] := hD
                  refine lv_aload_n hx hb dX8_town_263 rfl (lv_at hl 1 rfl) ?_
                  refine va_get (D := G.1) (ci := 8) (v := .ref m2) (C := RX8) (T := TX8) (N := 29) hx hb hts hinX8 hown hKK.1 hP 0 rfl rfl 1 (by decide) kl13 (fun _ h9 => h9) rfl dX8_town_264 ?_
                  refine lv_iconst (v := 1) hx hb dX8_town_267 (by decide) ?_
                  refine lv_iconst (v := 0) hx hb dX8_town_268 (by decide) ?_
                  refine va_zast hx hb hKK.1 hP hD hS 2 3 rfl rfl (by unfold vp_in; decide) dX8_town_269 (fun H locs hP hD hS => ?_)
                  have hP : va_P G.1 vwCl [(m0, .inr (8, [.ref m1, .ref m2, .ref m3, .ref m4, .ref m5, .ref m6, .ref m7, .ref m8, .ref m9, .int gm012_8, .int gm013_9, .int gm014_10, .int gm012_8, .int gm013_9, .int gm014_10, .int gm015_11, .int gm016_12, .ref m10, .int 0, .int ap2_42, .int gm020_14, .int gm021_15, .int gm022_16, .int gm023_17, .ref m11, .ref m12, .ref m13, .ref m14, .int 0])), aJ G m1 560 mw2_58, aZ G m2 2 (upd (upd ik 0 (vp_nar .boolean 0)) 1 (vp_nar .boolean 0)), aI G m3 20 fm3_45, aI G m4 20 fm4_46, aI G m5 20 fm5_47, aI G m6 20 fm6_48, aI G m7 20 fm7_49, aI G m8 20 fm8_50, aI G m9 4 (upd (upd fm9_7 0 (fm9_7 2)) 1 ((upd fm9_7 0 (fm9_7 2)) 3)), aI G m10 400 tx, aI G m11 6 th, aI G m12 6 od, aI G m13 30 bk, aI G m14 30 bh] H := hP
                  have hD : va_D A [(m0, .inr (8, [.ref m1, .ref m2, .ref m3, .ref m4, .ref m5, .ref m6, .ref m7, .ref m8, .ref m9, .int gm012_8, .int gm013_9, .int gm014_10, .int gm012_8, .int gm013_9, .int gm014_10, .int gm015_11, .int gm016_12, .ref m10, .int 0, .int ap2_42, .int gm020_14, .int gm021_15, .int gm022_16, .int gm023_17, .ref m11, .ref m12, .ref m13, .ref m14, .int 0])), aJ G m1 560 mw2_58, aZ G m2 2 (upd (upd ik 0 (vp_nar .boolean 0)) 1 (vp_nar .boolean 0)), aI G m3 20 fm3_45, aI G m4 20 fm4_46, aI G m5 20 fm5_47, aI G m6 20 fm6_48, aI G m7 20 fm7_49, aI G m8 20 fm8_50, aI G m9 4 (upd (upd fm9_7 0 (fm9_7 2)) 1 ((upd fm9_7 0 (fm9_7 2)) 3)), aI G m10 400 tx, aI G m11 6 th, aI G m12 6 od, aI G m13 30 bk, aI G m14 30 bh] := hD
                  refine lv_aload_n hx hb dX8_town_270 rfl (lv_at hl 1 rfl) ?_
                  refine va_get (D := G.1) (ci := 8) (v := .ref m9) (C := RX8) (T := TX8) (N := 29) hx hb hts hinX8 hown hKK.1 hP 0 rfl rfl 8 (by decide) kl36 (fun _ h9 => h9) rfl dX8_town_271 ?_
                  refine lv_iconst (v := 0) hx hb dX8_town_274 (by decide) ?_
                  refine va_iald hx hb hKK.1 hP 9 0 rfl rfl (by unfold vp_in; decide) dX8_town_275 ?_
                  exact x_iret (v := ((upd (upd fm9_7 0 (fm9_7 2)) 1 ((upd fm9_7 0 (fm9_7 2)) 3)) 0)) (mw2_58, (upd (upd ik 0 (vp_nar .boolean 0)) 1 (vp_nar .boolean 0)), fm3_45, fm4_46, fm5_47, fm6_48, fm7_49, fm8_50, (upd (upd fm9_7 0 (fm9_7 2)) 1 ((upd fm9_7 0 (fm9_7 2)) 3)), gm012_8, gm013_9, gm014_10, gm012_8, gm013_9, gm014_10, gm015_11, gm016_12, 0, ap2_42, gm020_14, gm021_15, gm022_16, gm023_17, 0) hQ hx hb hr hlocks hS dX8_town_276 hv hP hD
                · have hv := hv.2 hc_56
                  refine lv_aload_n hx hb dX8_town_151 rfl (lv_at hl 1 rfl) ?_
                  refine va_get (D := G.1) (ci := 8) (v := .ref m3) (C := RX8) (T := TX8) (N := 29) hx hb hts hinX8 hown hKK.1 hP 0 rfl rfl 2 (by decide) kl17 (fun _ h9 => h9) rfl dX8_town_152 ?_
                  refine lv_iload_n hx hb dX8_town_155 rfl (lv_at hl 0 rfl) ?_
                  refine lv_aload_n hx hb dX8_town_156 rfl (lv_at hl 1 rfl) ?_
                  refine va_get (D := G.1) (ci := 8) (v := .ref m3) (C := RX8) (T := TX8) (N := 29) hx hb hts hinX8 hown hKK.1 hP 0 rfl rfl 2 (by decide) kl17 (fun _ h9 => h9) rfl dX8_town_157 ?_
                  refine lv_bipush (v := 10) hx hb dX8_town_160 (by decide) ?_
                  refine lv_iload_n hx hb dX8_town_162 rfl (lv_at hl 0 rfl) ?_
                  refine lv_iadd hx hb dX8_town_163 ?_
                  obtain ⟨hin, hv⟩ := hv
                  refine va_iald hx hb hKK.1 hP 3 0 rfl rfl hin dX8_town_164 ?_
                  obtain ⟨hin, hv⟩ := hv
                  refine va_iast hx hb hKK.1 hP hD hS 3 0 rfl rfl hin dX8_town_165 (fun H locs hP hD hS => ?_)
                  have hP : va_P G.1 vwCl [(m0, .inr (8, [.ref m1, .ref m2, .ref m3, .ref m4, .ref m5, .ref m6, .ref m7, .ref m8, .ref m9, .int gm012_8, .int gm013_9, .int gm014_10, .int gm012_8, .int gm013_9, .int gm014_10, .int gm015_11, .int gm016_12, .ref m10, .int 0, .int ap2_42, .int gm020_14, .int gm021_15, .int gm022_16, .int gm023_17, .ref m11, .ref m12, .ref m13, .ref m14, .int wr])), aJ G m1 560 mw, aZ G m2 2 ik, aI G m3 20 (upd fm3_45 x1_51.toNatClampNeg (fm3_45 (10 + x1_51).toNatClampNeg)), aI G m4 20 fm4_46, aI G m5 20 fm5_47, aI G m6 20 fm6_48, aI G m7 20 fm7_49, aI G m8 20 fm8_50, aI G m9 4 (upd (upd fm9_7 0 (fm9_7 2)) 1 ((upd fm9_7 0 (fm9_7 2)) 3)), aI G m10 400 tx, aI G m11 6 th, aI G m12 6 od, aI G m13 30 bk, aI G m14 30 bh] H := hP
                  have hD : va_D A [(m0, .inr (8, [.ref m1, .ref m2, .ref m3, .ref m4, .ref m5, .ref m6, .ref m7, .ref m8, .ref m9, .int gm012_8, .int gm013_9, .int gm014_10, .int gm012_8, .int gm013_9, .int gm014_10, .int gm015_11, .int gm016_12, .ref m10, .int 0, .int ap2_42, .int gm020_14, .int gm021_15, .int gm022_16, .int gm023_17, .ref m11, .ref m12, .ref m13, .ref m14, .int wr])), aJ G m1 560 mw, aZ G m2 2 ik, aI G m3 20 (upd fm3_45 x1_51.toNatClampNeg (fm3_45 (10 + x1_51).toNatClampNeg)), aI G m4 20 fm4_46, aI G m5 20 fm5_47, aI G m6 20 fm6_48, aI G m7 20 fm7_49, aI G m8 20 fm8_50, aI G m9 4 (upd (upd fm9_7 0 (fm9_7 2)) 1 ((upd fm9_7 0 (fm9_7 2)) 3)), aI G m10 400 tx, aI G m11 6 th, aI G m12 6 od, aI G m13 30 bk, aI G m14 30 bh] := hD
                  refine lv_aload_n hx hb dX8_town_166 rfl (lv_at hl 1 rfl) ?_
                  refine va_get (D := G.1) (ci := 8) (v := .ref m4) (C := RX8) (T := TX8) (N := 29) hx hb hts hinX8 hown hKK.1 hP 0 rfl rfl 3 (by decide) kl21 (fun _ h9 => h9) rfl dX8_town_167 ?_
                  refine lv_iload_n hx hb dX8_town_170 rfl (lv_at hl 0 rfl) ?_
                  refine lv_aload_n hx hb dX8_town_171 rfl (lv_at hl 1 rfl) ?_
                  refine va_get (D := G.1) (ci := 8) (v := .ref m4) (C := RX8) (T := TX8) (N := 29) hx hb hts hinX8 hown hKK.1 hP 0 rfl rfl 3 (by decide) kl21 (fun _ h9 => h9) rfl dX8_town_172 ?_
                  refine lv_bipush (v := 10) hx hb dX8_town_175 (by decide) ?_
                  refine lv_iload_n hx hb dX8_town_177 rfl (lv_at hl 0 rfl) ?_
                  refine lv_iadd hx hb dX8_town_178 ?_
                  obtain ⟨hin, hv⟩ := hv
                  refine va_iald hx hb hKK.1 hP 4 0 rfl rfl hin dX8_town_179 ?_
                  obtain ⟨hin, hv⟩ := hv
                  refine va_iast hx hb hKK.1 hP hD hS 4 0 rfl rfl hin dX8_town_180 (fun H locs hP hD hS => ?_)
                  have hP : va_P G.1 vwCl [(m0, .inr (8, [.ref m1, .ref m2, .ref m3, .ref m4, .ref m5, .ref m6, .ref m7, .ref m8, .ref m9, .int gm012_8, .int gm013_9, .int gm014_10, .int gm012_8, .int gm013_9, .int gm014_10, .int gm015_11, .int gm016_12, .ref m10, .int 0, .int ap2_42, .int gm020_14, .int gm021_15, .int gm022_16, .int gm023_17, .ref m11, .ref m12, .ref m13, .ref m14, .int wr])), aJ G m1 560 mw, aZ G m2 2 ik, aI G m3 20 (upd fm3_45 x1_51.toNatClampNeg (fm3_45 (10 + x1_51).toNatClampNeg)), aI G m4 20 (upd fm4_46 x1_51.toNatClampNeg (fm4_46 (10 + x1_51).toNatClampNeg)), aI G m5 20 fm5_47, aI G m6 20 fm6_48, aI G m7 20 fm7_49, aI G m8 20 fm8_50, aI G m9 4 (upd (upd fm9_7 0 (fm9_7 2)) 1 ((upd fm9_7 0 (fm9_7 2)) 3)), aI G m10 400 tx, aI G m11 6 th, aI G m12 6 od, aI G m13 30 bk, aI G m14 30 bh] H := hP
                  have hD : va_D A [(m0, .inr (8, [.ref m1, .ref m2, .ref m3, .ref m4, .ref m5, .ref m6, .ref m7, .ref m8, .ref m9, .int gm012_8, .int gm013_9, .int gm014_10, .int gm012_8, .int gm013_9, .int gm014_10, .int gm015_11, .int gm016_12, .ref m10, .int 0, .int ap2_42, .int gm020_14, .int gm021_15, .int gm022_16, .int gm023_17, .ref m11, .ref m12, .ref m13, .ref m14, .int wr])), aJ G m1 560 mw, aZ G m2 2 ik, aI G m3 20 (upd fm3_45 x1_51.toNatClampNeg (fm3_45 (10 + x1_51).toNatClampNeg)), aI G m4 20 (upd fm4_46 x1_51.toNatClampNeg (fm4_46 (10 + x1_51).toNatClampNeg)), aI G m5 20 fm5_47, aI G m6 20 fm6_48, aI G m7 20 fm7_49, aI G m8 20 fm8_50, aI G m9 4 (upd (upd fm9_7 0 (fm9_7 2)) 1 ((upd fm9_7 0 (fm9_7 2)) 3)), aI G m10 400 tx, aI G m11 6 th, aI G m12 6 od, aI G m13 30 bk, aI G m14 30 bh] := hD
                  refine lv_aload_n hx hb dX8_town_181 rfl (lv_at hl 1 rfl) ?_
                  refine va_get (D := G.1) (ci := 8) (v := .ref m5) (C := RX8) (T := TX8) (N := 29) hx hb hts hinX8 hown hKK.1 hP 0 rfl rfl 4 (by decide) kl24 (fun _ h9 => h9) rfl dX8_town_182 ?_
                  refine lv_iload_n hx hb dX8_town_185 rfl (lv_at hl 0 rfl) ?_
                  refine lv_aload_n hx hb dX8_town_186 rfl (lv_at hl 1 rfl) ?_
                  refine va_get (D := G.1) (ci := 8) (v := .ref m5) (C := RX8) (T := TX8) (N := 29) hx hb hts hinX8 hown hKK.1 hP 0 rfl rfl 4 (by decide) kl24 (fun _ h9 => h9) rfl dX8_town_187 ?_
                  refine lv_bipush (v := 10) hx hb dX8_town_190 (by decide) ?_
                  refine lv_iload_n hx hb dX8_town_192 rfl (lv_at hl 0 rfl) ?_
                  refine lv_iadd hx hb dX8_town_193 ?_
                  obtain ⟨hin, hv⟩ := hv
                  refine va_iald hx hb hKK.1 hP 5 0 rfl rfl hin dX8_town_194 ?_
                  obtain ⟨hin, hv⟩ := hv
                  refine va_iast hx hb hKK.1 hP hD hS 5 0 rfl rfl hin dX8_town_195 (fun H locs hP hD hS => ?_)
                  have hP : va_P G.1 vwCl [(m0, .inr (8, [.ref m1, .ref m2, .ref m3, .ref m4, .ref m5, .ref m6, .ref m7, .ref m8, .ref m9, .int gm012_8, .int gm013_9, .int gm014_10, .int gm012_8, .int gm013_9, .int gm014_10, .int gm015_11, .int gm016_12, .ref m10, .int 0, .int ap2_42, .int gm020_14, .int gm021_15, .int gm022_16, .int gm023_17, .ref m11, .ref m12, .ref m13, .ref m14, .int wr])), aJ G m1 560 mw, aZ G m2 2 ik, aI G m3 20 (upd fm3_45 x1_51.toNatClampNeg (fm3_45 (10 + x1_51).toNatClampNeg)), aI G m4 20 (upd fm4_46 x1_51.toNatClampNeg (fm4_46 (10 + x1_51).toNatClampNeg)), aI G m5 20 (upd fm5_47 x1_51.toNatClampNeg (fm5_47 (10 + x1_51).toNatClampNeg)), aI G m6 20 fm6_48, aI G m7 20 fm7_49, aI G m8 20 fm8_50, aI G m9 4 (upd (upd fm9_7 0 (fm9_7 2)) 1 ((upd fm9_7 0 (fm9_7 2)) 3)), aI G m10 400 tx, aI G m11 6 th, aI G m12 6 od, aI G m13 30 bk, aI G m14 30 bh] H := hP
                  have hD : va_D A [(m0, .inr (8, [.ref m1, .ref m2, .ref m3, .ref m4, .ref m5, .ref m6, .ref m7, .ref m8, .ref m9, .int gm012_8, .int gm013_9, .int gm014_10, .int gm012_8, .int gm013_9, .int gm014_10, .int gm015_11, .int gm016_12, .ref m10, .int 0, .int ap2_42, .int gm020_14, .int gm021_15, .int gm022_16, .int gm023_17, .ref m11, .ref m12, .ref m13, .ref m14, .int wr])), aJ G m1 560 mw, aZ G m2 2 ik, aI G m3 20 (upd fm3_45 x1_51.toNatClampNeg (fm3_45 (10 + x1_51).toNatClampNeg)), aI G m4 20 (upd fm4_46 x1_51.toNatClampNeg (fm4_46 (10 + x1_51).toNatClampNeg)), aI G m5 20 (upd fm5_47 x1_51.toNatClampNeg (fm5_47 (10 + x1_51).toNatClampNeg)), aI G m6 20 fm6_48, aI G m7 20 fm7_49, aI G m8 20 fm8_50, aI G m9 4 (upd (upd fm9_7 0 (fm9_7 2)) 1 ((upd fm9_7 0 (fm9_7 2)) 3)), aI G m10 400 tx, aI G m11 6 th, aI G m12 6 od, aI G m13 30 bk, aI G m14 30 bh] := hD
                  refine lv_aload_n hx hb dX8_town_196 rfl (lv_at hl 1 rfl) ?_
                  refine va_get (D := G.1) (ci := 8) (v := .ref m6) (C := RX8) (T := TX8) (N := 29) hx hb hts hinX8 hown hKK.1 hP 0 rfl rfl 5 (by decide) kl27 (fun _ h9 => h9) rfl dX8_town_197 ?_
                  refine lv_iload_n hx hb dX8_town_200 rfl (lv_at hl 0 rfl) ?_
                  refine lv_aload_n hx hb dX8_town_201 rfl (lv_at hl 1 rfl) ?_
                  refine va_get (D := G.1) (ci := 8) (v := .ref m6) (C := RX8) (T := TX8) (N := 29) hx hb hts hinX8 hown hKK.1 hP 0 rfl rfl 5 (by decide) kl27 (fun _ h9 => h9) rfl dX8_town_202 ?_
                  refine lv_bipush (v := 10) hx hb dX8_town_205 (by decide) ?_
                  refine lv_iload_n hx hb dX8_town_207 rfl (lv_at hl 0 rfl) ?_
                  refine lv_iadd hx hb dX8_town_208 ?_
                  obtain ⟨hin, hv⟩ := hv
                  refine va_iald hx hb hKK.1 hP 6 0 rfl rfl hin dX8_town_209 ?_
                  obtain ⟨hin, hv⟩ := hv
                  refine va_iast hx hb hKK.1 hP hD hS 6 0 rfl rfl hin dX8_town_210 (fun H locs hP hD hS => ?_)
                  have hP : va_P G.1 vwCl [(m0, .inr (8, [.ref m1, .ref m2, .ref m3, .ref m4, .ref m5, .ref m6, .ref m7, .ref m8, .ref m9, .int gm012_8, .int gm013_9, .int gm014_10, .int gm012_8, .int gm013_9, .int gm014_10, .int gm015_11, .int gm016_12, .ref m10, .int 0, .int ap2_42, .int gm020_14, .int gm021_15, .int gm022_16, .int gm023_17, .ref m11, .ref m12, .ref m13, .ref m14, .int wr])), aJ G m1 560 mw, aZ G m2 2 ik, aI G m3 20 (upd fm3_45 x1_51.toNatClampNeg (fm3_45 (10 + x1_51).toNatClampNeg)), aI G m4 20 (upd fm4_46 x1_51.toNatClampNeg (fm4_46 (10 + x1_51).toNatClampNeg)), aI G m5 20 (upd fm5_47 x1_51.toNatClampNeg (fm5_47 (10 + x1_51).toNatClampNeg)), aI G m6 20 (upd fm6_48 x1_51.toNatClampNeg (fm6_48 (10 + x1_51).toNatClampNeg)), aI G m7 20 fm7_49, aI G m8 20 fm8_50, aI G m9 4 (upd (upd fm9_7 0 (fm9_7 2)) 1 ((upd fm9_7 0 (fm9_7 2)) 3)), aI G m10 400 tx, aI G m11 6 th, aI G m12 6 od, aI G m13 30 bk, aI G m14 30 bh] H := hP
                  have hD : va_D A [(m0, .inr (8, [.ref m1, .ref m2, .ref m3, .ref m4, .ref m5, .ref m6, .ref m7, .ref m8, .ref m9, .int gm012_8, .int gm013_9, .int gm014_10, .int gm012_8, .int gm013_9, .int gm014_10, .int gm015_11, .int gm016_12, .ref m10, .int 0, .int ap2_42, .int gm020_14, .int gm021_15, .int gm022_16, .int gm023_17, .ref m11, .ref m12, .ref m13, .ref m14, .int wr])), aJ G m1 560 mw, aZ G m2 2 ik, aI G m3 20 (upd fm3_45 x1_51.toNatClampNeg (fm3_45 (10 + x1_51).toNatClampNeg)), aI G m4 20 (upd fm4_46 x1_51.toNatClampNeg (fm4_46 (10 + x1_51).toNatClampNeg)), aI G m5 20 (upd fm5_47 x1_51.toNatClampNeg (fm5_47 (10 + x1_51).toNatClampNeg)), aI G m6 20 (upd fm6_48 x1_51.toNatClampNeg (fm6_48 (10 + x1_51).toNatClampNeg)), aI G m7 20 fm7_49, aI G m8 20 fm8_50, aI G m9 4 (upd (upd fm9_7 0 (fm9_7 2)) 1 ((upd fm9_7 0 (fm9_7 2)) 3)), aI G m10 400 tx, aI G m11 6 th, aI G m12 6 od, aI G m13 30 bk, aI G m14 30 bh] := hD
                  refine lv_aload_n hx hb dX8_town_211 rfl (lv_at hl 1 rfl) ?_
                  refine va_get (D := G.1) (ci := 8) (v := .ref m7) (C := RX8) (T := TX8) (N := 29) hx hb hts hinX8 hown hKK.1 hP 0 rfl rfl 6 (by decide) kl30 (fun _ h9 => h9) rfl dX8_town_212 ?_
                  refine lv_iload_n hx hb dX8_town_215 rfl (lv_at hl 0 rfl) ?_
                  refine lv_aload_n hx hb dX8_town_216 rfl (lv_at hl 1 rfl) ?_
                  refine va_get (D := G.1) (ci := 8) (v := .ref m7) (C := RX8) (T := TX8) (N := 29) hx hb hts hinX8 hown hKK.1 hP 0 rfl rfl 6 (by decide) kl30 (fun _ h9 => h9) rfl dX8_town_217 ?_
                  refine lv_bipush (v := 10) hx hb dX8_town_220 (by decide) ?_
                  refine lv_iload_n hx hb dX8_town_222 rfl (lv_at hl 0 rfl) ?_
                  refine lv_iadd hx hb dX8_town_223 ?_
                  obtain ⟨hin, hv⟩ := hv
                  refine va_iald hx hb hKK.1 hP 7 0 rfl rfl hin dX8_town_224 ?_
                  obtain ⟨hin, hv⟩ := hv
                  refine va_iast hx hb hKK.1 hP hD hS 7 0 rfl rfl hin dX8_town_225 (fun H locs hP hD hS => ?_)
                  have hP : va_P G.1 vwCl [(m0, .inr (8, [.ref m1, .ref m2, .ref m3, .ref m4, .ref m5, .ref m6, .ref m7, .ref m8, .ref m9, .int gm012_8, .int gm013_9, .int gm014_10, .int gm012_8, .int gm013_9, .int gm014_10, .int gm015_11, .int gm016_12, .ref m10, .int 0, .int ap2_42, .int gm020_14, .int gm021_15, .int gm022_16, .int gm023_17, .ref m11, .ref m12, .ref m13, .ref m14, .int wr])), aJ G m1 560 mw, aZ G m2 2 ik, aI G m3 20 (upd fm3_45 x1_51.toNatClampNeg (fm3_45 (10 + x1_51).toNatClampNeg)), aI G m4 20 (upd fm4_46 x1_51.toNatClampNeg (fm4_46 (10 + x1_51).toNatClampNeg)), aI G m5 20 (upd fm5_47 x1_51.toNatClampNeg (fm5_47 (10 + x1_51).toNatClampNeg)), aI G m6 20 (upd fm6_48 x1_51.toNatClampNeg (fm6_48 (10 + x1_51).toNatClampNeg)), aI G m7 20 (upd fm7_49 x1_51.toNatClampNeg (fm7_49 (10 + x1_51).toNatClampNeg)), aI G m8 20 fm8_50, aI G m9 4 (upd (upd fm9_7 0 (fm9_7 2)) 1 ((upd fm9_7 0 (fm9_7 2)) 3)), aI G m10 400 tx, aI G m11 6 th, aI G m12 6 od, aI G m13 30 bk, aI G m14 30 bh] H := hP
                  have hD : va_D A [(m0, .inr (8, [.ref m1, .ref m2, .ref m3, .ref m4, .ref m5, .ref m6, .ref m7, .ref m8, .ref m9, .int gm012_8, .int gm013_9, .int gm014_10, .int gm012_8, .int gm013_9, .int gm014_10, .int gm015_11, .int gm016_12, .ref m10, .int 0, .int ap2_42, .int gm020_14, .int gm021_15, .int gm022_16, .int gm023_17, .ref m11, .ref m12, .ref m13, .ref m14, .int wr])), aJ G m1 560 mw, aZ G m2 2 ik, aI G m3 20 (upd fm3_45 x1_51.toNatClampNeg (fm3_45 (10 + x1_51).toNatClampNeg)), aI G m4 20 (upd fm4_46 x1_51.toNatClampNeg (fm4_46 (10 + x1_51).toNatClampNeg)), aI G m5 20 (upd fm5_47 x1_51.toNatClampNeg (fm5_47 (10 + x1_51).toNatClampNeg)), aI G m6 20 (upd fm6_48 x1_51.toNatClampNeg (fm6_48 (10 + x1_51).toNatClampNeg)), aI G m7 20 (upd fm7_49 x1_51.toNatClampNeg (fm7_49 (10 + x1_51).toNatClampNeg)), aI G m8 20 fm8_50, aI G m9 4 (upd (upd fm9_7 0 (fm9_7 2)) 1 ((upd fm9_7 0 (fm9_7 2)) 3)), aI G m10 400 tx, aI G m11 6 th, aI G m12 6 od, aI G m13 30 bk, aI G m14 30 bh] := hD
                  refine lv_aload_n hx hb dX8_town_226 rfl (lv_at hl 1 rfl) ?_
                  refine va_get (D := G.1) (ci := 8) (v := .ref m8) (C := RX8) (T := TX8) (N := 29) hx hb hts hinX8 hown hKK.1 hP 0 rfl rfl 7 (by decide) kl33 (fun _ h9 => h9) rfl dX8_town_227 ?_
                  refine lv_iload_n hx hb dX8_town_230 rfl (lv_at hl 0 rfl) ?_
                  refine lv_aload_n hx hb dX8_town_231 rfl (lv_at hl 1 rfl) ?_
                  refine va_get (D := G.1) (ci := 8) (v := .ref m8) (C := RX8) (T := TX8) (N := 29) hx hb hts hinX8 hown hKK.1 hP 0 rfl rfl 7 (by decide) kl33 (fun _ h9 => h9) rfl dX8_town_232 ?_
                  refine lv_bipush (v := 10) hx hb dX8_town_235 (by decide) ?_
                  refine lv_iload_n hx hb dX8_town_237 rfl (lv_at hl 0 rfl) ?_
                  refine lv_iadd hx hb dX8_town_238 ?_
                  obtain ⟨hin, hv⟩ := hv
                  refine va_iald hx hb hKK.1 hP 8 0 rfl rfl hin dX8_town_239 ?_
                  obtain ⟨hin, hv⟩ := hv
                  refine va_iast hx hb hKK.1 hP hD hS 8 0 rfl rfl hin dX8_town_240 (fun H locs hP hD hS => ?_)
                  have hP : va_P G.1 vwCl [(m0, .inr (8, [.ref m1, .ref m2, .ref m3, .ref m4, .ref m5, .ref m6, .ref m7, .ref m8, .ref m9, .int gm012_8, .int gm013_9, .int gm014_10, .int gm012_8, .int gm013_9, .int gm014_10, .int gm015_11, .int gm016_12, .ref m10, .int 0, .int ap2_42, .int gm020_14, .int gm021_15, .int gm022_16, .int gm023_17, .ref m11, .ref m12, .ref m13, .ref m14, .int wr])), aJ G m1 560 mw, aZ G m2 2 ik, aI G m3 20 (upd fm3_45 x1_51.toNatClampNeg (fm3_45 (10 + x1_51).toNatClampNeg)), aI G m4 20 (upd fm4_46 x1_51.toNatClampNeg (fm4_46 (10 + x1_51).toNatClampNeg)), aI G m5 20 (upd fm5_47 x1_51.toNatClampNeg (fm5_47 (10 + x1_51).toNatClampNeg)), aI G m6 20 (upd fm6_48 x1_51.toNatClampNeg (fm6_48 (10 + x1_51).toNatClampNeg)), aI G m7 20 (upd fm7_49 x1_51.toNatClampNeg (fm7_49 (10 + x1_51).toNatClampNeg)), aI G m8 20 (upd fm8_50 x1_51.toNatClampNeg (fm8_50 (10 + x1_51).toNatClampNeg)), aI G m9 4 (upd (upd fm9_7 0 (fm9_7 2)) 1 ((upd fm9_7 0 (fm9_7 2)) 3)), aI G m10 400 tx, aI G m11 6 th, aI G m12 6 od, aI G m13 30 bk, aI G m14 30 bh] H := hP
                  have hD : va_D A [(m0, .inr (8, [.ref m1, .ref m2, .ref m3, .ref m4, .ref m5, .ref m6, .ref m7, .ref m8, .ref m9, .int gm012_8, .int gm013_9, .int gm014_10, .int gm012_8, .int gm013_9, .int gm014_10, .int gm015_11, .int gm016_12, .ref m10, .int 0, .int ap2_42, .int gm020_14, .int gm021_15, .int gm022_16, .int gm023_17, .ref m11, .ref m12, .ref m13, .ref m14, .int wr])), aJ G m1 560 mw, aZ G m2 2 ik, aI G m3 20 (upd fm3_45 x1_51.toNatClampNeg (fm3_45 (10 + x1_51).toNatClampNeg)), aI G m4 20 (upd fm4_46 x1_51.toNatClampNeg (fm4_46 (10 + x1_51).toNatClampNeg)), aI G m5 20 (upd fm5_47 x1_51.toNatClampNeg (fm5_47 (10 + x1_51).toNatClampNeg)), aI G m6 20 (upd fm6_48 x1_51.toNatClampNeg (fm6_48 (10 + x1_51).toNatClampNeg)), aI G m7 20 (upd fm7_49 x1_51.toNatClampNeg (fm7_49 (10 + x1_51).toNatClampNeg)), aI G m8 20 (upd fm8_50 x1_51.toNatClampNeg (fm8_50 (10 + x1_51).toNatClampNeg)), aI G m9 4 (upd (upd fm9_7 0 (fm9_7 2)) 1 ((upd fm9_7 0 (fm9_7 2)) 3)), aI G m10 400 tx, aI G m11 6 th, aI G m12 6 od, aI G m13 30 bk, aI G m14 30 bh] := hD
                  refine lv_iinc (v := (x1_51 + 1)) (lv' := [(1, .int (x1_51 + 1)), (0, .ref m0)]) hx hb dX8_town_241 hl (k := 0) rfl rfl (by decide) rfl (fun ls hl => ?_)
                  refine lv_goto (tgt := 145) hx hb dX8_town_244 (by decide) ?_
                  exact ih_54 _ _ _ _ _ _ _ _ _ _ (Nat.lt_of_lt_of_le hv.2 (Nat.le_of_lt_succ hI_55)) hv.1 hP hD hS hl
            exact Lm_61 _ _ _ _ _ _ _ _ _ _ _ (Nat.lt_succ_self _) hi0 hP hD hS hl
          · have hv := hv.2 hc_44
            refine lv_bipush (v := (-10)) hx hb dX8_town_87 (by decide) ?_
            refine lv_aload_n hx hb dX8_town_89 rfl (lv_at hl 0 rfl) ?_
            refine va_get (D := G.1) (ci := 8) (v := .int gm022_16) (C := RX8) (T := TX8) (N := 29) hx hb hts hinX8 hown hKK.1 hP 0 rfl rfl 22 (by decide) kl83 (fun _ h9 => h9) rfl dX8_town_90 ?_
            refine lv_isub hx hb dX8_town_93 ?_
            exact x_iret (v := ((-10) - gm022_16)) (mw, ik, fm3_1, fm4_2, fm5_3, fm6_4, fm7_5, fm8_6, fm9_7, fu, fd, fi, gm012_8, gm013_9, gm014_10, gm015_11, gm016_12, 0, ap2_42, gm020_14, gm021_15, gm022_16, gm023_17, wr) hQ hx hb hr hlocks hS dX8_town_94 hv hP hD
        · have hv := hv.2 hc_43
          refine lv_aload_n hx hb dX8_town_68 rfl (lv_at hl 0 rfl) ?_
          obtain ⟨hp, hv⟩ := hv
          refine x_callv (wr := []) (w' := fun (u : (Nat → Int32) × (Nat → Int32) × (Nat → Int32) × (Nat → Int32) × (Nat → Int32) × (Nat → Int32) × (Nat → Int32) × (Int32) × (Int32) × (Int32) × (Int32) × (Int32) × (Int32) × (Int32) × (Int32) × (Int32) × (Int32)) => [(m0, .inr (8, [.ref m1, .ref m2, .ref m3, .ref m4, .ref m5, .ref m6, .ref m7, .ref m8, .ref m9, .int fu, .int fd, .int fi, .int u.2.2.2.2.2.2.2.2.2.2.2.2.2.2.1, .int u.2.2.2.2.2.2.2.2.2.2.2.2.2.2.2.1, .int u.2.2.2.2.2.2.2.2.2.2.2.2.2.2.2.2, .int u.2.2.2.2.2.2.2.2.2.2.2.2.1, .int u.2.2.2.2.2.2.2.2.2.2.2.2.2.1, .ref m10, .int ts, .int u.2.2.2.2.2.2.2.1, .int u.2.2.2.2.2.2.2.2.1, .int u.2.2.2.2.2.2.2.2.2.1, .int u.2.2.2.2.2.2.2.2.2.2.1, .int u.2.2.2.2.2.2.2.2.2.2.2.1, .ref m11, .ref m12, .ref m13, .ref m14, .int wr])), aJ G m1 560 mw, aZ G m2 2 ik, aI G m3 20 u.1, aI G m4 20 u.2.1, aI G m5 20 u.2.2.1, aI G m6 20 u.2.2.2.1, aI G m7 20 u.2.2.2.2.1, aI G m8 20 u.2.2.2.2.2.1, aI G m9 4 u.2.2.2.2.2.2.1, aI G m10 400 tx, aI G m11 6 th, aI G m12 6 od, aI G m13 30 bk, aI G m14 30 bh]) (x_runV (As := []) (rest := []) (n := 0) (C := RX8) (ci := 8) ⟨hx, hb, hml, hown, hts⟩ (k_X8_takeClause l G m0 m1 m2 m3 m4 m5 m6 m7 m8 m9 m10 m11 m12 m13 m14 _ mw ik fm3_1 fm4_2 fm5_3 fm6_4 fm7_5 fm8_6 fm9_7 tx th od bk bh fu fd fi gm012_8 gm013_9 gm014_10 gm015_11 gm016_12 ts ap2_42 gm020_14 gm021_15 gm022_16 gm023_17 wr hp) gX8_town_X8_takeClause rfl (by decide +kernel) ⟨Nat.le_trans (Nat.le_of_ble_eq_true rfl) hRf, Nat.le_trans (Nat.le_of_ble_eq_true rfl) hRl⟩ hKK hSS hS hA hP hD [0, 1, 2, 3, 4, 5, 6, 7, 8, 9, 10, 11, 12, 13, 14] (by decide) rfl rfl rfl 0 rfl rfl hl.1 rfl (Nat.le_of_ble_eq_true rfl) dX8_town_69) hP hD hS hA [0, 1, 2, 3, 4, 5, 6, 7, 8, 9, 10, 11, 12, 13, 14] [] [0, 1, 2, 3, 4, 5, 6, 7, 8, 9, 10, 11, 12, 13, 14] rfl rfl (by decide) (by decide) (by decide) (fun _ => rfl) (fun  u H locs hw hP hD hS => ?_)
          obtain ⟨zs2_63, cl2_64, hs2_65, ks2_66, wa2_67, ne2_68, mn2_69, ap2_70, fs2_71, ln2_72, fo2_73, fa2_74, bf2_75, bn2_76, nu2_77, nw2_78, nf2_79⟩ := u
          have hP : va_P G.1 vwCl [(m0, .inr (8, [.ref m1, .ref m2, .ref m3, .ref m4, .ref m5, .ref m6, .ref m7, .ref m8, .ref m9, .int fu, .int fd, .int fi, .int nu2_77, .int nw2_78, .int nf2_79, .int bf2_75, .int bn2_76, .ref m10, .int ts, .int ap2_70, .int fs2_71, .int ln2_72, .int fo2_73, .int fa2_74, .ref m11, .ref m12, .ref m13, .ref m14, .int wr])), aJ G m1 560 mw, aZ G m2 2 ik, aI G m3 20 zs2_63, aI G m4 20 cl2_64, aI G m5 20 hs2_65, aI G m6 20 ks2_66, aI G m7 20 wa2_67, aI G m8 20 ne2_68, aI G m9 4 mn2_69, aI G m10 400 tx, aI G m11 6 th, aI G m12 6 od, aI G m13 30 bk, aI G m14 30 bh] H := hP
          have hD : va_D A [(m0, .inr (8, [.ref m1, .ref m2, .ref m3, .ref m4, .ref m5, .ref m6, .ref m7, .ref m8, .ref m9, .int fu, .int fd, .int fi, .int nu2_77, .int nw2_78, .int nf2_79, .int bf2_75, .int bn2_76, .ref m10, .int ts, .int ap2_70, .int fs2_71, .int ln2_72, .int fo2_73, .int fa2_74, .ref m11, .ref m12, .ref m13, .ref m14, .int wr])), aJ G m1 560 mw, aZ G m2 2 ik, aI G m3 20 zs2_63, aI G m4 20 cl2_64, aI G m5 20 hs2_65, aI G m6 20 ks2_66, aI G m7 20 wa2_67, aI G m8 20 ne2_68, aI G m9 4 mn2_69, aI G m10 400 tx, aI G m11 6 th, aI G m12 6 od, aI G m13 30 bk, aI G m14 30 bh] := hD
          have hv := hv zs2_63 cl2_64 hs2_65 ks2_66 wa2_67 ne2_68 mn2_69 ap2_70 fs2_71 ln2_72 fo2_73 fa2_74 bf2_75 bn2_76 nu2_77 nw2_78 nf2_79 hw
          refine lv_goto (tgt := 54) hx hb dX8_town_72 (by decide) ?_
          exact ih_20 _ _ _ _ _ _ _ _ _ _ _ _ _ _ _ _ _ _ _ _ (Nat.lt_of_lt_of_le hv.2 (Nat.le_of_lt_succ hI_21)) hv.1 hP hD hS hl
  exact Lm_82 _ _ _ _ _ _ _ _ _ _ _ _ _ _ _ _ _ _ _ _ _ (Nat.lt_succ_self _) hi0 hP hD hS hl
theorem k_X8_town (l : Launch) (G : Gt) (m0 m1 m2 m3 m4 m5 m6 m7 m8 m9 m10 m11 m12 m13 m14 : Nat) (sz : Nat) (mw : Nat → Int64) (ik : Nat → Int32) (zs : Nat → Int32) (cl : Nat → Int32) (hs : Nat → Int32) (ks : Nat → Int32) (wa : Nat → Int32) (ne : Nat → Int32) (mn : Nat → Int32) (tx : Nat → Int32) (th : Nat → Int32) (od : Nat → Int32) (bk : Nat → Int32) (bh : Nat → Int32) (fu : Int32) (fd : Int32) (fi : Int32) (nu : Int32) (nw : Int32) (nf : Int32) (bf : Int32) (bn : Int32) (ts : Int32) (ap : Int32) (fs : Int32) (ln : Int32) (fo : Int32) (fa : Int32) (wr : Int32) (hp : True) : MetI l yX8_town wsX8_town 4 94 G [.ref m0] [(m0, .inr (8, [.ref m1, .ref m2, .ref m3, .ref m4, .ref m5, .ref m6, .ref m7, .ref m8, .ref m9, .int fu, .int fd, .int fi, .int nu, .int nw, .int nf, .int bf, .int bn, .ref m10, .int ts, .int ap, .int fs, .int ln, .int fo, .int fa, .ref m11, .ref m12, .ref m13, .ref m14, .int wr])), aJ G m1 560 mw, aZ G m2 2 ik, aI G m3 20 zs, aI G m4 20 cl, aI G m5 20 hs, aI G m6 20 ks, aI G m7 20 wa, aI G m8 20 ne, aI G m9 4 mn, aI G m10 400 tx, aI G m11 6 th, aI G m12 6 od, aI G m13 30 bk, aI G m14 30 bh] sz (fun (r : Int32) (u : (Nat → Int64) × (Nat → Int32) × (Nat → Int32) × (Nat → Int32) × (Nat → Int32) × (Nat → Int32) × (Nat → Int32) × (Nat → Int32) × (Nat → Int32) × (Int32) × (Int32) × (Int32) × (Int32) × (Int32) × (Int32) × (Int32) × (Int32) × (Int32) × (Int32) × (Int32) × (Int32) × (Int32) × (Int32) × (Int32)) => True) (fun (u : (Nat → Int64) × (Nat → Int32) × (Nat → Int32) × (Nat → Int32) × (Nat → Int32) × (Nat → Int32) × (Nat → Int32) × (Nat → Int32) × (Nat → Int32) × (Int32) × (Int32) × (Int32) × (Int32) × (Int32) × (Int32) × (Int32) × (Int32) × (Int32) × (Int32) × (Int32) × (Int32) × (Int32) × (Int32) × (Int32)) => [(m0, .inr (8, [.ref m1, .ref m2, .ref m3, .ref m4, .ref m5, .ref m6, .ref m7, .ref m8, .ref m9, .int u.2.2.2.2.2.2.2.2.2.1, .int u.2.2.2.2.2.2.2.2.2.2.1, .int u.2.2.2.2.2.2.2.2.2.2.2.1, .int u.2.2.2.2.2.2.2.2.2.2.2.2.1, .int u.2.2.2.2.2.2.2.2.2.2.2.2.2.1, .int u.2.2.2.2.2.2.2.2.2.2.2.2.2.2.1, .int u.2.2.2.2.2.2.2.2.2.2.2.2.2.2.2.1, .int u.2.2.2.2.2.2.2.2.2.2.2.2.2.2.2.2.1, .ref m10, .int u.2.2.2.2.2.2.2.2.2.2.2.2.2.2.2.2.2.1, .int u.2.2.2.2.2.2.2.2.2.2.2.2.2.2.2.2.2.2.1, .int u.2.2.2.2.2.2.2.2.2.2.2.2.2.2.2.2.2.2.2.1, .int u.2.2.2.2.2.2.2.2.2.2.2.2.2.2.2.2.2.2.2.2.1, .int u.2.2.2.2.2.2.2.2.2.2.2.2.2.2.2.2.2.2.2.2.2.1, .int u.2.2.2.2.2.2.2.2.2.2.2.2.2.2.2.2.2.2.2.2.2.2.1, .ref m11, .ref m12, .ref m13, .ref m14, .int u.2.2.2.2.2.2.2.2.2.2.2.2.2.2.2.2.2.2.2.2.2.2.2])), aJ G m1 560 u.1, aZ G m2 2 u.2.1, aI G m3 20 u.2.2.1, aI G m4 20 u.2.2.2.1, aI G m5 20 u.2.2.2.2.1, aI G m6 20 u.2.2.2.2.2.1, aI G m7 20 u.2.2.2.2.2.2.1, aI G m8 20 u.2.2.2.2.2.2.2.1, aI G m9 4 u.2.2.2.2.2.2.2.2.1, aI G m10 400 tx, aI G m11 6 th, aI G m12 6 od, aI G m13 30 bk, aI G m14 30 bh]) :=
  c_X8_town l G m0 m1 m2 m3 m4 m5 m6 m7 m8 m9 m10 m11 m12 m13 m14 sz mw ik zs cl hs ks wa ne mn tx th od bk bh fu fd fi nu nw nf bf bn ts ap fs ln fo fa wr (by
    sorry)

set_option maxHeartbeats 4000000 in
set_option maxRecDepth 100000 in
theorem c_X8_fault (l : Launch) (G : Gt) (m0 m1 m2 m3 m4 m5 m6 m7 m8 m9 m10 m11 m12 m13 m14 : Nat) (sz : Nat) (mw : Nat → Int64) (ik : Nat → Int32) (zs : Nat → Int32) (cl : Nat → Int32) (hs : Nat → Int32) (ks : Nat → Int32) (wa : Nat → Int32) (ne : Nat → Int32) (mn : Nat → Int32) (tx : Nat → Int32) (th : Nat → Int32) (od : Nat → Int32) (bk : Nat → Int32) (bh : Nat → Int32) (fu : Int32) (fd : Int32) (fi : Int32) (nu : Int32) (nw : Int32) (nf : Int32) (bf : Int32) (bn : Int32) (ts : Int32) (ap : Int32) (fs : Int32) (ln : Int32) (fo : Int32) (fa : Int32) (wr : Int32) (hv : (fa : Int32) = fa) : MetI l yX8_fault wsX8_fault 0 0 G [.ref m0] [(m0, .inr (8, [.ref m1, .ref m2, .ref m3, .ref m4, .ref m5, .ref m6, .ref m7, .ref m8, .ref m9, .int fu, .int fd, .int fi, .int nu, .int nw, .int nf, .int bf, .int bn, .ref m10, .int ts, .int ap, .int fs, .int ln, .int fo, .int fa, .ref m11, .ref m12, .ref m13, .ref m14, .int wr])), aJ G m1 560 mw, aZ G m2 2 ik, aI G m3 20 zs, aI G m4 20 cl, aI G m5 20 hs, aI G m6 20 ks, aI G m7 20 wa, aI G m8 20 ne, aI G m9 4 mn, aI G m10 400 tx, aI G m11 6 th, aI G m12 6 od, aI G m13 30 bk, aI G m14 30 bh] sz (fun (r : Int32) (_ : Unit) => (r : Int32) = fa) (fun (_ : Unit) => [(m0, .inr (8, [.ref m1, .ref m2, .ref m3, .ref m4, .ref m5, .ref m6, .ref m7, .ref m8, .ref m9, .int fu, .int fd, .int fi, .int nu, .int nw, .int nf, .int bf, .int bn, .ref m10, .int ts, .int ap, .int fs, .int ln, .int fo, .int fa, .ref m11, .ref m12, .ref m13, .ref m14, .int wr])), aJ G m1 560 mw, aZ G m2 2 ik, aI G m3 20 zs, aI G m4 20 cl, aI G m5 20 hs, aI G m6 20 ks, aI G m7 20 wa, aI G m8 20 ne, aI G m9 4 mn, aI G m10 400 tx, aI G m11 6 th, aI G m12 6 od, aI G m13 30 bk, aI G m14 30 bh]) := by
  refine x_startI (cc := cX8_fault) (maxL := 1) (ret := (some .int)) (by decide) rfl (Nat.le_of_ble_eq_true rfl) ?_
  intro p e s m args below meth c A R Q ls hRf hRl hQ C hP hD hS hA hSS hl
  obtain ⟨hx, hb, hr, hml, hown, hts, hlocks, hKK⟩ := C
  have hown : s.vm.findClass RX8 = some m.cls := hown
  have hl : lv_has ls 1 [(0, .ref m0)] := hl
  have hinX8 : ∀ w ∈ u_ws RX8 TX8 29, w ∈ wsX8_fault := by decide +kernel
  have kl49 := hts (.fieldLink RX8 49 "WarmStonesModel" "fault" "I") (by decide +kernel)
  refine lv_aload_n hx hb dX8_fault_0 rfl (lv_at hl 0 rfl) ?_
  refine va_get (D := G.1) (ci := 8) (v := .int fa) (C := RX8) (T := TX8) (N := 29) hx hb hts hinX8 hown hKK.1 hP 0 rfl rfl 23 (by decide) kl49 (fun _ h9 => h9) rfl dX8_fault_1 ?_
  exact x_iret (v := fa) () hQ hx hb hr hlocks hS dX8_fault_4 hv hP hD
theorem k_X8_fault (l : Launch) (G : Gt) (m0 m1 m2 m3 m4 m5 m6 m7 m8 m9 m10 m11 m12 m13 m14 : Nat) (sz : Nat) (mw : Nat → Int64) (ik : Nat → Int32) (zs : Nat → Int32) (cl : Nat → Int32) (hs : Nat → Int32) (ks : Nat → Int32) (wa : Nat → Int32) (ne : Nat → Int32) (mn : Nat → Int32) (tx : Nat → Int32) (th : Nat → Int32) (od : Nat → Int32) (bk : Nat → Int32) (bh : Nat → Int32) (fu : Int32) (fd : Int32) (fi : Int32) (nu : Int32) (nw : Int32) (nf : Int32) (bf : Int32) (bn : Int32) (ts : Int32) (ap : Int32) (fs : Int32) (ln : Int32) (fo : Int32) (fa : Int32) (wr : Int32) : MetI l yX8_fault wsX8_fault 0 0 G [.ref m0] [(m0, .inr (8, [.ref m1, .ref m2, .ref m3, .ref m4, .ref m5, .ref m6, .ref m7, .ref m8, .ref m9, .int fu, .int fd, .int fi, .int nu, .int nw, .int nf, .int bf, .int bn, .ref m10, .int ts, .int ap, .int fs, .int ln, .int fo, .int fa, .ref m11, .ref m12, .ref m13, .ref m14, .int wr])), aJ G m1 560 mw, aZ G m2 2 ik, aI G m3 20 zs, aI G m4 20 cl, aI G m5 20 hs, aI G m6 20 ks, aI G m7 20 wa, aI G m8 20 ne, aI G m9 4 mn, aI G m10 400 tx, aI G m11 6 th, aI G m12 6 od, aI G m13 30 bk, aI G m14 30 bh] sz (fun (r : Int32) (_ : Unit) => (r : Int32) = fa) (fun (_ : Unit) => [(m0, .inr (8, [.ref m1, .ref m2, .ref m3, .ref m4, .ref m5, .ref m6, .ref m7, .ref m8, .ref m9, .int fu, .int fd, .int fi, .int nu, .int nw, .int nf, .int bf, .int bn, .ref m10, .int ts, .int ap, .int fs, .int ln, .int fo, .int fa, .ref m11, .ref m12, .ref m13, .ref m14, .int wr])), aJ G m1 560 mw, aZ G m2 2 ik, aI G m3 20 zs, aI G m4 20 cl, aI G m5 20 hs, aI G m6 20 ks, aI G m7 20 wa, aI G m8 20 ne, aI G m9 4 mn, aI G m10 400 tx, aI G m11 6 th, aI G m12 6 od, aI G m13 30 bk, aI G m14 30 bh]) :=
  c_X8_fault l G m0 m1 m2 m3 m4 m5 m6 m7 m8 m9 m10 m11 m12 m13 m14 sz mw ik zs cl hs ks wa ne mn tx th od bk bh fu fd fi nu nw nf bf bn ts ap fs ln fo fa wr (by
    rfl)

set_option maxHeartbeats 4000000 in
set_option maxRecDepth 100000 in
theorem c_X8_isStone (l : Launch) (G : Gt) (m0 m1 m2 m3 m4 m5 m6 m7 m8 m9 m10 m11 m12 m13 m14 : Nat) (sz : Nat) (mw : Nat → Int64) (ik : Nat → Int32) (zs : Nat → Int32) (cl : Nat → Int32) (hs : Nat → Int32) (ks : Nat → Int32) (wa : Nat → Int32) (ne : Nat → Int32) (mn : Nat → Int32) (tx : Nat → Int32) (th : Nat → Int32) (od : Nat → Int32) (bk : Nat → Int32) (bh : Nat → Int32) (fu : Int32) (fd : Int32) (fi : Int32) (nu : Int32) (nw : Int32) (nf : Int32) (bf : Int32) (bn : Int32) (ts : Int32) (ap : Int32) (fs : Int32) (ln : Int32) (fo : Int32) (fa : Int32) (wr : Int32) (x : Int32) (hv : (narrow .boolean (.int (if ¬ x.toInt64 < 0 ∧ ¬ (((mn 0) - 1).toInt64) < x.toInt64 then 1 else 0)) = .int (if ¬ x.toInt64 < 0 ∧ ¬ (((mn 0) - 1).toInt64) < x.toInt64 then 1 else 0)) ∧ True) : MetI l yX8_isStone wsX8_isStone 1 25 G [.ref m0, .int x] [(m0, .inr (8, [.ref m1, .ref m2, .ref m3, .ref m4, .ref m5, .ref m6, .ref m7, .ref m8, .ref m9, .int fu, .int fd, .int fi, .int nu, .int nw, .int nf, .int bf, .int bn, .ref m10, .int ts, .int ap, .int fs, .int ln, .int fo, .int fa, .ref m11, .ref m12, .ref m13, .ref m14, .int wr])), aJ G m1 560 mw, aZ G m2 2 ik, aI G m3 20 zs, aI G m4 20 cl, aI G m5 20 hs, aI G m6 20 ks, aI G m7 20 wa, aI G m8 20 ne, aI G m9 4 mn, aI G m10 400 tx, aI G m11 6 th, aI G m12 6 od, aI G m13 30 bk, aI G m14 30 bh] sz (fun (r : Int32) (_ : Unit) => True) (fun (_ : Unit) => [(m0, .inr (8, [.ref m1, .ref m2, .ref m3, .ref m4, .ref m5, .ref m6, .ref m7, .ref m8, .ref m9, .int fu, .int fd, .int fi, .int nu, .int nw, .int nf, .int bf, .int bn, .ref m10, .int ts, .int ap, .int fs, .int ln, .int fo, .int fa, .ref m11, .ref m12, .ref m13, .ref m14, .int wr])), aJ G m1 560 mw, aZ G m2 2 ik, aI G m3 20 zs, aI G m4 20 cl, aI G m5 20 hs, aI G m6 20 ks, aI G m7 20 wa, aI G m8 20 ne, aI G m9 4 mn, aI G m10 400 tx, aI G m11 6 th, aI G m12 6 od, aI G m13 30 bk, aI G m14 30 bh]) := by
  refine x_startI (cc := cX8_isStone) (maxL := 2) (ret := (some .boolean)) (by decide) rfl (Nat.le_of_ble_eq_true rfl) ?_
  intro p e s m args below meth c A R Q ls hRf hRl hQ C hP hD hS hA hSS hl
  obtain ⟨hx, hb, hr, hml, hown, hts, hlocks, hKK⟩ := C
  have hown : s.vm.findClass RX8 = some m.cls := hown
  have hl : lv_has ls 2 [(0, .ref m0), (1, .int x)] := hl
  have hinX8 : ∀ w ∈ u_ws RX8 TX8 29, w ∈ wsX8_isStone := by decide +kernel
  have kl36 := hts (.fieldLink RX8 36 "WarmStonesModel" "many" "[I") (by decide +kernel)
  refine lv_iload_n hx hb dX8_isStone_0 rfl (lv_at hl 1 rfl) ?_
  refine lv_i2l hx hb dX8_isStone_1 rfl ?_
  refine lv_lconst (v := 0) hx hb dX8_isStone_2 (by decide) ?_
  refine lv_aload_n hx hb dX8_isStone_3 rfl (lv_at hl 0 rfl) ?_
  refine va_get (D := G.1) (ci := 8) (v := .ref m9) (C := RX8) (T := TX8) (N := 29) hx hb hts hinX8 hown hKK.1 hP 0 rfl rfl 8 (by decide) kl36 (fun _ h9 => h9) rfl dX8_isStone_4 ?_
  refine lv_iconst (v := 0) hx hb dX8_isStone_7 (by decide) ?_
  refine va_iald hx hb hKK.1 hP 9 0 rfl rfl (by unfold vp_in; decide) dX8_isStone_8 ?_
  refine lv_iconst (v := 1) hx hb dX8_isStone_9 (by decide) ?_
  refine lv_isub hx hb dX8_isStone_10 ?_
  refine lv_i2l hx hb dX8_isStone_11 rfl ?_
  refine x_calliR (x_runS (As := [.long x.toInt64, .long 0, .long (((mn 0) - 1).toInt64)]) (rest := []) (n := 3) ⟨hx, hb, hml, hown, hts⟩ (k_X8_in l G  _ x.toInt64 0 (((mn 0) - 1).toInt64)) gX8_isStone_X8_in rfl (by decide +kernel) ⟨Nat.le_trans (Nat.le_of_ble_eq_true rfl) hRf, Nat.le_trans (Nat.le_of_ble_eq_true rfl) hRl⟩ hKK hSS hS hA hP hD [] (by decide) rfl rfl hl.1 rfl (Nat.le_of_ble_eq_true rfl) dX8_isStone_12) hP hD hS hA [] rfl (fun r_1 _ H locs hw hP hS => ?_)
  replace hw := hw.symm; subst hw
  exact x_zret (v := (if ¬ x.toInt64 < 0 ∧ ¬ (((mn 0) - 1).toInt64) < x.toInt64 then 1 else 0)) () hQ hx hb hr hlocks hS dX8_isStone_15 hv.1 hv.2 hP hD
theorem k_X8_isStone (l : Launch) (G : Gt) (m0 m1 m2 m3 m4 m5 m6 m7 m8 m9 m10 m11 m12 m13 m14 : Nat) (sz : Nat) (mw : Nat → Int64) (ik : Nat → Int32) (zs : Nat → Int32) (cl : Nat → Int32) (hs : Nat → Int32) (ks : Nat → Int32) (wa : Nat → Int32) (ne : Nat → Int32) (mn : Nat → Int32) (tx : Nat → Int32) (th : Nat → Int32) (od : Nat → Int32) (bk : Nat → Int32) (bh : Nat → Int32) (fu : Int32) (fd : Int32) (fi : Int32) (nu : Int32) (nw : Int32) (nf : Int32) (bf : Int32) (bn : Int32) (ts : Int32) (ap : Int32) (fs : Int32) (ln : Int32) (fo : Int32) (fa : Int32) (wr : Int32) (x : Int32) (hp : True) : MetI l yX8_isStone wsX8_isStone 1 25 G [.ref m0, .int x] [(m0, .inr (8, [.ref m1, .ref m2, .ref m3, .ref m4, .ref m5, .ref m6, .ref m7, .ref m8, .ref m9, .int fu, .int fd, .int fi, .int nu, .int nw, .int nf, .int bf, .int bn, .ref m10, .int ts, .int ap, .int fs, .int ln, .int fo, .int fa, .ref m11, .ref m12, .ref m13, .ref m14, .int wr])), aJ G m1 560 mw, aZ G m2 2 ik, aI G m3 20 zs, aI G m4 20 cl, aI G m5 20 hs, aI G m6 20 ks, aI G m7 20 wa, aI G m8 20 ne, aI G m9 4 mn, aI G m10 400 tx, aI G m11 6 th, aI G m12 6 od, aI G m13 30 bk, aI G m14 30 bh] sz (fun (r : Int32) (_ : Unit) => True) (fun (_ : Unit) => [(m0, .inr (8, [.ref m1, .ref m2, .ref m3, .ref m4, .ref m5, .ref m6, .ref m7, .ref m8, .ref m9, .int fu, .int fd, .int fi, .int nu, .int nw, .int nf, .int bf, .int bn, .ref m10, .int ts, .int ap, .int fs, .int ln, .int fo, .int fa, .ref m11, .ref m12, .ref m13, .ref m14, .int wr])), aJ G m1 560 mw, aZ G m2 2 ik, aI G m3 20 zs, aI G m4 20 cl, aI G m5 20 hs, aI G m6 20 ks, aI G m7 20 wa, aI G m8 20 ne, aI G m9 4 mn, aI G m10 400 tx, aI G m11 6 th, aI G m12 6 od, aI G m13 30 bk, aI G m14 30 bh]) :=
  c_X8_isStone l G m0 m1 m2 m3 m4 m5 m6 m7 m8 m9 m10 m11 m12 m13 m14 sz mw ik zs cl hs ks wa ne mn tx th od bk bh fu fd fi nu nw nf bf bn ts ap fs ln fo fa wr x (by
    sorry)

set_option maxHeartbeats 4000000 in
set_option maxRecDepth 100000 in
theorem c_X8_isPerson (l : Launch) (G : Gt) (m0 m1 m2 m3 m4 m5 m6 m7 m8 m9 m10 m11 m12 m13 m14 : Nat) (sz : Nat) (mw : Nat → Int64) (ik : Nat → Int32) (zs : Nat → Int32) (cl : Nat → Int32) (hs : Nat → Int32) (ks : Nat → Int32) (wa : Nat → Int32) (ne : Nat → Int32) (mn : Nat → Int32) (tx : Nat → Int32) (th : Nat → Int32) (od : Nat → Int32) (bk : Nat → Int32) (bh : Nat → Int32) (fu : Int32) (fd : Int32) (fi : Int32) (nu : Int32) (nw : Int32) (nf : Int32) (bf : Int32) (bn : Int32) (ts : Int32) (ap : Int32) (fs : Int32) (ln : Int32) (fo : Int32) (fa : Int32) (wr : Int32) (x : Int32) (hv : (narrow .boolean (.int (if ¬ x.toInt64 < 0 ∧ ¬ (((mn 1) - 1).toInt64) < x.toInt64 then 1 else 0)) = .int (if ¬ x.toInt64 < 0 ∧ ¬ (((mn 1) - 1).toInt64) < x.toInt64 then 1 else 0)) ∧ True) : MetI l yX8_isPerson wsX8_isPerson 1 25 G [.ref m0, .int x] [(m0, .inr (8, [.ref m1, .ref m2, .ref m3, .ref m4, .ref m5, .ref m6, .ref m7, .ref m8, .ref m9, .int fu, .int fd, .int fi, .int nu, .int nw, .int nf, .int bf, .int bn, .ref m10, .int ts, .int ap, .int fs, .int ln, .int fo, .int fa, .ref m11, .ref m12, .ref m13, .ref m14, .int wr])), aJ G m1 560 mw, aZ G m2 2 ik, aI G m3 20 zs, aI G m4 20 cl, aI G m5 20 hs, aI G m6 20 ks, aI G m7 20 wa, aI G m8 20 ne, aI G m9 4 mn, aI G m10 400 tx, aI G m11 6 th, aI G m12 6 od, aI G m13 30 bk, aI G m14 30 bh] sz (fun (r : Int32) (_ : Unit) => True) (fun (_ : Unit) => [(m0, .inr (8, [.ref m1, .ref m2, .ref m3, .ref m4, .ref m5, .ref m6, .ref m7, .ref m8, .ref m9, .int fu, .int fd, .int fi, .int nu, .int nw, .int nf, .int bf, .int bn, .ref m10, .int ts, .int ap, .int fs, .int ln, .int fo, .int fa, .ref m11, .ref m12, .ref m13, .ref m14, .int wr])), aJ G m1 560 mw, aZ G m2 2 ik, aI G m3 20 zs, aI G m4 20 cl, aI G m5 20 hs, aI G m6 20 ks, aI G m7 20 wa, aI G m8 20 ne, aI G m9 4 mn, aI G m10 400 tx, aI G m11 6 th, aI G m12 6 od, aI G m13 30 bk, aI G m14 30 bh]) := by
  refine x_startI (cc := cX8_isPerson) (maxL := 2) (ret := (some .boolean)) (by decide) rfl (Nat.le_of_ble_eq_true rfl) ?_
  intro p e s m args below meth c A R Q ls hRf hRl hQ C hP hD hS hA hSS hl
  obtain ⟨hx, hb, hr, hml, hown, hts, hlocks, hKK⟩ := C
  have hown : s.vm.findClass RX8 = some m.cls := hown
  have hl : lv_has ls 2 [(0, .ref m0), (1, .int x)] := hl
  have hinX8 : ∀ w ∈ u_ws RX8 TX8 29, w ∈ wsX8_isPerson := by decide +kernel
  have kl36 := hts (.fieldLink RX8 36 "WarmStonesModel" "many" "[I") (by decide +kernel)
  refine lv_iload_n hx hb dX8_isPerson_0 rfl (lv_at hl 1 rfl) ?_
  refine lv_i2l hx hb dX8_isPerson_1 rfl ?_
  refine lv_lconst (v := 0) hx hb dX8_isPerson_2 (by decide) ?_
  refine lv_aload_n hx hb dX8_isPerson_3 rfl (lv_at hl 0 rfl) ?_
  refine va_get (D := G.1) (ci := 8) (v := .ref m9) (C := RX8) (T := TX8) (N := 29) hx hb hts hinX8 hown hKK.1 hP 0 rfl rfl 8 (by decide) kl36 (fun _ h9 => h9) rfl dX8_isPerson_4 ?_
  refine lv_iconst (v := 1) hx hb dX8_isPerson_7 (by decide) ?_
  refine va_iald hx hb hKK.1 hP 9 0 rfl rfl (by unfold vp_in; decide) dX8_isPerson_8 ?_
  refine lv_iconst (v := 1) hx hb dX8_isPerson_9 (by decide) ?_
  refine lv_isub hx hb dX8_isPerson_10 ?_
  refine lv_i2l hx hb dX8_isPerson_11 rfl ?_
  refine x_calliR (x_runS (As := [.long x.toInt64, .long 0, .long (((mn 1) - 1).toInt64)]) (rest := []) (n := 3) ⟨hx, hb, hml, hown, hts⟩ (k_X8_in l G  _ x.toInt64 0 (((mn 1) - 1).toInt64)) gX8_isPerson_X8_in rfl (by decide +kernel) ⟨Nat.le_trans (Nat.le_of_ble_eq_true rfl) hRf, Nat.le_trans (Nat.le_of_ble_eq_true rfl) hRl⟩ hKK hSS hS hA hP hD [] (by decide) rfl rfl hl.1 rfl (Nat.le_of_ble_eq_true rfl) dX8_isPerson_12) hP hD hS hA [] rfl (fun r_1 _ H locs hw hP hS => ?_)
  replace hw := hw.symm; subst hw
  exact x_zret (v := (if ¬ x.toInt64 < 0 ∧ ¬ (((mn 1) - 1).toInt64) < x.toInt64 then 1 else 0)) () hQ hx hb hr hlocks hS dX8_isPerson_15 hv.1 hv.2 hP hD
theorem k_X8_isPerson (l : Launch) (G : Gt) (m0 m1 m2 m3 m4 m5 m6 m7 m8 m9 m10 m11 m12 m13 m14 : Nat) (sz : Nat) (mw : Nat → Int64) (ik : Nat → Int32) (zs : Nat → Int32) (cl : Nat → Int32) (hs : Nat → Int32) (ks : Nat → Int32) (wa : Nat → Int32) (ne : Nat → Int32) (mn : Nat → Int32) (tx : Nat → Int32) (th : Nat → Int32) (od : Nat → Int32) (bk : Nat → Int32) (bh : Nat → Int32) (fu : Int32) (fd : Int32) (fi : Int32) (nu : Int32) (nw : Int32) (nf : Int32) (bf : Int32) (bn : Int32) (ts : Int32) (ap : Int32) (fs : Int32) (ln : Int32) (fo : Int32) (fa : Int32) (wr : Int32) (x : Int32) (hp : True) : MetI l yX8_isPerson wsX8_isPerson 1 25 G [.ref m0, .int x] [(m0, .inr (8, [.ref m1, .ref m2, .ref m3, .ref m4, .ref m5, .ref m6, .ref m7, .ref m8, .ref m9, .int fu, .int fd, .int fi, .int nu, .int nw, .int nf, .int bf, .int bn, .ref m10, .int ts, .int ap, .int fs, .int ln, .int fo, .int fa, .ref m11, .ref m12, .ref m13, .ref m14, .int wr])), aJ G m1 560 mw, aZ G m2 2 ik, aI G m3 20 zs, aI G m4 20 cl, aI G m5 20 hs, aI G m6 20 ks, aI G m7 20 wa, aI G m8 20 ne, aI G m9 4 mn, aI G m10 400 tx, aI G m11 6 th, aI G m12 6 od, aI G m13 30 bk, aI G m14 30 bh] sz (fun (r : Int32) (_ : Unit) => True) (fun (_ : Unit) => [(m0, .inr (8, [.ref m1, .ref m2, .ref m3, .ref m4, .ref m5, .ref m6, .ref m7, .ref m8, .ref m9, .int fu, .int fd, .int fi, .int nu, .int nw, .int nf, .int bf, .int bn, .ref m10, .int ts, .int ap, .int fs, .int ln, .int fo, .int fa, .ref m11, .ref m12, .ref m13, .ref m14, .int wr])), aJ G m1 560 mw, aZ G m2 2 ik, aI G m3 20 zs, aI G m4 20 cl, aI G m5 20 hs, aI G m6 20 ks, aI G m7 20 wa, aI G m8 20 ne, aI G m9 4 mn, aI G m10 400 tx, aI G m11 6 th, aI G m12 6 od, aI G m13 30 bk, aI G m14 30 bh]) :=
  c_X8_isPerson l G m0 m1 m2 m3 m4 m5 m6 m7 m8 m9 m10 m11 m12 m13 m14 sz mw ik zs cl hs ks wa ne mn tx th od bk bh fu fd fi nu nw nf bf bn ts ap fs ln fo fa wr x (by
    sorry)

set_option maxHeartbeats 4000000 in
set_option maxRecDepth 100000 in
theorem c_X8_sitter (l : Launch) (G : Gt) (m0 m1 m2 m3 m4 m5 m6 m7 m8 m9 m10 m11 m12 m13 m14 : Nat) (sz : Nat) (mw : Nat → Int64) (ik : Nat → Int32) (zs : Nat → Int32) (cl : Nat → Int32) (hs : Nat → Int32) (ks : Nat → Int32) (wa : Nat → Int32) (ne : Nat → Int32) (mn : Nat → Int32) (tx : Nat → Int32) (th : Nat → Int32) (od : Nat → Int32) (bk : Nat → Int32) (bh : Nat → Int32) (fu : Int32) (fd : Int32) (fi : Int32) (nu : Int32) (nw : Int32) (nf : Int32) (bf : Int32) (bn : Int32) (ts : Int32) (ap : Int32) (fs : Int32) (ln : Int32) (fo : Int32) (fa : Int32) (wr : Int32) (x : Int32) (y : Int32) (hv : ∃ (I2_2 : Int32 → Prop) (μ2_3 : Int32 → Nat), I2_2 0 ∧ (∀ (x3_1 : Int32), I2_2 x3_1 → ((mn 1) ≤ x3_1 → True) ∧ (¬ ((mn 1) ≤ x3_1) → (vp_in ((x + 20) + x3_1) 560) ∧ ((¬ (mw ((x + 20) + x3_1).toNatClampNeg) = y.toInt64 → I2_2 (x3_1 + 1) ∧ μ2_3 (x3_1 + 1) < μ2_3 x3_1) ∧ ((mw ((x + 20) + x3_1).toNatClampNeg) = y.toInt64 → True))))) : MetI l yX8_sitter wsX8_sitter 0 0 G [.ref m0, .int x, .int y] [(m0, .inr (8, [.ref m1, .ref m2, .ref m3, .ref m4, .ref m5, .ref m6, .ref m7, .ref m8, .ref m9, .int fu, .int fd, .int fi, .int nu, .int nw, .int nf, .int bf, .int bn, .ref m10, .int ts, .int ap, .int fs, .int ln, .int fo, .int fa, .ref m11, .ref m12, .ref m13, .ref m14, .int wr])), aJ G m1 560 mw, aZ G m2 2 ik, aI G m3 20 zs, aI G m4 20 cl, aI G m5 20 hs, aI G m6 20 ks, aI G m7 20 wa, aI G m8 20 ne, aI G m9 4 mn, aI G m10 400 tx, aI G m11 6 th, aI G m12 6 od, aI G m13 30 bk, aI G m14 30 bh] sz (fun (r : Int32) (_ : Unit) => True) (fun (_ : Unit) => [(m0, .inr (8, [.ref m1, .ref m2, .ref m3, .ref m4, .ref m5, .ref m6, .ref m7, .ref m8, .ref m9, .int fu, .int fd, .int fi, .int nu, .int nw, .int nf, .int bf, .int bn, .ref m10, .int ts, .int ap, .int fs, .int ln, .int fo, .int fa, .ref m11, .ref m12, .ref m13, .ref m14, .int wr])), aJ G m1 560 mw, aZ G m2 2 ik, aI G m3 20 zs, aI G m4 20 cl, aI G m5 20 hs, aI G m6 20 ks, aI G m7 20 wa, aI G m8 20 ne, aI G m9 4 mn, aI G m10 400 tx, aI G m11 6 th, aI G m12 6 od, aI G m13 30 bk, aI G m14 30 bh]) := by
  refine x_startI (cc := cX8_sitter) (maxL := 4) (ret := (some .int)) (by decide) rfl (Nat.le_of_ble_eq_true rfl) ?_
  intro p e s m args below meth c A R Q ls hRf hRl hQ C hP hD hS hA hSS hl
  obtain ⟨hx, hb, hr, hml, hown, hts, hlocks, hKK⟩ := C
  have hown : s.vm.findClass RX8 = some m.cls := hown
  have hl : lv_has ls 4 [(0, .ref m0), (1, .int x), (2, .int y)] := hl
  have hinX8 : ∀ w ∈ u_ws RX8 TX8 29, w ∈ wsX8_sitter := by decide +kernel
  have kl36 := hts (.fieldLink RX8 36 "WarmStonesModel" "many" "[I") (by decide +kernel)
  have kl7 := hts (.fieldLink RX8 7 "WarmStonesModel" "w" "[J") (by decide +kernel)
  refine lv_iconst (v := 0) hx hb dX8_sitter_0 (by decide) ?_
  refine lv_istore_n (lv' := [(3, .int 0), (0, .ref m0), (1, .int x), (2, .int y)]) hx hb dX8_sitter_1 rfl hl (by decide) rfl (fun ls hl => ?_)
  obtain ⟨I2_2, μ2_3, hi0, hs_8⟩ := hv
  have Lm_10 : ∀ (n_9 : Nat) (x3_1 : Int32) (H : Heap) (locs : List Loc) (ls : Array Slot), μ2_3 x3_1 < n_9 → I2_2 x3_1 → va_P G.1 vwCl [(m0, .inr (8, [.ref m1, .ref m2, .ref m3, .ref m4, .ref m5, .ref m6, .ref m7, .ref m8, .ref m9, .int fu, .int fd, .int fi, .int nu, .int nw, .int nf, .int bf, .int bn, .ref m10, .int ts, .int ap, .int fs, .int ln, .int fo, .int fa, .ref m11, .ref m12, .ref m13, .ref m14, .int wr])), aJ G m1 560 mw, aZ G m2 2 ik, aI G m3 20 zs, aI G m4 20 cl, aI G m5 20 hs, aI G m6 20 ks, aI G m7 20 wa, aI G m8 20 ne, aI G m9 4 mn, aI G m10 400 tx, aI G m11 6 th, aI G m12 6 od, aI G m13 30 bk, aI G m14 30 bh] H → va_D A [(m0, .inr (8, [.ref m1, .ref m2, .ref m3, .ref m4, .ref m5, .ref m6, .ref m7, .ref m8, .ref m9, .int fu, .int fd, .int fi, .int nu, .int nw, .int nf, .int bf, .int bn, .ref m10, .int ts, .int ap, .int fs, .int ln, .int fo, .int fa, .ref m11, .ref m12, .ref m13, .ref m14, .int wr])), aJ G m1 560 mw, aZ G m2 2 ik, aI G m3 20 zs, aI G m4 20 cl, aI G m5 20 hs, aI G m6 20 ks, aI G m7 20 wa, aI G m8 20 ne, aI G m9 4 mn, aI G m10 400 tx, aI G m11 6 th, aI G m12 6 od, aI G m13 30 bk, aI G m14 30 bh] → va_S A s.heap H locs → lv_has ls 4 [(3, .int x3_1), (0, .ref m0), (1, .int x), (2, .int y)] → W p l e R s m args below meth c H locs 0 0 Q (F0 m 2 ls []) := by
    intro n_9
    induction n_9 with
    | zero => intro x3_1 H locs ls hm; exact absurd hm (Nat.not_lt_zero _)
    | succ n_9 ih_4 =>
      intro x3_1 H locs ls hI_5 hi hP hD hS hl
      have hv := hs_8 x3_1 hi
      refine lv_iload_n hx hb dX8_sitter_2 rfl (lv_at hl 0 rfl) ?_
      refine lv_aload_n hx hb dX8_sitter_3 rfl (lv_at hl 1 rfl) ?_
      refine va_get (D := G.1) (ci := 8) (v := .ref m9) (C := RX8) (T := TX8) (N := 29) hx hb hts hinX8 hown hKK.1 hP 0 rfl rfl 8 (by decide) kl36 (fun _ h9 => h9) rfl dX8_sitter_4 ?_
      refine lv_iconst (v := 1) hx hb dX8_sitter_7 (by decide) ?_
      refine va_iald hx hb hKK.1 hP 9 0 rfl rfl (by unfold vp_in; decide) dX8_sitter_8 ?_
      refine lv_icmp_ge (tgt := 37) hx hb dX8_sitter_9 (by decide) (fun hc_6 => ?_) (fun hc_6 => ?_)
      · have hv := hv.1 hc_6
        refine lv_iconst (v := (-1)) hx hb dX8_sitter_37 (by decide) ?_
        exact x_iret (v := (-1)) () hQ hx hb hr hlocks hS dX8_sitter_38 hv hP hD
      · have hv := hv.2 hc_6
        refine lv_aload_n hx hb dX8_sitter_12 rfl (lv_at hl 1 rfl) ?_
        refine va_get (D := G.1) (ci := 8) (v := .ref m1) (C := RX8) (T := TX8) (N := 29) hx hb hts hinX8 hown hKK.1 hP 0 rfl rfl 0 (by decide) kl7 (fun _ h9 => h9) rfl dX8_sitter_13 ?_
        refine lv_iload_n hx hb dX8_sitter_16 rfl (lv_at hl 2 rfl) ?_
        refine lv_bipush (v := 20) hx hb dX8_sitter_17 (by decide) ?_
        refine lv_iadd hx hb dX8_sitter_19 ?_
        refine lv_iload_n hx hb dX8_sitter_20 rfl (lv_at hl 0 rfl) ?_
        refine lv_iadd hx hb dX8_sitter_21 ?_
        obtain ⟨hin, hv⟩ := hv
        refine va_lald hx hb hKK.1 hP 1 2 rfl rfl hin dX8_sitter_22 ?_
        refine lv_iload_n hx hb dX8_sitter_23 rfl (lv_at hl 3 rfl) ?_
        refine lv_i2l hx hb dX8_sitter_24 rfl ?_
        refine W.lcmp hx hb dX8_sitter_25 ?_
        refine lv_if_ne (tgt := 31) hx hb dX8_sitter_26 (by decide) (fun hc_7 => ?_) (fun hc_7 => ?_)
        · have hv := hv.1 (fun h => hc_7 ((lg_cmp_eq _ _).mpr h))
          refine lv_iinc (v := (x3_1 + 1)) (lv' := [(3, .int (x3_1 + 1)), (0, .ref m0), (1, .int x), (2, .int y)]) hx hb dX8_sitter_31 hl (k := 0) rfl rfl (by decide) rfl (fun ls hl => ?_)
          refine lv_goto (tgt := 2) hx hb dX8_sitter_34 (by decide) ?_
          exact ih_4 _ _ _ _ (Nat.lt_of_lt_of_le hv.2 (Nat.le_of_lt_succ hI_5)) hv.1 hP hD hS hl
        · have hv := hv.2 ((lg_cmp_eq _ _).mp hc_7)
          refine lv_iload_n hx hb dX8_sitter_29 rfl (lv_at hl 0 rfl) ?_
          exact x_iret (v := x3_1) () hQ hx hb hr hlocks hS dX8_sitter_30 hv hP hD
  exact Lm_10 _ _ _ _ _ (Nat.lt_succ_self _) hi0 hP hD hS hl
theorem k_X8_sitter (l : Launch) (G : Gt) (m0 m1 m2 m3 m4 m5 m6 m7 m8 m9 m10 m11 m12 m13 m14 : Nat) (sz : Nat) (mw : Nat → Int64) (ik : Nat → Int32) (zs : Nat → Int32) (cl : Nat → Int32) (hs : Nat → Int32) (ks : Nat → Int32) (wa : Nat → Int32) (ne : Nat → Int32) (mn : Nat → Int32) (tx : Nat → Int32) (th : Nat → Int32) (od : Nat → Int32) (bk : Nat → Int32) (bh : Nat → Int32) (fu : Int32) (fd : Int32) (fi : Int32) (nu : Int32) (nw : Int32) (nf : Int32) (bf : Int32) (bn : Int32) (ts : Int32) (ap : Int32) (fs : Int32) (ln : Int32) (fo : Int32) (fa : Int32) (wr : Int32) (x : Int32) (y : Int32) (hp : True) : MetI l yX8_sitter wsX8_sitter 0 0 G [.ref m0, .int x, .int y] [(m0, .inr (8, [.ref m1, .ref m2, .ref m3, .ref m4, .ref m5, .ref m6, .ref m7, .ref m8, .ref m9, .int fu, .int fd, .int fi, .int nu, .int nw, .int nf, .int bf, .int bn, .ref m10, .int ts, .int ap, .int fs, .int ln, .int fo, .int fa, .ref m11, .ref m12, .ref m13, .ref m14, .int wr])), aJ G m1 560 mw, aZ G m2 2 ik, aI G m3 20 zs, aI G m4 20 cl, aI G m5 20 hs, aI G m6 20 ks, aI G m7 20 wa, aI G m8 20 ne, aI G m9 4 mn, aI G m10 400 tx, aI G m11 6 th, aI G m12 6 od, aI G m13 30 bk, aI G m14 30 bh] sz (fun (r : Int32) (_ : Unit) => True) (fun (_ : Unit) => [(m0, .inr (8, [.ref m1, .ref m2, .ref m3, .ref m4, .ref m5, .ref m6, .ref m7, .ref m8, .ref m9, .int fu, .int fd, .int fi, .int nu, .int nw, .int nf, .int bf, .int bn, .ref m10, .int ts, .int ap, .int fs, .int ln, .int fo, .int fa, .ref m11, .ref m12, .ref m13, .ref m14, .int wr])), aJ G m1 560 mw, aZ G m2 2 ik, aI G m3 20 zs, aI G m4 20 cl, aI G m5 20 hs, aI G m6 20 ks, aI G m7 20 wa, aI G m8 20 ne, aI G m9 4 mn, aI G m10 400 tx, aI G m11 6 th, aI G m12 6 od, aI G m13 30 bk, aI G m14 30 bh]) :=
  c_X8_sitter l G m0 m1 m2 m3 m4 m5 m6 m7 m8 m9 m10 m11 m12 m13 m14 sz mw ik zs cl hs ks wa ne mn tx th od bk bh fu fd fi nu nw nf bf bn ts ap fs ln fo fa wr x y (by
    sorry)

set_option maxHeartbeats 4000000 in
set_option maxRecDepth 100000 in
theorem c_X8_coldMinutes (l : Launch) (G : Gt) (m0 m1 m2 m3 m4 m5 m6 m7 m8 m9 m10 m11 m12 m13 m14 : Nat) (sz : Nat) (mw : Nat → Int64) (ik : Nat → Int32) (zs : Nat → Int32) (cl : Nat → Int32) (hs : Nat → Int32) (ks : Nat → Int32) (wa : Nat → Int32) (ne : Nat → Int32) (mn : Nat → Int32) (tx : Nat → Int32) (th : Nat → Int32) (od : Nat → Int32) (bk : Nat → Int32) (bh : Nat → Int32) (fu : Int32) (fd : Int32) (fi : Int32) (nu : Int32) (nw : Int32) (nf : Int32) (bf : Int32) (bn : Int32) (ts : Int32) (ap : Int32) (fs : Int32) (ln : Int32) (fo : Int32) (fa : Int32) (wr : Int32) (x : Int32) (hv : ∃ (I5_3 : Int64 → Int32 → Prop) (μ5_4 : Int64 → Int32 → Nat), I5_3 0 0 ∧ (∀ (x2_1 : Int64) (x4_2 : Int32), I5_3 x2_1 x4_2 → ((mn 1) ≤ x4_2 → True) ∧ (¬ ((mn 1) ≤ x4_2) → (vp_in ((x + 30) + x4_2) 560) ∧ (I5_3 (x2_1 + (mw ((x + 30) + x4_2).toNatClampNeg)) (x4_2 + 1) ∧ μ5_4 (x2_1 + (mw ((x + 30) + x4_2).toNatClampNeg)) (x4_2 + 1) < μ5_4 x2_1 x4_2)))) : MetL l yX8_coldMinutes wsX8_coldMinutes 0 0 G [.ref m0, .int x] [(m0, .inr (8, [.ref m1, .ref m2, .ref m3, .ref m4, .ref m5, .ref m6, .ref m7, .ref m8, .ref m9, .int fu, .int fd, .int fi, .int nu, .int nw, .int nf, .int bf, .int bn, .ref m10, .int ts, .int ap, .int fs, .int ln, .int fo, .int fa, .ref m11, .ref m12, .ref m13, .ref m14, .int wr])), aJ G m1 560 mw, aZ G m2 2 ik, aI G m3 20 zs, aI G m4 20 cl, aI G m5 20 hs, aI G m6 20 ks, aI G m7 20 wa, aI G m8 20 ne, aI G m9 4 mn, aI G m10 400 tx, aI G m11 6 th, aI G m12 6 od, aI G m13 30 bk, aI G m14 30 bh] sz (fun (r : Int64) (_ : Unit) => True) (fun (_ : Unit) => [(m0, .inr (8, [.ref m1, .ref m2, .ref m3, .ref m4, .ref m5, .ref m6, .ref m7, .ref m8, .ref m9, .int fu, .int fd, .int fi, .int nu, .int nw, .int nf, .int bf, .int bn, .ref m10, .int ts, .int ap, .int fs, .int ln, .int fo, .int fa, .ref m11, .ref m12, .ref m13, .ref m14, .int wr])), aJ G m1 560 mw, aZ G m2 2 ik, aI G m3 20 zs, aI G m4 20 cl, aI G m5 20 hs, aI G m6 20 ks, aI G m7 20 wa, aI G m8 20 ne, aI G m9 4 mn, aI G m10 400 tx, aI G m11 6 th, aI G m12 6 od, aI G m13 30 bk, aI G m14 30 bh]) := by
  refine x_startL (cc := cX8_coldMinutes) (maxL := 5) (ret := (some .long)) (by decide) rfl (Nat.le_of_ble_eq_true rfl) ?_
  intro p e s m args below meth c A R Q ls hRf hRl hQ C hP hD hS hA hSS hl
  obtain ⟨hx, hb, hr, hml, hown, hts, hlocks, hKK⟩ := C
  have hown : s.vm.findClass RX8 = some m.cls := hown
  have hl : lv_has ls 5 [(0, .ref m0), (1, .int x)] := hl
  have hinX8 : ∀ w ∈ u_ws RX8 TX8 29, w ∈ wsX8_coldMinutes := by decide +kernel
  have kl36 := hts (.fieldLink RX8 36 "WarmStonesModel" "many" "[I") (by decide +kernel)
  have kl7 := hts (.fieldLink RX8 7 "WarmStonesModel" "w" "[J") (by decide +kernel)
  refine lv_lconst (v := 0) hx hb dX8_coldMinutes_0 (by decide) ?_
  refine lv_lstore_n (lv' := [(2, .long 0), (0, .ref m0), (1, .int x)]) hx hb dX8_coldMinutes_1 rfl hl (by decide) rfl (fun ls hl => ?_)
  refine lv_iconst (v := 0) hx hb dX8_coldMinutes_2 (by decide) ?_
  refine lv_istore (lv' := [(4, .int 0), (2, .long 0), (0, .ref m0), (1, .int x)]) hx hb dX8_coldMinutes_3 hl (by decide) rfl (fun ls hl => ?_)
  obtain ⟨I5_3, μ5_4, hi0, hs_8⟩ := hv
  have Lm_10 : ∀ (n_9 : Nat) (x2_1 : Int64) (x4_2 : Int32) (H : Heap) (locs : List Loc) (ls : Array Slot), μ5_4 x2_1 x4_2 < n_9 → I5_3 x2_1 x4_2 → va_P G.1 vwCl [(m0, .inr (8, [.ref m1, .ref m2, .ref m3, .ref m4, .ref m5, .ref m6, .ref m7, .ref m8, .ref m9, .int fu, .int fd, .int fi, .int nu, .int nw, .int nf, .int bf, .int bn, .ref m10, .int ts, .int ap, .int fs, .int ln, .int fo, .int fa, .ref m11, .ref m12, .ref m13, .ref m14, .int wr])), aJ G m1 560 mw, aZ G m2 2 ik, aI G m3 20 zs, aI G m4 20 cl, aI G m5 20 hs, aI G m6 20 ks, aI G m7 20 wa, aI G m8 20 ne, aI G m9 4 mn, aI G m10 400 tx, aI G m11 6 th, aI G m12 6 od, aI G m13 30 bk, aI G m14 30 bh] H → va_D A [(m0, .inr (8, [.ref m1, .ref m2, .ref m3, .ref m4, .ref m5, .ref m6, .ref m7, .ref m8, .ref m9, .int fu, .int fd, .int fi, .int nu, .int nw, .int nf, .int bf, .int bn, .ref m10, .int ts, .int ap, .int fs, .int ln, .int fo, .int fa, .ref m11, .ref m12, .ref m13, .ref m14, .int wr])), aJ G m1 560 mw, aZ G m2 2 ik, aI G m3 20 zs, aI G m4 20 cl, aI G m5 20 hs, aI G m6 20 ks, aI G m7 20 wa, aI G m8 20 ne, aI G m9 4 mn, aI G m10 400 tx, aI G m11 6 th, aI G m12 6 od, aI G m13 30 bk, aI G m14 30 bh] → va_S A s.heap H locs → lv_has ls 5 [(4, .int x4_2), (2, .long x2_1), (0, .ref m0), (1, .int x)] → W p l e R s m args below meth c H locs 0 0 Q (F0 m 5 ls []) := by
    intro n_9
    induction n_9 with
    | zero => intro x2_1 x4_2 H locs ls hm; exact absurd hm (Nat.not_lt_zero _)
    | succ n_9 ih_5 =>
      intro x2_1 x4_2 H locs ls hI_6 hi hP hD hS hl
      have hv := hs_8 x2_1 x4_2 hi
      refine lv_iload hx hb dX8_coldMinutes_5 (lv_at hl 0 rfl) ?_
      refine lv_aload_n hx hb dX8_coldMinutes_7 rfl (lv_at hl 2 rfl) ?_
      refine va_get (D := G.1) (ci := 8) (v := .ref m9) (C := RX8) (T := TX8) (N := 29) hx hb hts hinX8 hown hKK.1 hP 0 rfl rfl 8 (by decide) kl36 (fun _ h9 => h9) rfl dX8_coldMinutes_8 ?_
      refine lv_iconst (v := 1) hx hb dX8_coldMinutes_11 (by decide) ?_
      refine va_iald hx hb hKK.1 hP 9 0 rfl rfl (by unfold vp_in; decide) dX8_coldMinutes_12 ?_
      refine lv_icmp_ge (tgt := 37) hx hb dX8_coldMinutes_13 (by decide) (fun hc_7 => ?_) (fun hc_7 => ?_)
      · have hv := hv.1 hc_7
        refine lv_lload_n hx hb dX8_coldMinutes_37 rfl (lv_at hl 1 rfl) ?_
        exact x_lret (v := x2_1) () hQ hx hb hr hlocks hS dX8_coldMinutes_38 hv hP hD
      · have hv := hv.2 hc_7
        refine lv_lload_n hx hb dX8_coldMinutes_16 rfl (lv_at hl 1 rfl) ?_
        refine lv_aload_n hx hb dX8_coldMinutes_17 rfl (lv_at hl 2 rfl) ?_
        refine va_get (D := G.1) (ci := 8) (v := .ref m1) (C := RX8) (T := TX8) (N := 29) hx hb hts hinX8 hown hKK.1 hP 0 rfl rfl 0 (by decide) kl7 (fun _ h9 => h9) rfl dX8_coldMinutes_18 ?_
        refine lv_iload_n hx hb dX8_coldMinutes_21 rfl (lv_at hl 3 rfl) ?_
        refine lv_bipush (v := 30) hx hb dX8_coldMinutes_22 (by decide) ?_
        refine lv_iadd hx hb dX8_coldMinutes_24 ?_
        refine lv_iload hx hb dX8_coldMinutes_25 (lv_at hl 0 rfl) ?_
        refine lv_iadd hx hb dX8_coldMinutes_27 ?_
        obtain ⟨hin, hv⟩ := hv
        refine va_lald hx hb hKK.1 hP 1 2 rfl rfl hin dX8_coldMinutes_28 ?_
        refine lv_ladd hx hb dX8_coldMinutes_29 ?_
        refine lv_lstore_n (lv' := [(2, .long (x2_1 + (mw ((x + 30) + x4_2).toNatClampNeg))), (4, .int x4_2), (0, .ref m0), (1, .int x)]) hx hb dX8_coldMinutes_30 rfl hl (by decide) rfl (fun ls hl => ?_)
        refine lv_iinc (v := (x4_2 + 1)) (lv' := [(4, .int (x4_2 + 1)), (2, .long (x2_1 + (mw ((x + 30) + x4_2).toNatClampNeg))), (0, .ref m0), (1, .int x)]) hx hb dX8_coldMinutes_31 hl (k := 1) rfl rfl (by decide) rfl (fun ls hl => ?_)
        refine lv_goto (tgt := 5) hx hb dX8_coldMinutes_34 (by decide) ?_
        exact ih_5 _ _ _ _ _ (Nat.lt_of_lt_of_le hv.2 (Nat.le_of_lt_succ hI_6)) hv.1 hP hD hS hl
  exact Lm_10 _ _ _ _ _ _ (Nat.lt_succ_self _) hi0 hP hD hS hl
theorem k_X8_coldMinutes (l : Launch) (G : Gt) (m0 m1 m2 m3 m4 m5 m6 m7 m8 m9 m10 m11 m12 m13 m14 : Nat) (sz : Nat) (mw : Nat → Int64) (ik : Nat → Int32) (zs : Nat → Int32) (cl : Nat → Int32) (hs : Nat → Int32) (ks : Nat → Int32) (wa : Nat → Int32) (ne : Nat → Int32) (mn : Nat → Int32) (tx : Nat → Int32) (th : Nat → Int32) (od : Nat → Int32) (bk : Nat → Int32) (bh : Nat → Int32) (fu : Int32) (fd : Int32) (fi : Int32) (nu : Int32) (nw : Int32) (nf : Int32) (bf : Int32) (bn : Int32) (ts : Int32) (ap : Int32) (fs : Int32) (ln : Int32) (fo : Int32) (fa : Int32) (wr : Int32) (x : Int32) (hp : True) : MetL l yX8_coldMinutes wsX8_coldMinutes 0 0 G [.ref m0, .int x] [(m0, .inr (8, [.ref m1, .ref m2, .ref m3, .ref m4, .ref m5, .ref m6, .ref m7, .ref m8, .ref m9, .int fu, .int fd, .int fi, .int nu, .int nw, .int nf, .int bf, .int bn, .ref m10, .int ts, .int ap, .int fs, .int ln, .int fo, .int fa, .ref m11, .ref m12, .ref m13, .ref m14, .int wr])), aJ G m1 560 mw, aZ G m2 2 ik, aI G m3 20 zs, aI G m4 20 cl, aI G m5 20 hs, aI G m6 20 ks, aI G m7 20 wa, aI G m8 20 ne, aI G m9 4 mn, aI G m10 400 tx, aI G m11 6 th, aI G m12 6 od, aI G m13 30 bk, aI G m14 30 bh] sz (fun (r : Int64) (_ : Unit) => True) (fun (_ : Unit) => [(m0, .inr (8, [.ref m1, .ref m2, .ref m3, .ref m4, .ref m5, .ref m6, .ref m7, .ref m8, .ref m9, .int fu, .int fd, .int fi, .int nu, .int nw, .int nf, .int bf, .int bn, .ref m10, .int ts, .int ap, .int fs, .int ln, .int fo, .int fa, .ref m11, .ref m12, .ref m13, .ref m14, .int wr])), aJ G m1 560 mw, aZ G m2 2 ik, aI G m3 20 zs, aI G m4 20 cl, aI G m5 20 hs, aI G m6 20 ks, aI G m7 20 wa, aI G m8 20 ne, aI G m9 4 mn, aI G m10 400 tx, aI G m11 6 th, aI G m12 6 od, aI G m13 30 bk, aI G m14 30 bh]) :=
  c_X8_coldMinutes l G m0 m1 m2 m3 m4 m5 m6 m7 m8 m9 m10 m11 m12 m13 m14 sz mw ik zs cl hs ks wa ne mn tx th od bk bh fu fd fi nu nw nf bf bn ts ap fs ln fo fa wr x (by
    sorry)

set_option maxHeartbeats 4000000 in
set_option maxRecDepth 100000 in
theorem c_X8_told (l : Launch) (G : Gt) (m0 m1 m2 m3 m4 m5 m6 m7 m8 m9 m10 m11 m12 m13 m14 : Nat) (sz : Nat) (mw : Nat → Int64) (ik : Nat → Int32) (zs : Nat → Int32) (cl : Nat → Int32) (hs : Nat → Int32) (ks : Nat → Int32) (wa : Nat → Int32) (ne : Nat → Int32) (mn : Nat → Int32) (tx : Nat → Int32) (th : Nat → Int32) (od : Nat → Int32) (bk : Nat → Int32) (bh : Nat → Int32) (fu : Int32) (fd : Int32) (fi : Int32) (nu : Int32) (nw : Int32) (nf : Int32) (bf : Int32) (bn : Int32) (ts : Int32) (ap : Int32) (fs : Int32) (ln : Int32) (fo : Int32) (fa : Int32) (wr : Int32) (x : Int32) (hv : ∃ (I5_3 : Int64 → Int32 → Prop) (μ5_4 : Int64 → Int32 → Nat), I5_3 0 0 ∧ (∀ (x2_1 : Int64) (x4_2 : Int32), I5_3 x2_1 x4_2 → ((mn 0) ≤ x4_2 → ∃ (I35_10 : Int64 → Int32 → Prop) (μ35_11 : Int64 → Int32 → Nat), I35_10 x2_1 0 ∧ (∀ (x2_8 : Int64) (x4_9 : Int32), I35_10 x2_8 x4_9 → ((mn 1) ≤ x4_9 → (x = 0 → True) ∧ (x = 1 → True) ∧ (x = 2 → True) ∧ (x = 3 → True) ∧ (x = 4 → True) ∧ (x = 5 → True) ∧ (x = 6 → True) ∧ (x = 7 → True) ∧ (x = 8 → True) ∧ (x = 9 → (True) ∧ (∀ (r_16 : Int64), (True) → (True))) ∧ (x = 10 → True) ∧ (¬ x = 0 ∧ ¬ x = 1 ∧ ¬ x = 2 ∧ ¬ x = 3 ∧ ¬ x = 4 ∧ ¬ x = 5 ∧ ¬ x = 6 ∧ ¬ x = 7 ∧ ¬ x = 8 ∧ ¬ x = 9 ∧ ¬ x = 10 → True)) ∧ (¬ ((mn 1) ≤ x4_9) → (vp_in (10 + x4_9) 560) ∧ (I35_10 (x2_8 + (mw (10 + x4_9).toNatClampNeg)) (x4_9 + 1) ∧ μ35_11 (x2_8 + (mw (10 + x4_9).toNatClampNeg)) (x4_9 + 1) < μ35_11 x2_8 x4_9)))) ∧ (¬ ((mn 0) ≤ x4_2) → (vp_in x4_2 560) ∧ (I5_3 (x2_1 + (mw x4_2.toNatClampNeg)) (x4_2 + 1) ∧ μ5_4 (x2_1 + (mw x4_2.toNatClampNeg)) (x4_2 + 1) < μ5_4 x2_1 x4_2)))) : MetL l yX8_told wsX8_told 1 24 G [.ref m0, .int x] [(m0, .inr (8, [.ref m1, .ref m2, .ref m3, .ref m4, .ref m5, .ref m6, .ref m7, .ref m8, .ref m9, .int fu, .int fd, .int fi, .int nu, .int nw, .int nf, .int bf, .int bn, .ref m10, .int ts, .int ap, .int fs, .int ln, .int fo, .int fa, .ref m11, .ref m12, .ref m13, .ref m14, .int wr])), aJ G m1 560 mw, aZ G m2 2 ik, aI G m3 20 zs, aI G m4 20 cl, aI G m5 20 hs, aI G m6 20 ks, aI G m7 20 wa, aI G m8 20 ne, aI G m9 4 mn, aI G m10 400 tx, aI G m11 6 th, aI G m12 6 od, aI G m13 30 bk, aI G m14 30 bh] sz (fun (r : Int64) (_ : Unit) => True) (fun (_ : Unit) => [(m0, .inr (8, [.ref m1, .ref m2, .ref m3, .ref m4, .ref m5, .ref m6, .ref m7, .ref m8, .ref m9, .int fu, .int fd, .int fi, .int nu, .int nw, .int nf, .int bf, .int bn, .ref m10, .int ts, .int ap, .int fs, .int ln, .int fo, .int fa, .ref m11, .ref m12, .ref m13, .ref m14, .int wr])), aJ G m1 560 mw, aZ G m2 2 ik, aI G m3 20 zs, aI G m4 20 cl, aI G m5 20 hs, aI G m6 20 ks, aI G m7 20 wa, aI G m8 20 ne, aI G m9 4 mn, aI G m10 400 tx, aI G m11 6 th, aI G m12 6 od, aI G m13 30 bk, aI G m14 30 bh]) := by
  refine x_startL (cc := cX8_told) (maxL := 5) (ret := (some .long)) (by decide) rfl (Nat.le_of_ble_eq_true rfl) ?_
  intro p e s m args below meth c A R Q ls hRf hRl hQ C hP hD hS hA hSS hl
  obtain ⟨hx, hb, hr, hml, hown, hts, hlocks, hKK⟩ := C
  have hown : s.vm.findClass RX8 = some m.cls := hown
  have hl : lv_has ls 5 [(0, .ref m0), (1, .int x)] := hl
  have hinX8 : ∀ w ∈ u_ws RX8 TX8 29, w ∈ wsX8_told := by decide +kernel
  have kl146 := hts (.fieldLink RX8 146 "WarmStonesModel" "fine" "I") (by decide +kernel)
  have kl149 := hts (.fieldLink RX8 149 "WarmStonesModel" "written" "I") (by decide +kernel)
  have kl158 := hts (.constantLong RX8 158 (-1000000002)) (by decide +kernel)
  have kl36 := hts (.fieldLink RX8 36 "WarmStonesModel" "many" "[I") (by decide +kernel)
  have kl39 := hts (.fieldLink RX8 39 "WarmStonesModel" "frostUp" "I") (by decide +kernel)
  have kl43 := hts (.fieldLink RX8 43 "WarmStonesModel" "frostDown" "I") (by decide +kernel)
  have kl7 := hts (.fieldLink RX8 7 "WarmStonesModel" "w" "[J") (by decide +kernel)
  have kl74 := hts (.fieldLink RX8 74 "WarmStonesModel" "textSize" "I") (by decide +kernel)
  refine lv_lconst (v := 0) hx hb dX8_told_0 (by decide) ?_
  refine lv_lstore_n (lv' := [(2, .long 0), (0, .ref m0), (1, .int x)]) hx hb dX8_told_1 rfl hl (by decide) rfl (fun ls hl => ?_)
  refine lv_iconst (v := 0) hx hb dX8_told_2 (by decide) ?_
  refine lv_istore (lv' := [(4, .int 0), (2, .long 0), (0, .ref m0), (1, .int x)]) hx hb dX8_told_3 hl (by decide) rfl (fun ls hl => ?_)
  obtain ⟨I5_3, μ5_4, hi0, hs_20⟩ := hv
  have Lm_22 : ∀ (n_21 : Nat) (x2_1 : Int64) (x4_2 : Int32) (H : Heap) (locs : List Loc) (ls : Array Slot), μ5_4 x2_1 x4_2 < n_21 → I5_3 x2_1 x4_2 → va_P G.1 vwCl [(m0, .inr (8, [.ref m1, .ref m2, .ref m3, .ref m4, .ref m5, .ref m6, .ref m7, .ref m8, .ref m9, .int fu, .int fd, .int fi, .int nu, .int nw, .int nf, .int bf, .int bn, .ref m10, .int ts, .int ap, .int fs, .int ln, .int fo, .int fa, .ref m11, .ref m12, .ref m13, .ref m14, .int wr])), aJ G m1 560 mw, aZ G m2 2 ik, aI G m3 20 zs, aI G m4 20 cl, aI G m5 20 hs, aI G m6 20 ks, aI G m7 20 wa, aI G m8 20 ne, aI G m9 4 mn, aI G m10 400 tx, aI G m11 6 th, aI G m12 6 od, aI G m13 30 bk, aI G m14 30 bh] H → va_D A [(m0, .inr (8, [.ref m1, .ref m2, .ref m3, .ref m4, .ref m5, .ref m6, .ref m7, .ref m8, .ref m9, .int fu, .int fd, .int fi, .int nu, .int nw, .int nf, .int bf, .int bn, .ref m10, .int ts, .int ap, .int fs, .int ln, .int fo, .int fa, .ref m11, .ref m12, .ref m13, .ref m14, .int wr])), aJ G m1 560 mw, aZ G m2 2 ik, aI G m3 20 zs, aI G m4 20 cl, aI G m5 20 hs, aI G m6 20 ks, aI G m7 20 wa, aI G m8 20 ne, aI G m9 4 mn, aI G m10 400 tx, aI G m11 6 th, aI G m12 6 od, aI G m13 30 bk, aI G m14 30 bh] → va_S A s.heap H locs → lv_has ls 5 [(4, .int x4_2), (2, .long x2_1), (0, .ref m0), (1, .int x)] → W p l e R s m args below meth c H locs 0 0 Q (F0 m 5 ls []) := by
    intro n_21
    induction n_21 with
    | zero => intro x2_1 x4_2 H locs ls hm; exact absurd hm (Nat.not_lt_zero _)
    | succ n_21 ih_5 =>
      intro x2_1 x4_2 H locs ls hI_6 hi hP hD hS hl
      have hv := hs_20 x2_1 x4_2 hi
      refine lv_iload hx hb dX8_told_5 (lv_at hl 0 rfl) ?_
      refine lv_aload_n hx hb dX8_told_7 rfl (lv_at hl 2 rfl) ?_
      refine va_get (D := G.1) (ci := 8) (v := .ref m9) (C := RX8) (T := TX8) (N := 29) hx hb hts hinX8 hown hKK.1 hP 0 rfl rfl 8 (by decide) kl36 (fun _ h9 => h9) rfl dX8_told_8 ?_
      refine lv_iconst (v := 0) hx hb dX8_told_11 (by decide) ?_
      refine va_iald hx hb hKK.1 hP 9 0 rfl rfl (by unfold vp_in; decide) dX8_told_12 ?_
      refine lv_icmp_ge (tgt := 32) hx hb dX8_told_13 (by decide) (fun hc_7 => ?_) (fun hc_7 => ?_)
      · have hv := hv.1 hc_7
        refine lv_iconst (v := 0) hx hb dX8_told_32 (by decide) ?_
        refine lv_istore (lv' := [(4, .int 0), (2, .long x2_1), (0, .ref m0), (1, .int x)]) hx hb dX8_told_33 hl (by decide) rfl (fun ls hl => ?_)
        obtain ⟨I35_10, μ35_11, hi0, hs_17⟩ := hv
        have Lm_19 : ∀ (n_18 : Nat) (x2_8 : Int64) (x4_9 : Int32) (H : Heap) (locs : List Loc) (ls : Array Slot), μ35_11 x2_8 x4_9 < n_18 → I35_10 x2_8 x4_9 → va_P G.1 vwCl [(m0, .inr (8, [.ref m1, .ref m2, .ref m3, .ref m4, .ref m5, .ref m6, .ref m7, .ref m8, .ref m9, .int fu, .int fd, .int fi, .int nu, .int nw, .int nf, .int bf, .int bn, .ref m10, .int ts, .int ap, .int fs, .int ln, .int fo, .int fa, .ref m11, .ref m12, .ref m13, .ref m14, .int wr])), aJ G m1 560 mw, aZ G m2 2 ik, aI G m3 20 zs, aI G m4 20 cl, aI G m5 20 hs, aI G m6 20 ks, aI G m7 20 wa, aI G m8 20 ne, aI G m9 4 mn, aI G m10 400 tx, aI G m11 6 th, aI G m12 6 od, aI G m13 30 bk, aI G m14 30 bh] H → va_D A [(m0, .inr (8, [.ref m1, .ref m2, .ref m3, .ref m4, .ref m5, .ref m6, .ref m7, .ref m8, .ref m9, .int fu, .int fd, .int fi, .int nu, .int nw, .int nf, .int bf, .int bn, .ref m10, .int ts, .int ap, .int fs, .int ln, .int fo, .int fa, .ref m11, .ref m12, .ref m13, .ref m14, .int wr])), aJ G m1 560 mw, aZ G m2 2 ik, aI G m3 20 zs, aI G m4 20 cl, aI G m5 20 hs, aI G m6 20 ks, aI G m7 20 wa, aI G m8 20 ne, aI G m9 4 mn, aI G m10 400 tx, aI G m11 6 th, aI G m12 6 od, aI G m13 30 bk, aI G m14 30 bh] → va_S A s.heap H locs → lv_has ls 5 [(4, .int x4_9), (2, .long x2_8), (0, .ref m0), (1, .int x)] → W p l e R s m args below meth c H locs 0 0 Q (F0 m 35 ls []) := by
          intro n_18
          induction n_18 with
          | zero => intro x2_8 x4_9 H locs ls hm; exact absurd hm (Nat.not_lt_zero _)
          | succ n_18 ih_12 =>
            intro x2_8 x4_9 H locs ls hI_13 hi hP hD hS hl
            have hv := hs_17 x2_8 x4_9 hi
            refine lv_iload hx hb dX8_told_35 (lv_at hl 0 rfl) ?_
            refine lv_aload_n hx hb dX8_told_37 rfl (lv_at hl 2 rfl) ?_
            refine va_get (D := G.1) (ci := 8) (v := .ref m9) (C := RX8) (T := TX8) (N := 29) hx hb hts hinX8 hown hKK.1 hP 0 rfl rfl 8 (by decide) kl36 (fun _ h9 => h9) rfl dX8_told_38 ?_
            refine lv_iconst (v := 1) hx hb dX8_told_41 (by decide) ?_
            refine va_iald hx hb hKK.1 hP 9 0 rfl rfl (by unfold vp_in; decide) dX8_told_42 ?_
            refine lv_icmp_ge (tgt := 65) hx hb dX8_told_43 (by decide) (fun hc_14 => ?_) (fun hc_14 => ?_)
            · have hv := hv.1 hc_14
              refine lv_iload_n hx hb dX8_told_65 rfl (lv_at hl 3 rfl) ?_
              by_cases hk_150 : x = 0
              · have hv := hv.1 hk_150
                refine lv_tableIn (off := 58) (tgt := 124) hx hb dX8_told_66 (by rw [hk_150]; decide) (by rw [hk_150]; decide) (by rw [hk_150]; decide) (by decide) ?_
                refine lv_aload_n hx hb dX8_told_124 rfl (lv_at hl 2 rfl) ?_
                refine va_get (D := G.1) (ci := 8) (v := .ref m9) (C := RX8) (T := TX8) (N := 29) hx hb hts hinX8 hown hKK.1 hP 0 rfl rfl 8 (by decide) kl36 (fun _ h9 => h9) rfl dX8_told_125 ?_
                refine lv_iconst (v := 0) hx hb dX8_told_128 (by decide) ?_
                refine va_iald hx hb hKK.1 hP 9 0 rfl rfl (by unfold vp_in; decide) dX8_told_129 ?_
                refine lv_i2l hx hb dX8_told_130 rfl ?_
                exact x_lret (v := (mn 0).toInt64) () hQ hx hb hr hlocks hS dX8_told_131 hv hP hD
              replace hv := hv.2
              by_cases hk_151 : x = 1
              · have hv := hv.1 hk_151
                refine lv_tableIn (off := 66) (tgt := 132) hx hb dX8_told_66 (by rw [hk_151]; decide) (by rw [hk_151]; decide) (by rw [hk_151]; decide) (by decide) ?_
                refine lv_aload_n hx hb dX8_told_132 rfl (lv_at hl 2 rfl) ?_
                refine va_get (D := G.1) (ci := 8) (v := .ref m9) (C := RX8) (T := TX8) (N := 29) hx hb hts hinX8 hown hKK.1 hP 0 rfl rfl 8 (by decide) kl36 (fun _ h9 => h9) rfl dX8_told_133 ?_
                refine lv_iconst (v := 1) hx hb dX8_told_136 (by decide) ?_
                refine va_iald hx hb hKK.1 hP 9 0 rfl rfl (by unfold vp_in; decide) dX8_told_137 ?_
                refine lv_i2l hx hb dX8_told_138 rfl ?_
                exact x_lret (v := (mn 1).toInt64) () hQ hx hb hr hlocks hS dX8_told_139 hv hP hD
              replace hv := hv.2
              by_cases hk_152 : x = 2
              · have hv := hv.1 hk_152
                refine lv_tableIn (off := 74) (tgt := 140) hx hb dX8_told_66 (by rw [hk_152]; decide) (by rw [hk_152]; decide) (by rw [hk_152]; decide) (by decide) ?_
                refine lv_aload_n hx hb dX8_told_140 rfl (lv_at hl 2 rfl) ?_
                refine va_get (D := G.1) (ci := 8) (v := .int ts) (C := RX8) (T := TX8) (N := 29) hx hb hts hinX8 hown hKK.1 hP 0 rfl rfl 18 (by decide) kl74 (fun _ h9 => h9) rfl dX8_told_141 ?_
                refine lv_i2l hx hb dX8_told_144 rfl ?_
                exact x_lret (v := ts.toInt64) () hQ hx hb hr hlocks hS dX8_told_145 hv hP hD
              replace hv := hv.2
              by_cases hk_153 : x = 3
              · have hv := hv.1 hk_153
                refine lv_tableIn (off := 80) (tgt := 146) hx hb dX8_told_66 (by rw [hk_153]; decide) (by rw [hk_153]; decide) (by rw [hk_153]; decide) (by decide) ?_
                refine lv_aload_n hx hb dX8_told_146 rfl (lv_at hl 2 rfl) ?_
                refine va_get (D := G.1) (ci := 8) (v := .ref m1) (C := RX8) (T := TX8) (N := 29) hx hb hts hinX8 hown hKK.1 hP 0 rfl rfl 0 (by decide) kl7 (fun _ h9 => h9) rfl dX8_told_147 ?_
                refine lv_sipush (v := 132) hx hb dX8_told_150 (by decide) ?_
                refine va_lald hx hb hKK.1 hP 1 2 rfl rfl (by unfold vp_in; decide) dX8_told_153 ?_
                exact x_lret (v := (mw 132)) () hQ hx hb hr hlocks hS dX8_told_154 hv hP hD
              replace hv := hv.2
              by_cases hk_154 : x = 4
              · have hv := hv.1 hk_154
                refine lv_tableIn (off := 89) (tgt := 155) hx hb dX8_told_66 (by rw [hk_154]; decide) (by rw [hk_154]; decide) (by rw [hk_154]; decide) (by decide) ?_
                refine lv_aload_n hx hb dX8_told_155 rfl (lv_at hl 2 rfl) ?_
                refine va_get (D := G.1) (ci := 8) (v := .ref m1) (C := RX8) (T := TX8) (N := 29) hx hb hts hinX8 hown hKK.1 hP 0 rfl rfl 0 (by decide) kl7 (fun _ h9 => h9) rfl dX8_told_156 ?_
                refine lv_sipush (v := 134) hx hb dX8_told_159 (by decide) ?_
                refine va_lald hx hb hKK.1 hP 1 2 rfl rfl (by unfold vp_in; decide) dX8_told_162 ?_
                exact x_lret (v := (mw 134)) () hQ hx hb hr hlocks hS dX8_told_163 hv hP hD
              replace hv := hv.2
              by_cases hk_155 : x = 5
              · have hv := hv.1 hk_155
                refine lv_tableIn (off := 98) (tgt := 164) hx hb dX8_told_66 (by rw [hk_155]; decide) (by rw [hk_155]; decide) (by rw [hk_155]; decide) (by decide) ?_
                refine lv_aload_n hx hb dX8_told_164 rfl (lv_at hl 2 rfl) ?_
                refine va_get (D := G.1) (ci := 8) (v := .int fu) (C := RX8) (T := TX8) (N := 29) hx hb hts hinX8 hown hKK.1 hP 0 rfl rfl 9 (by decide) kl39 (fun _ h9 => h9) rfl dX8_told_165 ?_
                refine lv_i2l hx hb dX8_told_168 rfl ?_
                exact x_lret (v := fu.toInt64) () hQ hx hb hr hlocks hS dX8_told_169 hv hP hD
              replace hv := hv.2
              by_cases hk_156 : x = 6
              · have hv := hv.1 hk_156
                refine lv_tableIn (off := 104) (tgt := 170) hx hb dX8_told_66 (by rw [hk_156]; decide) (by rw [hk_156]; decide) (by rw [hk_156]; decide) (by decide) ?_
                refine lv_aload_n hx hb dX8_told_170 rfl (lv_at hl 2 rfl) ?_
                refine va_get (D := G.1) (ci := 8) (v := .int fd) (C := RX8) (T := TX8) (N := 29) hx hb hts hinX8 hown hKK.1 hP 0 rfl rfl 10 (by decide) kl43 (fun _ h9 => h9) rfl dX8_told_171 ?_
                refine lv_i2l hx hb dX8_told_174 rfl ?_
                exact x_lret (v := fd.toInt64) () hQ hx hb hr hlocks hS dX8_told_175 hv hP hD
              replace hv := hv.2
              by_cases hk_157 : x = 7
              · have hv := hv.1 hk_157
                refine lv_tableIn (off := 110) (tgt := 176) hx hb dX8_told_66 (by rw [hk_157]; decide) (by rw [hk_157]; decide) (by rw [hk_157]; decide) (by decide) ?_
                refine lv_aload_n hx hb dX8_told_176 rfl (lv_at hl 2 rfl) ?_
                refine va_get (D := G.1) (ci := 8) (v := .int fi) (C := RX8) (T := TX8) (N := 29) hx hb hts hinX8 hown hKK.1 hP 0 rfl rfl 11 (by decide) kl146 (fun _ h9 => h9) rfl dX8_told_177 ?_
                refine lv_i2l hx hb dX8_told_180 rfl ?_
                exact x_lret (v := fi.toInt64) () hQ hx hb hr hlocks hS dX8_told_181 hv hP hD
              replace hv := hv.2
              by_cases hk_158 : x = 8
              · have hv := hv.1 hk_158
                refine lv_tableIn (off := 116) (tgt := 182) hx hb dX8_told_66 (by rw [hk_158]; decide) (by rw [hk_158]; decide) (by rw [hk_158]; decide) (by decide) ?_
                refine lv_aload_n hx hb dX8_told_182 rfl (lv_at hl 2 rfl) ?_
                refine va_get (D := G.1) (ci := 8) (v := .int wr) (C := RX8) (T := TX8) (N := 29) hx hb hts hinX8 hown hKK.1 hP 0 rfl rfl 28 (by decide) kl149 (fun _ h9 => h9) rfl dX8_told_183 ?_
                refine lv_i2l hx hb dX8_told_186 rfl ?_
                exact x_lret (v := wr.toInt64) () hQ hx hb hr hlocks hS dX8_told_187 hv hP hD
              replace hv := hv.2
              by_cases hk_159 : x = 9
              · have hv := hv.1 hk_159
                refine lv_tableIn (off := 122) (tgt := 188) hx hb dX8_told_66 (by rw [hk_159]; decide) (by rw [hk_159]; decide) (by rw [hk_159]; decide) (by decide) ?_
                refine lv_aload_n hx hb dX8_told_188 rfl (lv_at hl 2 rfl) ?_
                refine lv_iconst (v := 0) hx hb dX8_told_189 (by decide) ?_
                obtain ⟨hp, hv⟩ := hv
                refine x_calllR (x_runV (As := [.int 0]) (rest := []) (n := 1) (C := RX8) (ci := 8) ⟨hx, hb, hml, hown, hts⟩ (k_X8_coldMinutes l G m0 m1 m2 m3 m4 m5 m6 m7 m8 m9 m10 m11 m12 m13 m14 _ mw ik zs cl hs ks wa ne mn tx th od bk bh fu fd fi nu nw nf bf bn ts ap fs ln fo fa wr 0 hp) gX8_told_X8_coldMinutes rfl (by decide +kernel) ⟨Nat.le_trans (Nat.le_of_ble_eq_true rfl) hRf, Nat.le_trans (Nat.le_of_ble_eq_true rfl) hRl⟩ hKK hSS hS hA hP hD [0, 1, 2, 3, 4, 5, 6, 7, 8, 9, 10, 11, 12, 13, 14] (by decide) rfl rfl rfl 0 rfl rfl hl.1 rfl (Nat.le_of_ble_eq_true rfl) dX8_told_190) hP hD hS hA [0, 1, 2, 3, 4, 5, 6, 7, 8, 9, 10, 11, 12, 13, 14] rfl (fun r_16 _ H locs hw hP hS => ?_)
                have hv := hv r_16 hw
                exact x_lret (v := r_16) () hQ hx hb hr hlocks hS dX8_told_193 hv hP hD
              replace hv := hv.2
              by_cases hk_1510 : x = 10
              · have hv := hv.1 hk_1510
                refine lv_tableIn (off := 128) (tgt := 194) hx hb dX8_told_66 (by rw [hk_1510]; decide) (by rw [hk_1510]; decide) (by rw [hk_1510]; decide) (by decide) ?_
                refine lv_lload_n hx hb dX8_told_194 rfl (lv_at hl 1 rfl) ?_
                exact x_lret (v := x2_8) () hQ hx hb hr hlocks hS dX8_told_195 hv hP hD
              replace hv := hv.2
              have hv := hv ⟨hk_150, hk_151, hk_152, hk_153, hk_154, hk_155, hk_156, hk_157, hk_158, hk_159, hk_1510⟩
              refine lv_tableOut (tgt := 196) hx hb dX8_told_66 (ts_out 10 (by decide) (ts_ne_all 10 ⟨⟨⟨⟨⟨⟨⟨⟨⟨⟨hk_150, hk_151⟩, hk_152⟩, hk_153⟩, hk_154⟩, hk_155⟩, hk_156⟩, hk_157⟩, hk_158⟩, hk_159⟩, hk_1510⟩)) (by decide) ?_
              refine lv_ldc2 (v := (-1000000002)) hx hb hown kl158 dX8_told_196 ?_
              exact x_lret (v := (-1000000002)) () hQ hx hb hr hlocks hS dX8_told_199 hv hP hD
            · have hv := hv.2 hc_14
              refine lv_lload_n hx hb dX8_told_46 rfl (lv_at hl 1 rfl) ?_
              refine lv_aload_n hx hb dX8_told_47 rfl (lv_at hl 2 rfl) ?_
              refine va_get (D := G.1) (ci := 8) (v := .ref m1) (C := RX8) (T := TX8) (N := 29) hx hb hts hinX8 hown hKK.1 hP 0 rfl rfl 0 (by decide) kl7 (fun _ h9 => h9) rfl dX8_told_48 ?_
              refine lv_bipush (v := 10) hx hb dX8_told_51 (by decide) ?_
              refine lv_iload hx hb dX8_told_53 (lv_at hl 0 rfl) ?_
              refine lv_iadd hx hb dX8_told_55 ?_
              obtain ⟨hin, hv⟩ := hv
              refine va_lald hx hb hKK.1 hP 1 2 rfl rfl hin dX8_told_56 ?_
              refine lv_ladd hx hb dX8_told_57 ?_
              refine lv_lstore_n (lv' := [(2, .long (x2_8 + (mw (10 + x4_9).toNatClampNeg))), (4, .int x4_9), (0, .ref m0), (1, .int x)]) hx hb dX8_told_58 rfl hl (by decide) rfl (fun ls hl => ?_)
              refine lv_iinc (v := (x4_9 + 1)) (lv' := [(4, .int (x4_9 + 1)), (2, .long (x2_8 + (mw (10 + x4_9).toNatClampNeg))), (0, .ref m0), (1, .int x)]) hx hb dX8_told_59 hl (k := 1) rfl rfl (by decide) rfl (fun ls hl => ?_)
              refine lv_goto (tgt := 35) hx hb dX8_told_62 (by decide) ?_
              exact ih_12 _ _ _ _ _ (Nat.lt_of_lt_of_le hv.2 (Nat.le_of_lt_succ hI_13)) hv.1 hP hD hS hl
        exact Lm_19 _ _ _ _ _ _ (Nat.lt_succ_self _) hi0 hP hD hS hl
      · have hv := hv.2 hc_7
        refine lv_lload_n hx hb dX8_told_16 rfl (lv_at hl 1 rfl) ?_
        refine lv_aload_n hx hb dX8_told_17 rfl (lv_at hl 2 rfl) ?_
        refine va_get (D := G.1) (ci := 8) (v := .ref m1) (C := RX8) (T := TX8) (N := 29) hx hb hts hinX8 hown hKK.1 hP 0 rfl rfl 0 (by decide) kl7 (fun _ h9 => h9) rfl dX8_told_18 ?_
        refine lv_iload hx hb dX8_told_21 (lv_at hl 0 rfl) ?_
        obtain ⟨hin, hv⟩ := hv
        refine va_lald hx hb hKK.1 hP 1 2 rfl rfl hin dX8_told_23 ?_
        refine lv_ladd hx hb dX8_told_24 ?_
        refine lv_lstore_n (lv' := [(2, .long (x2_1 + (mw x4_2.toNatClampNeg))), (4, .int x4_2), (0, .ref m0), (1, .int x)]) hx hb dX8_told_25 rfl hl (by decide) rfl (fun ls hl => ?_)
        refine lv_iinc (v := (x4_2 + 1)) (lv' := [(4, .int (x4_2 + 1)), (2, .long (x2_1 + (mw x4_2.toNatClampNeg))), (0, .ref m0), (1, .int x)]) hx hb dX8_told_26 hl (k := 1) rfl rfl (by decide) rfl (fun ls hl => ?_)
        refine lv_goto (tgt := 5) hx hb dX8_told_29 (by decide) ?_
        exact ih_5 _ _ _ _ _ (Nat.lt_of_lt_of_le hv.2 (Nat.le_of_lt_succ hI_6)) hv.1 hP hD hS hl
  exact Lm_22 _ _ _ _ _ _ (Nat.lt_succ_self _) hi0 hP hD hS hl
theorem k_X8_told (l : Launch) (G : Gt) (m0 m1 m2 m3 m4 m5 m6 m7 m8 m9 m10 m11 m12 m13 m14 : Nat) (sz : Nat) (mw : Nat → Int64) (ik : Nat → Int32) (zs : Nat → Int32) (cl : Nat → Int32) (hs : Nat → Int32) (ks : Nat → Int32) (wa : Nat → Int32) (ne : Nat → Int32) (mn : Nat → Int32) (tx : Nat → Int32) (th : Nat → Int32) (od : Nat → Int32) (bk : Nat → Int32) (bh : Nat → Int32) (fu : Int32) (fd : Int32) (fi : Int32) (nu : Int32) (nw : Int32) (nf : Int32) (bf : Int32) (bn : Int32) (ts : Int32) (ap : Int32) (fs : Int32) (ln : Int32) (fo : Int32) (fa : Int32) (wr : Int32) (x : Int32) (hp : True) : MetL l yX8_told wsX8_told 1 24 G [.ref m0, .int x] [(m0, .inr (8, [.ref m1, .ref m2, .ref m3, .ref m4, .ref m5, .ref m6, .ref m7, .ref m8, .ref m9, .int fu, .int fd, .int fi, .int nu, .int nw, .int nf, .int bf, .int bn, .ref m10, .int ts, .int ap, .int fs, .int ln, .int fo, .int fa, .ref m11, .ref m12, .ref m13, .ref m14, .int wr])), aJ G m1 560 mw, aZ G m2 2 ik, aI G m3 20 zs, aI G m4 20 cl, aI G m5 20 hs, aI G m6 20 ks, aI G m7 20 wa, aI G m8 20 ne, aI G m9 4 mn, aI G m10 400 tx, aI G m11 6 th, aI G m12 6 od, aI G m13 30 bk, aI G m14 30 bh] sz (fun (r : Int64) (_ : Unit) => True) (fun (_ : Unit) => [(m0, .inr (8, [.ref m1, .ref m2, .ref m3, .ref m4, .ref m5, .ref m6, .ref m7, .ref m8, .ref m9, .int fu, .int fd, .int fi, .int nu, .int nw, .int nf, .int bf, .int bn, .ref m10, .int ts, .int ap, .int fs, .int ln, .int fo, .int fa, .ref m11, .ref m12, .ref m13, .ref m14, .int wr])), aJ G m1 560 mw, aZ G m2 2 ik, aI G m3 20 zs, aI G m4 20 cl, aI G m5 20 hs, aI G m6 20 ks, aI G m7 20 wa, aI G m8 20 ne, aI G m9 4 mn, aI G m10 400 tx, aI G m11 6 th, aI G m12 6 od, aI G m13 30 bk, aI G m14 30 bh]) :=
  c_X8_told l G m0 m1 m2 m3 m4 m5 m6 m7 m8 m9 m10 m11 m12 m13 m14 sz mw ik zs cl hs ks wa ne mn tx th od bk bh fu fd fi nu nw nf bf bn ts ap fs ln fo fa wr x (by
    sorry)

set_option maxHeartbeats 4000000 in
set_option maxRecDepth 100000 in
theorem c_X8_stone (l : Launch) (G : Gt) (m0 m1 m2 m3 m4 m5 m6 m7 m8 m9 m10 m11 m12 m13 m14 : Nat) (sz : Nat) (mw : Nat → Int64) (ik : Nat → Int32) (zs : Nat → Int32) (cl : Nat → Int32) (hs : Nat → Int32) (ks : Nat → Int32) (wa : Nat → Int32) (ne : Nat → Int32) (mn : Nat → Int32) (tx : Nat → Int32) (th : Nat → Int32) (od : Nat → Int32) (bk : Nat → Int32) (bh : Nat → Int32) (fu : Int32) (fd : Int32) (fi : Int32) (nu : Int32) (nw : Int32) (nf : Int32) (bf : Int32) (bn : Int32) (ts : Int32) (ap : Int32) (fs : Int32) (ln : Int32) (fo : Int32) (fa : Int32) (wr : Int32) (x : Int32) (y : Int32) (hv : (True) ∧ (∀ (r_1 : Int32), (True) → ((¬ r_1 = 0 → (¬ y = 0 → (¬ y = 1 → (¬ y = 2 → (¬ y = 3 → True) ∧ (y = 3 → (True) ∧ (∀ (r_7 : Int32), (True) → (True)))) ∧ (y = 2 → (vp_in x 560) ∧ (True))) ∧ (y = 1 → (vp_in x 20) ∧ (True))) ∧ (y = 0 → (vp_in x 20) ∧ (True))) ∧ (r_1 = 0 → True)))) : MetI l yX8_stone wsX8_stone 2 46 G [.ref m0, .int x, .int y] [(m0, .inr (8, [.ref m1, .ref m2, .ref m3, .ref m4, .ref m5, .ref m6, .ref m7, .ref m8, .ref m9, .int fu, .int fd, .int fi, .int nu, .int nw, .int nf, .int bf, .int bn, .ref m10, .int ts, .int ap, .int fs, .int ln, .int fo, .int fa, .ref m11, .ref m12, .ref m13, .ref m14, .int wr])), aJ G m1 560 mw, aZ G m2 2 ik, aI G m3 20 zs, aI G m4 20 cl, aI G m5 20 hs, aI G m6 20 ks, aI G m7 20 wa, aI G m8 20 ne, aI G m9 4 mn, aI G m10 400 tx, aI G m11 6 th, aI G m12 6 od, aI G m13 30 bk, aI G m14 30 bh] sz (fun (r : Int32) (_ : Unit) => True) (fun (_ : Unit) => [(m0, .inr (8, [.ref m1, .ref m2, .ref m3, .ref m4, .ref m5, .ref m6, .ref m7, .ref m8, .ref m9, .int fu, .int fd, .int fi, .int nu, .int nw, .int nf, .int bf, .int bn, .ref m10, .int ts, .int ap, .int fs, .int ln, .int fo, .int fa, .ref m11, .ref m12, .ref m13, .ref m14, .int wr])), aJ G m1 560 mw, aZ G m2 2 ik, aI G m3 20 zs, aI G m4 20 cl, aI G m5 20 hs, aI G m6 20 ks, aI G m7 20 wa, aI G m8 20 ne, aI G m9 4 mn, aI G m10 400 tx, aI G m11 6 th, aI G m12 6 od, aI G m13 30 bk, aI G m14 30 bh]) := by
  refine x_startI (cc := cX8_stone) (maxL := 3) (ret := (some .int)) (by decide) rfl (Nat.le_of_ble_eq_true rfl) ?_
  intro p e s m args below meth c A R Q ls hRf hRl hQ C hP hD hS hA hSS hl
  obtain ⟨hx, hb, hr, hml, hown, hts, hlocks, hKK⟩ := C
  have hown : s.vm.findClass RX8 = some m.cls := hown
  have hl : lv_has ls 3 [(0, .ref m0), (1, .int x), (2, .int y)] := hl
  have hinX8 : ∀ w ∈ u_ws RX8 TX8 29, w ∈ wsX8_stone := by decide +kernel
  have kl164 := hts (.constant RX8 164 (-1000000001)) (by decide +kernel)
  have kl17 := hts (.fieldLink RX8 17 "WarmStonesModel" "sizes" "[I") (by decide +kernel)
  have kl21 := hts (.fieldLink RX8 21 "WarmStonesModel" "coolings" "[I") (by decide +kernel)
  have kl7 := hts (.fieldLink RX8 7 "WarmStonesModel" "w" "[J") (by decide +kernel)
  have kl73 := hts (.constant RX8 73 (-1000000002)) (by decide +kernel)
  refine lv_aload_n hx hb dX8_stone_0 rfl (lv_at hl 0 rfl) ?_
  refine lv_iload_n hx hb dX8_stone_1 rfl (lv_at hl 1 rfl) ?_
  obtain ⟨hp, hv⟩ := hv
  refine x_calliR (x_runV (As := [.int x]) (rest := []) (n := 1) (C := RX8) (ci := 8) ⟨hx, hb, hml, hown, hts⟩ (k_X8_isStone l G m0 m1 m2 m3 m4 m5 m6 m7 m8 m9 m10 m11 m12 m13 m14 _ mw ik zs cl hs ks wa ne mn tx th od bk bh fu fd fi nu nw nf bf bn ts ap fs ln fo fa wr x hp) gX8_stone_X8_isStone rfl (by decide +kernel) ⟨Nat.le_trans (Nat.le_of_ble_eq_true rfl) hRf, Nat.le_trans (Nat.le_of_ble_eq_true rfl) hRl⟩ hKK hSS hS hA hP hD [0, 1, 2, 3, 4, 5, 6, 7, 8, 9, 10, 11, 12, 13, 14] (by decide) rfl rfl rfl 0 rfl rfl hl.1 rfl (Nat.le_of_ble_eq_true rfl) dX8_stone_2) hP hD hS hA [0, 1, 2, 3, 4, 5, 6, 7, 8, 9, 10, 11, 12, 13, 14] rfl (fun r_1 _ H locs hw hP hS => ?_)
  have hv := hv r_1 hw
  refine lv_if_ne (tgt := 11) hx hb dX8_stone_5 (by decide) (fun hc_2 => ?_) (fun hc_2 => ?_)
  · have hv := hv.1 hc_2
    refine lv_iload_n hx hb dX8_stone_11 rfl (lv_at hl 2 rfl) ?_
    refine lv_if_ne (tgt := 24) hx hb dX8_stone_12 (by decide) (fun hc_3 => ?_) (fun hc_3 => ?_)
    · have hv := hv.1 hc_3
      refine lv_iload_n hx hb dX8_stone_24 rfl (lv_at hl 2 rfl) ?_
      refine lv_iconst (v := 1) hx hb dX8_stone_25 (by decide) ?_
      refine lv_icmp_ne (tgt := 38) hx hb dX8_stone_26 (by decide) (fun hc_4 => ?_) (fun hc_4 => ?_)
      · have hv := hv.1 hc_4
        refine lv_iload_n hx hb dX8_stone_38 rfl (lv_at hl 2 rfl) ?_
        refine lv_iconst (v := 2) hx hb dX8_stone_39 (by decide) ?_
        refine lv_icmp_ne (tgt := 53) hx hb dX8_stone_40 (by decide) (fun hc_5 => ?_) (fun hc_5 => ?_)
        · have hv := hv.1 hc_5
          refine lv_iload_n hx hb dX8_stone_53 rfl (lv_at hl 2 rfl) ?_
          refine lv_iconst (v := 3) hx hb dX8_stone_54 (by decide) ?_
          refine lv_icmp_ne (tgt := 67) hx hb dX8_stone_55 (by decide) (fun hc_6 => ?_) (fun hc_6 => ?_)
          · have hv := hv.1 hc_6
            refine lv_ldc (v := (-1000000002)) hx hb hown kl73 dX8_stone_67 ?_
            exact x_iret (v := (-1000000002)) () hQ hx hb hr hlocks hS dX8_stone_69 hv hP hD
          · have hv := hv.2 hc_6
            refine lv_aload_n hx hb dX8_stone_58 rfl (lv_at hl 0 rfl) ?_
            refine lv_iconst (v := 0) hx hb dX8_stone_59 (by decide) ?_
            refine lv_iload_n hx hb dX8_stone_60 rfl (lv_at hl 1 rfl) ?_
            obtain ⟨hp, hv⟩ := hv
            refine x_calliR (x_runV (As := [.int 0, .int x]) (rest := []) (n := 2) (C := RX8) (ci := 8) ⟨hx, hb, hml, hown, hts⟩ (k_X8_sitter l G m0 m1 m2 m3 m4 m5 m6 m7 m8 m9 m10 m11 m12 m13 m14 _ mw ik zs cl hs ks wa ne mn tx th od bk bh fu fd fi nu nw nf bf bn ts ap fs ln fo fa wr 0 x hp) gX8_stone_X8_sitter rfl (by decide +kernel) ⟨Nat.le_trans (Nat.le_of_ble_eq_true rfl) hRf, Nat.le_trans (Nat.le_of_ble_eq_true rfl) hRl⟩ hKK hSS hS hA hP hD [0, 1, 2, 3, 4, 5, 6, 7, 8, 9, 10, 11, 12, 13, 14] (by decide) rfl rfl rfl 0 rfl rfl hl.1 rfl (Nat.le_of_ble_eq_true rfl) dX8_stone_61) hP hD hS hA [0, 1, 2, 3, 4, 5, 6, 7, 8, 9, 10, 11, 12, 13, 14] rfl (fun r_7 _ H locs hw hP hS => ?_)
            have hv := hv r_7 hw
            refine lv_goto (tgt := 69) hx hb dX8_stone_64 (by decide) ?_
            exact x_iret (v := r_7) () hQ hx hb hr hlocks hS dX8_stone_69 hv hP hD
        · have hv := hv.2 hc_5
          refine lv_aload_n hx hb dX8_stone_43 rfl (lv_at hl 0 rfl) ?_
          refine va_get (D := G.1) (ci := 8) (v := .ref m1) (C := RX8) (T := TX8) (N := 29) hx hb hts hinX8 hown hKK.1 hP 0 rfl rfl 0 (by decide) kl7 (fun _ h9 => h9) rfl dX8_stone_44 ?_
          refine lv_iload_n hx hb dX8_stone_47 rfl (lv_at hl 1 rfl) ?_
          obtain ⟨hin, hv⟩ := hv
          refine va_lald hx hb hKK.1 hP 1 2 rfl rfl hin dX8_stone_48 ?_
          refine lv_l2i hx hb dX8_stone_49 rfl ?_
          refine lv_goto (tgt := 69) hx hb dX8_stone_50 (by decide) ?_
          exact x_iret (v := (mw x.toNatClampNeg).toInt32) () hQ hx hb hr hlocks hS dX8_stone_69 hv hP hD
      · have hv := hv.2 hc_4
        refine lv_aload_n hx hb dX8_stone_29 rfl (lv_at hl 0 rfl) ?_
        refine va_get (D := G.1) (ci := 8) (v := .ref m4) (C := RX8) (T := TX8) (N := 29) hx hb hts hinX8 hown hKK.1 hP 0 rfl rfl 3 (by decide) kl21 (fun _ h9 => h9) rfl dX8_stone_30 ?_
        refine lv_iload_n hx hb dX8_stone_33 rfl (lv_at hl 1 rfl) ?_
        obtain ⟨hin, hv⟩ := hv
        refine va_iald hx hb hKK.1 hP 4 0 rfl rfl hin dX8_stone_34 ?_
        refine lv_goto (tgt := 69) hx hb dX8_stone_35 (by decide) ?_
        exact x_iret (v := (cl x.toNatClampNeg)) () hQ hx hb hr hlocks hS dX8_stone_69 hv hP hD
    · have hv := hv.2 hc_3
      refine lv_aload_n hx hb dX8_stone_15 rfl (lv_at hl 0 rfl) ?_
      refine va_get (D := G.1) (ci := 8) (v := .ref m3) (C := RX8) (T := TX8) (N := 29) hx hb hts hinX8 hown hKK.1 hP 0 rfl rfl 2 (by decide) kl17 (fun _ h9 => h9) rfl dX8_stone_16 ?_
      refine lv_iload_n hx hb dX8_stone_19 rfl (lv_at hl 1 rfl) ?_
      obtain ⟨hin, hv⟩ := hv
      refine va_iald hx hb hKK.1 hP 3 0 rfl rfl hin dX8_stone_20 ?_
      refine lv_goto (tgt := 69) hx hb dX8_stone_21 (by decide) ?_
      exact x_iret (v := (zs x.toNatClampNeg)) () hQ hx hb hr hlocks hS dX8_stone_69 hv hP hD
  · have hv := hv.2 hc_2
    refine lv_ldc (v := (-1000000001)) hx hb hown kl164 dX8_stone_8 ?_
    exact x_iret (v := (-1000000001)) () hQ hx hb hr hlocks hS dX8_stone_10 hv hP hD
theorem k_X8_stone (l : Launch) (G : Gt) (m0 m1 m2 m3 m4 m5 m6 m7 m8 m9 m10 m11 m12 m13 m14 : Nat) (sz : Nat) (mw : Nat → Int64) (ik : Nat → Int32) (zs : Nat → Int32) (cl : Nat → Int32) (hs : Nat → Int32) (ks : Nat → Int32) (wa : Nat → Int32) (ne : Nat → Int32) (mn : Nat → Int32) (tx : Nat → Int32) (th : Nat → Int32) (od : Nat → Int32) (bk : Nat → Int32) (bh : Nat → Int32) (fu : Int32) (fd : Int32) (fi : Int32) (nu : Int32) (nw : Int32) (nf : Int32) (bf : Int32) (bn : Int32) (ts : Int32) (ap : Int32) (fs : Int32) (ln : Int32) (fo : Int32) (fa : Int32) (wr : Int32) (x : Int32) (y : Int32) (hp : True) : MetI l yX8_stone wsX8_stone 2 46 G [.ref m0, .int x, .int y] [(m0, .inr (8, [.ref m1, .ref m2, .ref m3, .ref m4, .ref m5, .ref m6, .ref m7, .ref m8, .ref m9, .int fu, .int fd, .int fi, .int nu, .int nw, .int nf, .int bf, .int bn, .ref m10, .int ts, .int ap, .int fs, .int ln, .int fo, .int fa, .ref m11, .ref m12, .ref m13, .ref m14, .int wr])), aJ G m1 560 mw, aZ G m2 2 ik, aI G m3 20 zs, aI G m4 20 cl, aI G m5 20 hs, aI G m6 20 ks, aI G m7 20 wa, aI G m8 20 ne, aI G m9 4 mn, aI G m10 400 tx, aI G m11 6 th, aI G m12 6 od, aI G m13 30 bk, aI G m14 30 bh] sz (fun (r : Int32) (_ : Unit) => True) (fun (_ : Unit) => [(m0, .inr (8, [.ref m1, .ref m2, .ref m3, .ref m4, .ref m5, .ref m6, .ref m7, .ref m8, .ref m9, .int fu, .int fd, .int fi, .int nu, .int nw, .int nf, .int bf, .int bn, .ref m10, .int ts, .int ap, .int fs, .int ln, .int fo, .int fa, .ref m11, .ref m12, .ref m13, .ref m14, .int wr])), aJ G m1 560 mw, aZ G m2 2 ik, aI G m3 20 zs, aI G m4 20 cl, aI G m5 20 hs, aI G m6 20 ks, aI G m7 20 wa, aI G m8 20 ne, aI G m9 4 mn, aI G m10 400 tx, aI G m11 6 th, aI G m12 6 od, aI G m13 30 bk, aI G m14 30 bh]) :=
  c_X8_stone l G m0 m1 m2 m3 m4 m5 m6 m7 m8 m9 m10 m11 m12 m13 m14 sz mw ik zs cl hs ks wa ne mn tx th od bk bh fu fd fi nu nw nf bf bn ts ap fs ln fo fa wr x y (by
    sorry)

set_option maxHeartbeats 4000000 in
set_option maxRecDepth 100000 in
theorem c_X8_person (l : Launch) (G : Gt) (m0 m1 m2 m3 m4 m5 m6 m7 m8 m9 m10 m11 m12 m13 m14 : Nat) (sz : Nat) (mw : Nat → Int64) (ik : Nat → Int32) (zs : Nat → Int32) (cl : Nat → Int32) (hs : Nat → Int32) (ks : Nat → Int32) (wa : Nat → Int32) (ne : Nat → Int32) (mn : Nat → Int32) (tx : Nat → Int32) (th : Nat → Int32) (od : Nat → Int32) (bk : Nat → Int32) (bh : Nat → Int32) (fu : Int32) (fd : Int32) (fi : Int32) (nu : Int32) (nw : Int32) (nf : Int32) (bf : Int32) (bn : Int32) (ts : Int32) (ap : Int32) (fs : Int32) (ln : Int32) (fo : Int32) (fa : Int32) (wr : Int32) (x : Int32) (y : Int32) (hv : (True) ∧ (∀ (r_1 : Int32), (True) → ((¬ r_1 = 0 → (y = 0 → (vp_in x 20) ∧ (True)) ∧ (y = 1 → (vp_in x 20) ∧ (True)) ∧ (y = 2 → (vp_in (10 + x) 560) ∧ (True)) ∧ (y = 3 → (vp_in (20 + x) 560) ∧ (True)) ∧ (y = 4 → (vp_in (30 + x) 560) ∧ (True)) ∧ (y = 5 → (vp_in (40 + x) 560) ∧ (True)) ∧ (y = 6 → (vp_in (50 + x) 560) ∧ (True)) ∧ (¬ y = 0 ∧ ¬ y = 1 ∧ ¬ y = 2 ∧ ¬ y = 3 ∧ ¬ y = 4 ∧ ¬ y = 5 ∧ ¬ y = 6 → True)) ∧ (r_1 = 0 → True)))) : MetI l yX8_person wsX8_person 2 46 G [.ref m0, .int x, .int y] [(m0, .inr (8, [.ref m1, .ref m2, .ref m3, .ref m4, .ref m5, .ref m6, .ref m7, .ref m8, .ref m9, .int fu, .int fd, .int fi, .int nu, .int nw, .int nf, .int bf, .int bn, .ref m10, .int ts, .int ap, .int fs, .int ln, .int fo, .int fa, .ref m11, .ref m12, .ref m13, .ref m14, .int wr])), aJ G m1 560 mw, aZ G m2 2 ik, aI G m3 20 zs, aI G m4 20 cl, aI G m5 20 hs, aI G m6 20 ks, aI G m7 20 wa, aI G m8 20 ne, aI G m9 4 mn, aI G m10 400 tx, aI G m11 6 th, aI G m12 6 od, aI G m13 30 bk, aI G m14 30 bh] sz (fun (r : Int32) (_ : Unit) => True) (fun (_ : Unit) => [(m0, .inr (8, [.ref m1, .ref m2, .ref m3, .ref m4, .ref m5, .ref m6, .ref m7, .ref m8, .ref m9, .int fu, .int fd, .int fi, .int nu, .int nw, .int nf, .int bf, .int bn, .ref m10, .int ts, .int ap, .int fs, .int ln, .int fo, .int fa, .ref m11, .ref m12, .ref m13, .ref m14, .int wr])), aJ G m1 560 mw, aZ G m2 2 ik, aI G m3 20 zs, aI G m4 20 cl, aI G m5 20 hs, aI G m6 20 ks, aI G m7 20 wa, aI G m8 20 ne, aI G m9 4 mn, aI G m10 400 tx, aI G m11 6 th, aI G m12 6 od, aI G m13 30 bk, aI G m14 30 bh]) := by
  refine x_startI (cc := cX8_person) (maxL := 3) (ret := (some .int)) (by decide) rfl (Nat.le_of_ble_eq_true rfl) ?_
  intro p e s m args below meth c A R Q ls hRf hRl hQ C hP hD hS hA hSS hl
  obtain ⟨hx, hb, hr, hml, hown, hts, hlocks, hKK⟩ := C
  have hown : s.vm.findClass RX8 = some m.cls := hown
  have hl : lv_has ls 3 [(0, .ref m0), (1, .int x), (2, .int y)] := hl
  have hinX8 : ∀ w ∈ u_ws RX8 TX8 29, w ∈ wsX8_person := by decide +kernel
  have kl164 := hts (.constant RX8 164 (-1000000001)) (by decide +kernel)
  have kl27 := hts (.fieldLink RX8 27 "WarmStonesModel" "kinds" "[I") (by decide +kernel)
  have kl33 := hts (.fieldLink RX8 33 "WarmStonesModel" "needs" "[I") (by decide +kernel)
  have kl7 := hts (.fieldLink RX8 7 "WarmStonesModel" "w" "[J") (by decide +kernel)
  have kl73 := hts (.constant RX8 73 (-1000000002)) (by decide +kernel)
  refine lv_aload_n hx hb dX8_person_0 rfl (lv_at hl 0 rfl) ?_
  refine lv_iload_n hx hb dX8_person_1 rfl (lv_at hl 1 rfl) ?_
  obtain ⟨hp, hv⟩ := hv
  refine x_calliR (x_runV (As := [.int x]) (rest := []) (n := 1) (C := RX8) (ci := 8) ⟨hx, hb, hml, hown, hts⟩ (k_X8_isPerson l G m0 m1 m2 m3 m4 m5 m6 m7 m8 m9 m10 m11 m12 m13 m14 _ mw ik zs cl hs ks wa ne mn tx th od bk bh fu fd fi nu nw nf bf bn ts ap fs ln fo fa wr x hp) gX8_person_X8_isPerson rfl (by decide +kernel) ⟨Nat.le_trans (Nat.le_of_ble_eq_true rfl) hRf, Nat.le_trans (Nat.le_of_ble_eq_true rfl) hRl⟩ hKK hSS hS hA hP hD [0, 1, 2, 3, 4, 5, 6, 7, 8, 9, 10, 11, 12, 13, 14] (by decide) rfl rfl rfl 0 rfl rfl hl.1 rfl (Nat.le_of_ble_eq_true rfl) dX8_person_2) hP hD hS hA [0, 1, 2, 3, 4, 5, 6, 7, 8, 9, 10, 11, 12, 13, 14] rfl (fun r_1 _ H locs hw hP hS => ?_)
  have hv := hv r_1 hw
  refine lv_if_ne (tgt := 11) hx hb dX8_person_5 (by decide) (fun hc_2 => ?_) (fun hc_2 => ?_)
  · have hv := hv.1 hc_2
    refine lv_iload_n hx hb dX8_person_11 rfl (lv_at hl 2 rfl) ?_
    by_cases hk_30 : y = 0
    · have hv := hv.1 hk_30
      refine lv_tableIn (off := 44) (tgt := 56) hx hb dX8_person_12 (by rw [hk_30]; decide) (by rw [hk_30]; decide) (by rw [hk_30]; decide) (by decide) ?_
      refine lv_aload_n hx hb dX8_person_56 rfl (lv_at hl 0 rfl) ?_
      refine va_get (D := G.1) (ci := 8) (v := .ref m6) (C := RX8) (T := TX8) (N := 29) hx hb hts hinX8 hown hKK.1 hP 0 rfl rfl 5 (by decide) kl27 (fun _ h9 => h9) rfl dX8_person_57 ?_
      refine lv_iload_n hx hb dX8_person_60 rfl (lv_at hl 1 rfl) ?_
      obtain ⟨hin, hv⟩ := hv
      refine va_iald hx hb hKK.1 hP 6 0 rfl rfl hin dX8_person_61 ?_
      exact x_iret (v := (ks x.toNatClampNeg)) () hQ hx hb hr hlocks hS dX8_person_62 hv hP hD
    replace hv := hv.2
    by_cases hk_31 : y = 1
    · have hv := hv.1 hk_31
      refine lv_tableIn (off := 51) (tgt := 63) hx hb dX8_person_12 (by rw [hk_31]; decide) (by rw [hk_31]; decide) (by rw [hk_31]; decide) (by decide) ?_
      refine lv_aload_n hx hb dX8_person_63 rfl (lv_at hl 0 rfl) ?_
      refine va_get (D := G.1) (ci := 8) (v := .ref m8) (C := RX8) (T := TX8) (N := 29) hx hb hts hinX8 hown hKK.1 hP 0 rfl rfl 7 (by decide) kl33 (fun _ h9 => h9) rfl dX8_person_64 ?_
      refine lv_iload_n hx hb dX8_person_67 rfl (lv_at hl 1 rfl) ?_
      obtain ⟨hin, hv⟩ := hv
      refine va_iald hx hb hKK.1 hP 8 0 rfl rfl hin dX8_person_68 ?_
      exact x_iret (v := (ne x.toNatClampNeg)) () hQ hx hb hr hlocks hS dX8_person_69 hv hP hD
    replace hv := hv.2
    by_cases hk_32 : y = 2
    · have hv := hv.1 hk_32
      refine lv_tableIn (off := 58) (tgt := 70) hx hb dX8_person_12 (by rw [hk_32]; decide) (by rw [hk_32]; decide) (by rw [hk_32]; decide) (by decide) ?_
      refine lv_aload_n hx hb dX8_person_70 rfl (lv_at hl 0 rfl) ?_
      refine va_get (D := G.1) (ci := 8) (v := .ref m1) (C := RX8) (T := TX8) (N := 29) hx hb hts hinX8 hown hKK.1 hP 0 rfl rfl 0 (by decide) kl7 (fun _ h9 => h9) rfl dX8_person_71 ?_
      refine lv_bipush (v := 10) hx hb dX8_person_74 (by decide) ?_
      refine lv_iload_n hx hb dX8_person_76 rfl (lv_at hl 1 rfl) ?_
      refine lv_iadd hx hb dX8_person_77 ?_
      obtain ⟨hin, hv⟩ := hv
      refine va_lald hx hb hKK.1 hP 1 2 rfl rfl hin dX8_person_78 ?_
      refine lv_l2i hx hb dX8_person_79 rfl ?_
      exact x_iret (v := (mw (10 + x).toNatClampNeg).toInt32) () hQ hx hb hr hlocks hS dX8_person_80 hv hP hD
    replace hv := hv.2
    by_cases hk_33 : y = 3
    · have hv := hv.1 hk_33
      refine lv_tableIn (off := 69) (tgt := 81) hx hb dX8_person_12 (by rw [hk_33]; decide) (by rw [hk_33]; decide) (by rw [hk_33]; decide) (by decide) ?_
      refine lv_aload_n hx hb dX8_person_81 rfl (lv_at hl 0 rfl) ?_
      refine va_get (D := G.1) (ci := 8) (v := .ref m1) (C := RX8) (T := TX8) (N := 29) hx hb hts hinX8 hown hKK.1 hP 0 rfl rfl 0 (by decide) kl7 (fun _ h9 => h9) rfl dX8_person_82 ?_
      refine lv_bipush (v := 20) hx hb dX8_person_85 (by decide) ?_
      refine lv_iload_n hx hb dX8_person_87 rfl (lv_at hl 1 rfl) ?_
      refine lv_iadd hx hb dX8_person_88 ?_
      obtain ⟨hin, hv⟩ := hv
      refine va_lald hx hb hKK.1 hP 1 2 rfl rfl hin dX8_person_89 ?_
      refine lv_l2i hx hb dX8_person_90 rfl ?_
      exact x_iret (v := (mw (20 + x).toNatClampNeg).toInt32) () hQ hx hb hr hlocks hS dX8_person_91 hv hP hD
    replace hv := hv.2
    by_cases hk_34 : y = 4
    · have hv := hv.1 hk_34
      refine lv_tableIn (off := 80) (tgt := 92) hx hb dX8_person_12 (by rw [hk_34]; decide) (by rw [hk_34]; decide) (by rw [hk_34]; decide) (by decide) ?_
      refine lv_aload_n hx hb dX8_person_92 rfl (lv_at hl 0 rfl) ?_
      refine va_get (D := G.1) (ci := 8) (v := .ref m1) (C := RX8) (T := TX8) (N := 29) hx hb hts hinX8 hown hKK.1 hP 0 rfl rfl 0 (by decide) kl7 (fun _ h9 => h9) rfl dX8_person_93 ?_
      refine lv_bipush (v := 30) hx hb dX8_person_96 (by decide) ?_
      refine lv_iload_n hx hb dX8_person_98 rfl (lv_at hl 1 rfl) ?_
      refine lv_iadd hx hb dX8_person_99 ?_
      obtain ⟨hin, hv⟩ := hv
      refine va_lald hx hb hKK.1 hP 1 2 rfl rfl hin dX8_person_100 ?_
      refine lv_l2i hx hb dX8_person_101 rfl ?_
      exact x_iret (v := (mw (30 + x).toNatClampNeg).toInt32) () hQ hx hb hr hlocks hS dX8_person_102 hv hP hD
    replace hv := hv.2
    by_cases hk_35 : y = 5
    · have hv := hv.1 hk_35
      refine lv_tableIn (off := 91) (tgt := 103) hx hb dX8_person_12 (by rw [hk_35]; decide) (by rw [hk_35]; decide) (by rw [hk_35]; decide) (by decide) ?_
      refine lv_aload_n hx hb dX8_person_103 rfl (lv_at hl 0 rfl) ?_
      refine va_get (D := G.1) (ci := 8) (v := .ref m1) (C := RX8) (T := TX8) (N := 29) hx hb hts hinX8 hown hKK.1 hP 0 rfl rfl 0 (by decide) kl7 (fun _ h9 => h9) rfl dX8_person_104 ?_
      refine lv_bipush (v := 40) hx hb dX8_person_107 (by decide) ?_
      refine lv_iload_n hx hb dX8_person_109 rfl (lv_at hl 1 rfl) ?_
      refine lv_iadd hx hb dX8_person_110 ?_
      obtain ⟨hin, hv⟩ := hv
      refine va_lald hx hb hKK.1 hP 1 2 rfl rfl hin dX8_person_111 ?_
      refine lv_l2i hx hb dX8_person_112 rfl ?_
      exact x_iret (v := (mw (40 + x).toNatClampNeg).toInt32) () hQ hx hb hr hlocks hS dX8_person_113 hv hP hD
    replace hv := hv.2
    by_cases hk_36 : y = 6
    · have hv := hv.1 hk_36
      refine lv_tableIn (off := 102) (tgt := 114) hx hb dX8_person_12 (by rw [hk_36]; decide) (by rw [hk_36]; decide) (by rw [hk_36]; decide) (by decide) ?_
      refine lv_aload_n hx hb dX8_person_114 rfl (lv_at hl 0 rfl) ?_
      refine va_get (D := G.1) (ci := 8) (v := .ref m1) (C := RX8) (T := TX8) (N := 29) hx hb hts hinX8 hown hKK.1 hP 0 rfl rfl 0 (by decide) kl7 (fun _ h9 => h9) rfl dX8_person_115 ?_
      refine lv_bipush (v := 50) hx hb dX8_person_118 (by decide) ?_
      refine lv_iload_n hx hb dX8_person_120 rfl (lv_at hl 1 rfl) ?_
      refine lv_iadd hx hb dX8_person_121 ?_
      obtain ⟨hin, hv⟩ := hv
      refine va_lald hx hb hKK.1 hP 1 2 rfl rfl hin dX8_person_122 ?_
      refine lv_l2i hx hb dX8_person_123 rfl ?_
      exact x_iret (v := (mw (50 + x).toNatClampNeg).toInt32) () hQ hx hb hr hlocks hS dX8_person_124 hv hP hD
    replace hv := hv.2
    have hv := hv ⟨hk_30, hk_31, hk_32, hk_33, hk_34, hk_35, hk_36⟩
    refine lv_tableOut (tgt := 125) hx hb dX8_person_12 (ts_out 6 (by decide) (ts_ne_all 6 ⟨⟨⟨⟨⟨⟨hk_30, hk_31⟩, hk_32⟩, hk_33⟩, hk_34⟩, hk_35⟩, hk_36⟩)) (by decide) ?_
    refine lv_ldc (v := (-1000000002)) hx hb hown kl73 dX8_person_125 ?_
    exact x_iret (v := (-1000000002)) () hQ hx hb hr hlocks hS dX8_person_127 hv hP hD
  · have hv := hv.2 hc_2
    refine lv_ldc (v := (-1000000001)) hx hb hown kl164 dX8_person_8 ?_
    exact x_iret (v := (-1000000001)) () hQ hx hb hr hlocks hS dX8_person_10 hv hP hD
theorem k_X8_person (l : Launch) (G : Gt) (m0 m1 m2 m3 m4 m5 m6 m7 m8 m9 m10 m11 m12 m13 m14 : Nat) (sz : Nat) (mw : Nat → Int64) (ik : Nat → Int32) (zs : Nat → Int32) (cl : Nat → Int32) (hs : Nat → Int32) (ks : Nat → Int32) (wa : Nat → Int32) (ne : Nat → Int32) (mn : Nat → Int32) (tx : Nat → Int32) (th : Nat → Int32) (od : Nat → Int32) (bk : Nat → Int32) (bh : Nat → Int32) (fu : Int32) (fd : Int32) (fi : Int32) (nu : Int32) (nw : Int32) (nf : Int32) (bf : Int32) (bn : Int32) (ts : Int32) (ap : Int32) (fs : Int32) (ln : Int32) (fo : Int32) (fa : Int32) (wr : Int32) (x : Int32) (y : Int32) (hp : True) : MetI l yX8_person wsX8_person 2 46 G [.ref m0, .int x, .int y] [(m0, .inr (8, [.ref m1, .ref m2, .ref m3, .ref m4, .ref m5, .ref m6, .ref m7, .ref m8, .ref m9, .int fu, .int fd, .int fi, .int nu, .int nw, .int nf, .int bf, .int bn, .ref m10, .int ts, .int ap, .int fs, .int ln, .int fo, .int fa, .ref m11, .ref m12, .ref m13, .ref m14, .int wr])), aJ G m1 560 mw, aZ G m2 2 ik, aI G m3 20 zs, aI G m4 20 cl, aI G m5 20 hs, aI G m6 20 ks, aI G m7 20 wa, aI G m8 20 ne, aI G m9 4 mn, aI G m10 400 tx, aI G m11 6 th, aI G m12 6 od, aI G m13 30 bk, aI G m14 30 bh] sz (fun (r : Int32) (_ : Unit) => True) (fun (_ : Unit) => [(m0, .inr (8, [.ref m1, .ref m2, .ref m3, .ref m4, .ref m5, .ref m6, .ref m7, .ref m8, .ref m9, .int fu, .int fd, .int fi, .int nu, .int nw, .int nf, .int bf, .int bn, .ref m10, .int ts, .int ap, .int fs, .int ln, .int fo, .int fa, .ref m11, .ref m12, .ref m13, .ref m14, .int wr])), aJ G m1 560 mw, aZ G m2 2 ik, aI G m3 20 zs, aI G m4 20 cl, aI G m5 20 hs, aI G m6 20 ks, aI G m7 20 wa, aI G m8 20 ne, aI G m9 4 mn, aI G m10 400 tx, aI G m11 6 th, aI G m12 6 od, aI G m13 30 bk, aI G m14 30 bh]) :=
  c_X8_person l G m0 m1 m2 m3 m4 m5 m6 m7 m8 m9 m10 m11 m12 m13 m14 sz mw ik zs cl hs ks wa ne mn tx th od bk bh fu fd fi nu nw nf bf bn ts ap fs ln fo fa wr x y (by
    sorry)

set_option maxHeartbeats 4000000 in
set_option maxRecDepth 100000 in
theorem c_X8_owned (l : Launch) (G : Gt) (m0 m1 m2 m3 m4 m5 m6 m7 m8 m9 m10 m11 m12 m13 m14 : Nat) (sz : Nat) (mw : Nat → Int64) (ik : Nat → Int32) (zs : Nat → Int32) (cl : Nat → Int32) (hs : Nat → Int32) (ks : Nat → Int32) (wa : Nat → Int32) (ne : Nat → Int32) (mn : Nat → Int32) (tx : Nat → Int32) (th : Nat → Int32) (od : Nat → Int32) (bk : Nat → Int32) (bh : Nat → Int32) (fu : Int32) (fd : Int32) (fi : Int32) (nu : Int32) (nw : Int32) (nf : Int32) (bf : Int32) (bn : Int32) (ts : Int32) (ap : Int32) (fs : Int32) (ln : Int32) (fo : Int32) (fa : Int32) (wr : Int32) (x : Int32) (y : Int32) (hv : (True) ∧ (∀ (r_1 : Int32), (True) → ((r_1 = 0 → True) ∧ (¬ (r_1 = 0) → (True) ∧ (∀ (r_3 : Int32), (True) → ((r_3 = 0 → True) ∧ (¬ (r_3 = 0) → (vp_in ((60 + (9 * x)) + y) 560) ∧ (True)))))))) : MetI l yX8_owned wsX8_owned 2 46 G [.ref m0, .int x, .int y] [(m0, .inr (8, [.ref m1, .ref m2, .ref m3, .ref m4, .ref m5, .ref m6, .ref m7, .ref m8, .ref m9, .int fu, .int fd, .int fi, .int nu, .int nw, .int nf, .int bf, .int bn, .ref m10, .int ts, .int ap, .int fs, .int ln, .int fo, .int fa, .ref m11, .ref m12, .ref m13, .ref m14, .int wr])), aJ G m1 560 mw, aZ G m2 2 ik, aI G m3 20 zs, aI G m4 20 cl, aI G m5 20 hs, aI G m6 20 ks, aI G m7 20 wa, aI G m8 20 ne, aI G m9 4 mn, aI G m10 400 tx, aI G m11 6 th, aI G m12 6 od, aI G m13 30 bk, aI G m14 30 bh] sz (fun (r : Int32) (_ : Unit) => True) (fun (_ : Unit) => [(m0, .inr (8, [.ref m1, .ref m2, .ref m3, .ref m4, .ref m5, .ref m6, .ref m7, .ref m8, .ref m9, .int fu, .int fd, .int fi, .int nu, .int nw, .int nf, .int bf, .int bn, .ref m10, .int ts, .int ap, .int fs, .int ln, .int fo, .int fa, .ref m11, .ref m12, .ref m13, .ref m14, .int wr])), aJ G m1 560 mw, aZ G m2 2 ik, aI G m3 20 zs, aI G m4 20 cl, aI G m5 20 hs, aI G m6 20 ks, aI G m7 20 wa, aI G m8 20 ne, aI G m9 4 mn, aI G m10 400 tx, aI G m11 6 th, aI G m12 6 od, aI G m13 30 bk, aI G m14 30 bh]) := by
  refine x_startI (cc := cX8_owned) (maxL := 3) (ret := (some .int)) (by decide) rfl (Nat.le_of_ble_eq_true rfl) ?_
  intro p e s m args below meth c A R Q ls hRf hRl hQ C hP hD hS hA hSS hl
  obtain ⟨hx, hb, hr, hml, hown, hts, hlocks, hKK⟩ := C
  have hown : s.vm.findClass RX8 = some m.cls := hown
  have hl : lv_has ls 3 [(0, .ref m0), (1, .int x), (2, .int y)] := hl
  have hinX8 : ∀ w ∈ u_ws RX8 TX8 29, w ∈ wsX8_owned := by decide +kernel
  have kl164 := hts (.constant RX8 164 (-1000000001)) (by decide +kernel)
  have kl7 := hts (.fieldLink RX8 7 "WarmStonesModel" "w" "[J") (by decide +kernel)
  refine lv_aload_n hx hb dX8_owned_0 rfl (lv_at hl 0 rfl) ?_
  refine lv_iload_n hx hb dX8_owned_1 rfl (lv_at hl 1 rfl) ?_
  obtain ⟨hp, hv⟩ := hv
  refine x_calliR (x_runV (As := [.int x]) (rest := []) (n := 1) (C := RX8) (ci := 8) ⟨hx, hb, hml, hown, hts⟩ (k_X8_isPerson l G m0 m1 m2 m3 m4 m5 m6 m7 m8 m9 m10 m11 m12 m13 m14 _ mw ik zs cl hs ks wa ne mn tx th od bk bh fu fd fi nu nw nf bf bn ts ap fs ln fo fa wr x hp) gX8_owned_X8_isPerson rfl (by decide +kernel) ⟨Nat.le_trans (Nat.le_of_ble_eq_true rfl) hRf, Nat.le_trans (Nat.le_of_ble_eq_true rfl) hRl⟩ hKK hSS hS hA hP hD [0, 1, 2, 3, 4, 5, 6, 7, 8, 9, 10, 11, 12, 13, 14] (by decide) rfl rfl rfl 0 rfl rfl hl.1 rfl (Nat.le_of_ble_eq_true rfl) dX8_owned_2) hP hD hS hA [0, 1, 2, 3, 4, 5, 6, 7, 8, 9, 10, 11, 12, 13, 14] rfl (fun r_1 _ H locs hw hP hS => ?_)
  have hv := hv r_1 hw
  refine lv_if_eq (tgt := 34) hx hb dX8_owned_5 (by decide) (fun hc_2 => ?_) (fun hc_2 => ?_)
  · have hv := hv.1 hc_2
    refine lv_ldc (v := (-1000000001)) hx hb hown kl164 dX8_owned_34 ?_
    exact x_iret (v := (-1000000001)) () hQ hx hb hr hlocks hS dX8_owned_36 hv hP hD
  · have hv := hv.2 hc_2
    refine lv_aload_n hx hb dX8_owned_8 rfl (lv_at hl 0 rfl) ?_
    refine lv_iload_n hx hb dX8_owned_9 rfl (lv_at hl 2 rfl) ?_
    obtain ⟨hp, hv⟩ := hv
    refine x_calliR (x_runV (As := [.int y]) (rest := []) (n := 1) (C := RX8) (ci := 8) ⟨hx, hb, hml, hown, hts⟩ (k_X8_isStone l G m0 m1 m2 m3 m4 m5 m6 m7 m8 m9 m10 m11 m12 m13 m14 _ mw ik zs cl hs ks wa ne mn tx th od bk bh fu fd fi nu nw nf bf bn ts ap fs ln fo fa wr y hp) gX8_owned_X8_isStone rfl (by decide +kernel) ⟨Nat.le_trans (Nat.le_of_ble_eq_true rfl) hRf, Nat.le_trans (Nat.le_of_ble_eq_true rfl) hRl⟩ hKK hSS hS hA hP hD [0, 1, 2, 3, 4, 5, 6, 7, 8, 9, 10, 11, 12, 13, 14] (by decide) rfl rfl rfl 0 rfl rfl hl.1 rfl (Nat.le_of_ble_eq_true rfl) dX8_owned_10) hP hD hS hA [0, 1, 2, 3, 4, 5, 6, 7, 8, 9, 10, 11, 12, 13, 14] rfl (fun r_3 _ H locs hw hP hS => ?_)
    have hv := hv r_3 hw
    refine lv_if_eq (tgt := 34) hx hb dX8_owned_13 (by decide) (fun hc_4 => ?_) (fun hc_4 => ?_)
    · have hv := hv.1 hc_4
      refine lv_ldc (v := (-1000000001)) hx hb hown kl164 dX8_owned_34 ?_
      exact x_iret (v := (-1000000001)) () hQ hx hb hr hlocks hS dX8_owned_36 hv hP hD
    · have hv := hv.2 hc_4
      refine lv_aload_n hx hb dX8_owned_16 rfl (lv_at hl 0 rfl) ?_
      refine va_get (D := G.1) (ci := 8) (v := .ref m1) (C := RX8) (T := TX8) (N := 29) hx hb hts hinX8 hown hKK.1 hP 0 rfl rfl 0 (by decide) kl7 (fun _ h9 => h9) rfl dX8_owned_17 ?_
      refine lv_bipush (v := 60) hx hb dX8_owned_20 (by decide) ?_
      refine lv_bipush (v := 9) hx hb dX8_owned_22 (by decide) ?_
      refine lv_iload_n hx hb dX8_owned_24 rfl (lv_at hl 1 rfl) ?_
      refine lv_imul hx hb dX8_owned_25 ?_
      refine lv_iadd hx hb dX8_owned_26 ?_
      refine lv_iload_n hx hb dX8_owned_27 rfl (lv_at hl 2 rfl) ?_
      refine lv_iadd hx hb dX8_owned_28 ?_
      obtain ⟨hin, hv⟩ := hv
      refine va_lald hx hb hKK.1 hP 1 2 rfl rfl hin dX8_owned_29 ?_
      refine lv_l2i hx hb dX8_owned_30 rfl ?_
      refine lv_goto (tgt := 36) hx hb dX8_owned_31 (by decide) ?_
      exact x_iret (v := (mw ((60 + (9 * x)) + y).toNatClampNeg).toInt32) () hQ hx hb hr hlocks hS dX8_owned_36 hv hP hD
theorem k_X8_owned (l : Launch) (G : Gt) (m0 m1 m2 m3 m4 m5 m6 m7 m8 m9 m10 m11 m12 m13 m14 : Nat) (sz : Nat) (mw : Nat → Int64) (ik : Nat → Int32) (zs : Nat → Int32) (cl : Nat → Int32) (hs : Nat → Int32) (ks : Nat → Int32) (wa : Nat → Int32) (ne : Nat → Int32) (mn : Nat → Int32) (tx : Nat → Int32) (th : Nat → Int32) (od : Nat → Int32) (bk : Nat → Int32) (bh : Nat → Int32) (fu : Int32) (fd : Int32) (fi : Int32) (nu : Int32) (nw : Int32) (nf : Int32) (bf : Int32) (bn : Int32) (ts : Int32) (ap : Int32) (fs : Int32) (ln : Int32) (fo : Int32) (fa : Int32) (wr : Int32) (x : Int32) (y : Int32) (hp : True) : MetI l yX8_owned wsX8_owned 2 46 G [.ref m0, .int x, .int y] [(m0, .inr (8, [.ref m1, .ref m2, .ref m3, .ref m4, .ref m5, .ref m6, .ref m7, .ref m8, .ref m9, .int fu, .int fd, .int fi, .int nu, .int nw, .int nf, .int bf, .int bn, .ref m10, .int ts, .int ap, .int fs, .int ln, .int fo, .int fa, .ref m11, .ref m12, .ref m13, .ref m14, .int wr])), aJ G m1 560 mw, aZ G m2 2 ik, aI G m3 20 zs, aI G m4 20 cl, aI G m5 20 hs, aI G m6 20 ks, aI G m7 20 wa, aI G m8 20 ne, aI G m9 4 mn, aI G m10 400 tx, aI G m11 6 th, aI G m12 6 od, aI G m13 30 bk, aI G m14 30 bh] sz (fun (r : Int32) (_ : Unit) => True) (fun (_ : Unit) => [(m0, .inr (8, [.ref m1, .ref m2, .ref m3, .ref m4, .ref m5, .ref m6, .ref m7, .ref m8, .ref m9, .int fu, .int fd, .int fi, .int nu, .int nw, .int nf, .int bf, .int bn, .ref m10, .int ts, .int ap, .int fs, .int ln, .int fo, .int fa, .ref m11, .ref m12, .ref m13, .ref m14, .int wr])), aJ G m1 560 mw, aZ G m2 2 ik, aI G m3 20 zs, aI G m4 20 cl, aI G m5 20 hs, aI G m6 20 ks, aI G m7 20 wa, aI G m8 20 ne, aI G m9 4 mn, aI G m10 400 tx, aI G m11 6 th, aI G m12 6 od, aI G m13 30 bk, aI G m14 30 bh]) :=
  c_X8_owned l G m0 m1 m2 m3 m4 m5 m6 m7 m8 m9 m10 m11 m12 m13 m14 sz mw ik zs cl hs ks wa ne mn tx th od bk bh fu fd fi nu nw nf bf bn ts ap fs ln fo fa wr x y (by
    sorry)

set_option maxHeartbeats 4000000 in
set_option maxRecDepth 100000 in
theorem c_X8_flow (l : Launch) (G : Gt) (m0 m1 m2 m3 m4 m5 m6 m7 m8 m9 m10 m11 m12 m13 m14 : Nat) (sz : Nat) (mw : Nat → Int64) (ik : Nat → Int32) (zs : Nat → Int32) (cl : Nat → Int32) (hs : Nat → Int32) (ks : Nat → Int32) (wa : Nat → Int32) (ne : Nat → Int32) (mn : Nat → Int32) (tx : Nat → Int32) (th : Nat → Int32) (od : Nat → Int32) (bk : Nat → Int32) (bh : Nat → Int32) (fu : Int32) (fd : Int32) (fi : Int32) (nu : Int32) (nw : Int32) (nf : Int32) (bf : Int32) (bn : Int32) (ts : Int32) (ap : Int32) (fs : Int32) (ln : Int32) (fo : Int32) (fa : Int32) (wr : Int32) (x : Int32) (y : Int32) (z : Int32) (hv : (vp_in y 20) ∧ ((vp_in ((x + 10) + y) 560) ∧ ((vp_in (x + z) 560) ∧ ((¬ (ks y.toNatClampNeg) = 1 → (¬ (ks y.toNatClampNeg) = 3 → (¬ (ks y.toNatClampNeg) = 2 → (¬ (ks y.toNatClampNeg) = 3 → (vp_in z 20) ∧ ((vp_in (x + z) 560) ∧ (True))) ∧ ((ks y.toNatClampNeg) = 3 → (0 ≤ (((mw ((x + 10) + y).toNatClampNeg) - (mw (x + z).toNatClampNeg)) / 8) → (vp_in z 20) ∧ ((vp_in (x + z) 560) ∧ (True))) ∧ (¬ (0 ≤ (((mw ((x + 10) + y).toNatClampNeg) - (mw (x + z).toNatClampNeg)) / 8)) → (vp_in z 20) ∧ ((vp_in (x + z) 560) ∧ (True))))) ∧ ((ks y.toNatClampNeg) = 2 → (0 < (((mw ((x + 10) + y).toNatClampNeg) - (mw (x + z).toNatClampNeg)) / 8) → (vp_in z 20) ∧ ((vp_in (x + z) 560) ∧ (True))) ∧ (¬ (0 < (((mw ((x + 10) + y).toNatClampNeg) - (mw (x + z).toNatClampNeg)) / 8)) → (¬ (ks y.toNatClampNeg) = 3 → (vp_in z 20) ∧ ((vp_in (x + z) 560) ∧ (True))) ∧ ((ks y.toNatClampNeg) = 3 → (0 ≤ (((mw ((x + 10) + y).toNatClampNeg) - (mw (x + z).toNatClampNeg)) / 8) → (vp_in z 20) ∧ ((vp_in (x + z) 560) ∧ (True))) ∧ (¬ (0 ≤ (((mw ((x + 10) + y).toNatClampNeg) - (mw (x + z).toNatClampNeg)) / 8)) → (vp_in z 20) ∧ ((vp_in (x + z) 560) ∧ (True))))))) ∧ ((ks y.toNatClampNeg) = 3 → (¬ (ks y.toNatClampNeg) = 2 → (¬ (ks y.toNatClampNeg) = 3 → (vp_in z 20) ∧ ((vp_in (x + z) 560) ∧ (True))) ∧ ((ks y.toNatClampNeg) = 3 → (0 ≤ (((mw ((x + 10) + y).toNatClampNeg) - (mw (x + z).toNatClampNeg)) / 2) → (vp_in z 20) ∧ ((vp_in (x + z) 560) ∧ (True))) ∧ (¬ (0 ≤ (((mw ((x + 10) + y).toNatClampNeg) - (mw (x + z).toNatClampNeg)) / 2)) → (vp_in z 20) ∧ ((vp_in (x + z) 560) ∧ (True))))) ∧ ((ks y.toNatClampNeg) = 2 → (0 < (((mw ((x + 10) + y).toNatClampNeg) - (mw (x + z).toNatClampNeg)) / 2) → (vp_in z 20) ∧ ((vp_in (x + z) 560) ∧ (True))) ∧ (¬ (0 < (((mw ((x + 10) + y).toNatClampNeg) - (mw (x + z).toNatClampNeg)) / 2)) → (¬ (ks y.toNatClampNeg) = 3 → (vp_in z 20) ∧ ((vp_in (x + z) 560) ∧ (True))) ∧ ((ks y.toNatClampNeg) = 3 → (0 ≤ (((mw ((x + 10) + y).toNatClampNeg) - (mw (x + z).toNatClampNeg)) / 2) → (vp_in z 20) ∧ ((vp_in (x + z) 560) ∧ (True))) ∧ (¬ (0 ≤ (((mw ((x + 10) + y).toNatClampNeg) - (mw (x + z).toNatClampNeg)) / 2)) → (vp_in z 20) ∧ ((vp_in (x + z) 560) ∧ (True)))))))) ∧ ((ks y.toNatClampNeg) = 1 → (¬ (ks y.toNatClampNeg) = 2 → (¬ (ks y.toNatClampNeg) = 3 → (vp_in z 20) ∧ ((vp_in (x + z) 560) ∧ (True))) ∧ ((ks y.toNatClampNeg) = 3 → (0 ≤ (((mw ((x + 10) + y).toNatClampNeg) - (mw (x + z).toNatClampNeg)) / 4) → (vp_in z 20) ∧ ((vp_in (x + z) 560) ∧ (True))) ∧ (¬ (0 ≤ (((mw ((x + 10) + y).toNatClampNeg) - (mw (x + z).toNatClampNeg)) / 4)) → (vp_in z 20) ∧ ((vp_in (x + z) 560) ∧ (True))))) ∧ ((ks y.toNatClampNeg) = 2 → (0 < (((mw ((x + 10) + y).toNatClampNeg) - (mw (x + z).toNatClampNeg)) / 4) → (vp_in z 20) ∧ ((vp_in (x + z) 560) ∧ (True))) ∧ (¬ (0 < (((mw ((x + 10) + y).toNatClampNeg) - (mw (x + z).toNatClampNeg)) / 4)) → (¬ (ks y.toNatClampNeg) = 3 → (vp_in z 20) ∧ ((vp_in (x + z) 560) ∧ (True))) ∧ ((ks y.toNatClampNeg) = 3 → (0 ≤ (((mw ((x + 10) + y).toNatClampNeg) - (mw (x + z).toNatClampNeg)) / 4) → (vp_in z 20) ∧ ((vp_in (x + z) 560) ∧ (True))) ∧ (¬ (0 ≤ (((mw ((x + 10) + y).toNatClampNeg) - (mw (x + z).toNatClampNeg)) / 4)) → (vp_in z 20) ∧ ((vp_in (x + z) 560) ∧ (True))))))))))) : MetL l yX8_flow wsX8_flow 1 23 G [.ref m0, .int x, .int y, .int z] [(m0, .inr (8, [.ref m1, .ref m2, .ref m3, .ref m4, .ref m5, .ref m6, .ref m7, .ref m8, .ref m9, .int fu, .int fd, .int fi, .int nu, .int nw, .int nf, .int bf, .int bn, .ref m10, .int ts, .int ap, .int fs, .int ln, .int fo, .int fa, .ref m11, .ref m12, .ref m13, .ref m14, .int wr])), aJ G m1 560 mw, aZ G m2 2 ik, aI G m3 20 zs, aI G m4 20 cl, aI G m5 20 hs, aI G m6 20 ks, aI G m7 20 wa, aI G m8 20 ne, aI G m9 4 mn, aI G m10 400 tx, aI G m11 6 th, aI G m12 6 od, aI G m13 30 bk, aI G m14 30 bh] sz (fun (r : Int64) (_ : Unit) => True) (fun (_ : Unit) => [(m0, .inr (8, [.ref m1, .ref m2, .ref m3, .ref m4, .ref m5, .ref m6, .ref m7, .ref m8, .ref m9, .int fu, .int fd, .int fi, .int nu, .int nw, .int nf, .int bf, .int bn, .ref m10, .int ts, .int ap, .int fs, .int ln, .int fo, .int fa, .ref m11, .ref m12, .ref m13, .ref m14, .int wr])), aJ G m1 560 mw, aZ G m2 2 ik, aI G m3 20 zs, aI G m4 20 cl, aI G m5 20 hs, aI G m6 20 ks, aI G m7 20 wa, aI G m8 20 ne, aI G m9 4 mn, aI G m10 400 tx, aI G m11 6 th, aI G m12 6 od, aI G m13 30 bk, aI G m14 30 bh]) := by
  refine x_startL (cc := cX8_flow) (maxL := 7) (ret := (some .long)) (by decide) rfl (Nat.le_of_ble_eq_true rfl) ?_
  intro p e s m args below meth c A R Q ls hRf hRl hQ C hP hD hS hA hSS hl
  obtain ⟨hx, hb, hr, hml, hown, hts, hlocks, hKK⟩ := C
  have hown : s.vm.findClass RX8 = some m.cls := hown
  have hl : lv_has ls 7 [(0, .ref m0), (1, .int x), (2, .int y), (3, .int z)] := hl
  have hinX8 : ∀ w ∈ u_ws RX8 TX8 29, w ∈ wsX8_flow := by decide +kernel
  have kl17 := hts (.fieldLink RX8 17 "WarmStonesModel" "sizes" "[I") (by decide +kernel)
  have kl171 := hts (.constantLong RX8 171 (4)) (by decide +kernel)
  have kl173 := hts (.constantLong RX8 173 (2)) (by decide +kernel)
  have kl27 := hts (.fieldLink RX8 27 "WarmStonesModel" "kinds" "[I") (by decide +kernel)
  have kl67 := hts (.constantLong RX8 67 (8)) (by decide +kernel)
  have kl7 := hts (.fieldLink RX8 7 "WarmStonesModel" "w" "[J") (by decide +kernel)
  refine lv_aload_n hx hb dX8_flow_0 rfl (lv_at hl 0 rfl) ?_
  refine va_get (D := G.1) (ci := 8) (v := .ref m6) (C := RX8) (T := TX8) (N := 29) hx hb hts hinX8 hown hKK.1 hP 0 rfl rfl 5 (by decide) kl27 (fun _ h9 => h9) rfl dX8_flow_1 ?_
  refine lv_iload_n hx hb dX8_flow_4 rfl (lv_at hl 2 rfl) ?_
  obtain ⟨hin, hv⟩ := hv
  refine va_iald hx hb hKK.1 hP 6 0 rfl rfl hin dX8_flow_5 ?_
  refine lv_istore (lv' := [(4, .int (ks y.toNatClampNeg)), (0, .ref m0), (1, .int x), (2, .int y), (3, .int z)]) hx hb dX8_flow_6 hl (by decide) rfl (fun ls hl => ?_)
  refine lv_aload_n hx hb dX8_flow_8 rfl (lv_at hl 1 rfl) ?_
  refine va_get (D := G.1) (ci := 8) (v := .ref m1) (C := RX8) (T := TX8) (N := 29) hx hb hts hinX8 hown hKK.1 hP 0 rfl rfl 0 (by decide) kl7 (fun _ h9 => h9) rfl dX8_flow_9 ?_
  refine lv_iload_n hx hb dX8_flow_12 rfl (lv_at hl 2 rfl) ?_
  refine lv_bipush (v := 10) hx hb dX8_flow_13 (by decide) ?_
  refine lv_iadd hx hb dX8_flow_15 ?_
  refine lv_iload_n hx hb dX8_flow_16 rfl (lv_at hl 3 rfl) ?_
  refine lv_iadd hx hb dX8_flow_17 ?_
  obtain ⟨hin, hv⟩ := hv
  refine va_lald hx hb hKK.1 hP 1 2 rfl rfl hin dX8_flow_18 ?_
  refine lv_aload_n hx hb dX8_flow_19 rfl (lv_at hl 1 rfl) ?_
  refine va_get (D := G.1) (ci := 8) (v := .ref m1) (C := RX8) (T := TX8) (N := 29) hx hb hts hinX8 hown hKK.1 hP 0 rfl rfl 0 (by decide) kl7 (fun _ h9 => h9) rfl dX8_flow_20 ?_
  refine lv_iload_n hx hb dX8_flow_23 rfl (lv_at hl 2 rfl) ?_
  refine lv_iload_n hx hb dX8_flow_24 rfl (lv_at hl 4 rfl) ?_
  refine lv_iadd hx hb dX8_flow_25 ?_
  obtain ⟨hin, hv⟩ := hv
  refine va_lald hx hb hKK.1 hP 1 2 rfl rfl hin dX8_flow_26 ?_
  refine lv_lsub hx hb dX8_flow_27 ?_
  refine lv_iload hx hb dX8_flow_28 (lv_at hl 0 rfl) ?_
  refine lv_iconst (v := 1) hx hb dX8_flow_30 (by decide) ?_
  refine lv_icmp_ne (tgt := 40) hx hb dX8_flow_31 (by decide) (fun hc_1 => ?_) (fun hc_1 => ?_)
  · have hv := hv.1 hc_1
    refine lv_iload hx hb dX8_flow_40 (lv_at hl 0 rfl) ?_
    refine lv_iconst (v := 3) hx hb dX8_flow_42 (by decide) ?_
    refine lv_icmp_ne (tgt := 52) hx hb dX8_flow_43 (by decide) (fun hc_2 => ?_) (fun hc_2 => ?_)
    · have hv := hv.1 hc_2
      refine lv_ldc2 (v := 8) hx hb hown kl67 dX8_flow_52 ?_
      refine lv_ldiv hx hb dX8_flow_55 (by decide) ?_
      refine lv_lstore (lv' := [(5, .long (((mw ((x + 10) + y).toNatClampNeg) - (mw (x + z).toNatClampNeg)) / 8)), (4, .int (ks y.toNatClampNeg)), (0, .ref m0), (1, .int x), (2, .int y), (3, .int z)]) hx hb dX8_flow_56 hl (by decide) rfl (fun ls hl => ?_)
      refine lv_iload hx hb dX8_flow_58 (lv_at hl 1 rfl) ?_
      refine lv_iconst (v := 2) hx hb dX8_flow_60 (by decide) ?_
      refine lv_icmp_ne (tgt := 71) hx hb dX8_flow_61 (by decide) (fun hc_3 => ?_) (fun hc_3 => ?_)
      · have hv := hv.1 hc_3
        refine lv_iload hx hb dX8_flow_71 (lv_at hl 1 rfl) ?_
        refine lv_iconst (v := 3) hx hb dX8_flow_73 (by decide) ?_
        refine lv_icmp_ne (tgt := 88) hx hb dX8_flow_74 (by decide) (fun hc_4 => ?_) (fun hc_4 => ?_)
        · have hv := hv.1 hc_4
          refine lv_lload hx hb dX8_flow_88 (lv_at hl 0 rfl) ?_
          refine lv_lstore (lv' := [(5, .long (((mw ((x + 10) + y).toNatClampNeg) - (mw (x + z).toNatClampNeg)) / 8)), (4, .int (ks y.toNatClampNeg)), (0, .ref m0), (1, .int x), (2, .int y), (3, .int z)]) hx hb dX8_flow_90 hl (by decide) rfl (fun ls hl => ?_)
          refine lv_lload hx hb dX8_flow_92 (lv_at hl 0 rfl) ?_
          refine lv_aload_n hx hb dX8_flow_94 rfl (lv_at hl 2 rfl) ?_
          refine va_get (D := G.1) (ci := 8) (v := .ref m3) (C := RX8) (T := TX8) (N := 29) hx hb hts hinX8 hown hKK.1 hP 0 rfl rfl 2 (by decide) kl17 (fun _ h9 => h9) rfl dX8_flow_95 ?_
          refine lv_iload_n hx hb dX8_flow_98 rfl (lv_at hl 5 rfl) ?_
          obtain ⟨hin, hv⟩ := hv
          refine va_iald hx hb hKK.1 hP 3 0 rfl rfl hin dX8_flow_99 ?_
          refine lv_i2l hx hb dX8_flow_100 rfl ?_
          refine lv_aload_n hx hb dX8_flow_101 rfl (lv_at hl 2 rfl) ?_
          refine va_get (D := G.1) (ci := 8) (v := .ref m1) (C := RX8) (T := TX8) (N := 29) hx hb hts hinX8 hown hKK.1 hP 0 rfl rfl 0 (by decide) kl7 (fun _ h9 => h9) rfl dX8_flow_102 ?_
          refine lv_iload_n hx hb dX8_flow_105 rfl (lv_at hl 3 rfl) ?_
          refine lv_iload_n hx hb dX8_flow_106 rfl (lv_at hl 5 rfl) ?_
          refine lv_iadd hx hb dX8_flow_107 ?_
          obtain ⟨hin, hv⟩ := hv
          refine va_lald hx hb hKK.1 hP 1 2 rfl rfl hin dX8_flow_108 ?_
          refine lv_lsub hx hb dX8_flow_109 ?_
          refine x_calllR (x_runS (As := [.long (((mw ((x + 10) + y).toNatClampNeg) - (mw (x + z).toNatClampNeg)) / 8), .long ((zs z.toNatClampNeg).toInt64 - (mw (x + z).toNatClampNeg))]) (rest := []) (n := 2) ⟨hx, hb, hml, hown, hts⟩ (k_X8_less l G  _ (((mw ((x + 10) + y).toNatClampNeg) - (mw (x + z).toNatClampNeg)) / 8) ((zs z.toNatClampNeg).toInt64 - (mw (x + z).toNatClampNeg))) gX8_flow_X8_less rfl (by decide +kernel) ⟨Nat.le_trans (Nat.le_of_ble_eq_true rfl) hRf, Nat.le_trans (Nat.le_of_ble_eq_true rfl) hRl⟩ hKK hSS hS hA hP hD [] (by decide) rfl rfl hl.1 rfl (Nat.le_of_ble_eq_true rfl) dX8_flow_110) hP hD hS hA [] rfl (fun r_5 _ H locs hw hP hS => ?_)
          replace hw := hw.symm; subst hw
          exact x_lret (v := (if (((mw ((x + 10) + y).toNatClampNeg) - (mw (x + z).toNatClampNeg)) / 8) < ((zs z.toNatClampNeg).toInt64 - (mw (x + z).toNatClampNeg)) then (((mw ((x + 10) + y).toNatClampNeg) - (mw (x + z).toNatClampNeg)) / 8) else ((zs z.toNatClampNeg).toInt64 - (mw (x + z).toNatClampNeg)))) () hQ hx hb hr hlocks hS dX8_flow_113 hv hP hD
        · have hv := hv.2 hc_4
          refine lv_lload hx hb dX8_flow_77 (lv_at hl 0 rfl) ?_
          refine lv_lconst (v := 0) hx hb dX8_flow_79 (by decide) ?_
          refine W.lcmp hx hb dX8_flow_80 ?_
          refine lv_if_ge (tgt := 88) hx hb dX8_flow_81 (by decide) (fun hc_6 => ?_) (fun hc_6 => ?_)
          · have hv := hv.1 ((lg_cmp_ge _ _).mp hc_6)
            refine lv_lload hx hb dX8_flow_88 (lv_at hl 0 rfl) ?_
            refine lv_lstore (lv' := [(5, .long (((mw ((x + 10) + y).toNatClampNeg) - (mw (x + z).toNatClampNeg)) / 8)), (4, .int (ks y.toNatClampNeg)), (0, .ref m0), (1, .int x), (2, .int y), (3, .int z)]) hx hb dX8_flow_90 hl (by decide) rfl (fun ls hl => ?_)
            refine lv_lload hx hb dX8_flow_92 (lv_at hl 0 rfl) ?_
            refine lv_aload_n hx hb dX8_flow_94 rfl (lv_at hl 2 rfl) ?_
            refine va_get (D := G.1) (ci := 8) (v := .ref m3) (C := RX8) (T := TX8) (N := 29) hx hb hts hinX8 hown hKK.1 hP 0 rfl rfl 2 (by decide) kl17 (fun _ h9 => h9) rfl dX8_flow_95 ?_
            refine lv_iload_n hx hb dX8_flow_98 rfl (lv_at hl 5 rfl) ?_
            obtain ⟨hin, hv⟩ := hv
            refine va_iald hx hb hKK.1 hP 3 0 rfl rfl hin dX8_flow_99 ?_
            refine lv_i2l hx hb dX8_flow_100 rfl ?_
            refine lv_aload_n hx hb dX8_flow_101 rfl (lv_at hl 2 rfl) ?_
            refine va_get (D := G.1) (ci := 8) (v := .ref m1) (C := RX8) (T := TX8) (N := 29) hx hb hts hinX8 hown hKK.1 hP 0 rfl rfl 0 (by decide) kl7 (fun _ h9 => h9) rfl dX8_flow_102 ?_
            refine lv_iload_n hx hb dX8_flow_105 rfl (lv_at hl 3 rfl) ?_
            refine lv_iload_n hx hb dX8_flow_106 rfl (lv_at hl 5 rfl) ?_
            refine lv_iadd hx hb dX8_flow_107 ?_
            obtain ⟨hin, hv⟩ := hv
            refine va_lald hx hb hKK.1 hP 1 2 rfl rfl hin dX8_flow_108 ?_
            refine lv_lsub hx hb dX8_flow_109 ?_
            refine x_calllR (x_runS (As := [.long (((mw ((x + 10) + y).toNatClampNeg) - (mw (x + z).toNatClampNeg)) / 8), .long ((zs z.toNatClampNeg).toInt64 - (mw (x + z).toNatClampNeg))]) (rest := []) (n := 2) ⟨hx, hb, hml, hown, hts⟩ (k_X8_less l G  _ (((mw ((x + 10) + y).toNatClampNeg) - (mw (x + z).toNatClampNeg)) / 8) ((zs z.toNatClampNeg).toInt64 - (mw (x + z).toNatClampNeg))) gX8_flow_X8_less rfl (by decide +kernel) ⟨Nat.le_trans (Nat.le_of_ble_eq_true rfl) hRf, Nat.le_trans (Nat.le_of_ble_eq_true rfl) hRl⟩ hKK hSS hS hA hP hD [] (by decide) rfl rfl hl.1 rfl (Nat.le_of_ble_eq_true rfl) dX8_flow_110) hP hD hS hA [] rfl (fun r_7 _ H locs hw hP hS => ?_)
            replace hw := hw.symm; subst hw
            exact x_lret (v := (if (((mw ((x + 10) + y).toNatClampNeg) - (mw (x + z).toNatClampNeg)) / 8) < ((zs z.toNatClampNeg).toInt64 - (mw (x + z).toNatClampNeg)) then (((mw ((x + 10) + y).toNatClampNeg) - (mw (x + z).toNatClampNeg)) / 8) else ((zs z.toNatClampNeg).toInt64 - (mw (x + z).toNatClampNeg)))) () hQ hx hb hr hlocks hS dX8_flow_113 hv hP hD
          · have hv := hv.2 (fun h => hc_6 ((lg_cmp_ge _ _).mpr h))
            refine lv_lconst (v := 0) hx hb dX8_flow_84 (by decide) ?_
            refine lv_goto (tgt := 90) hx hb dX8_flow_85 (by decide) ?_
            refine lv_lstore (lv' := [(5, .long 0), (4, .int (ks y.toNatClampNeg)), (0, .ref m0), (1, .int x), (2, .int y), (3, .int z)]) hx hb dX8_flow_90 hl (by decide) rfl (fun ls hl => ?_)
            refine lv_lload hx hb dX8_flow_92 (lv_at hl 0 rfl) ?_
            refine lv_aload_n hx hb dX8_flow_94 rfl (lv_at hl 2 rfl) ?_
            refine va_get (D := G.1) (ci := 8) (v := .ref m3) (C := RX8) (T := TX8) (N := 29) hx hb hts hinX8 hown hKK.1 hP 0 rfl rfl 2 (by decide) kl17 (fun _ h9 => h9) rfl dX8_flow_95 ?_
            refine lv_iload_n hx hb dX8_flow_98 rfl (lv_at hl 5 rfl) ?_
            obtain ⟨hin, hv⟩ := hv
            refine va_iald hx hb hKK.1 hP 3 0 rfl rfl hin dX8_flow_99 ?_
            refine lv_i2l hx hb dX8_flow_100 rfl ?_
            refine lv_aload_n hx hb dX8_flow_101 rfl (lv_at hl 2 rfl) ?_
            refine va_get (D := G.1) (ci := 8) (v := .ref m1) (C := RX8) (T := TX8) (N := 29) hx hb hts hinX8 hown hKK.1 hP 0 rfl rfl 0 (by decide) kl7 (fun _ h9 => h9) rfl dX8_flow_102 ?_
            refine lv_iload_n hx hb dX8_flow_105 rfl (lv_at hl 3 rfl) ?_
            refine lv_iload_n hx hb dX8_flow_106 rfl (lv_at hl 5 rfl) ?_
            refine lv_iadd hx hb dX8_flow_107 ?_
            obtain ⟨hin, hv⟩ := hv
            refine va_lald hx hb hKK.1 hP 1 2 rfl rfl hin dX8_flow_108 ?_
            refine lv_lsub hx hb dX8_flow_109 ?_
            refine x_calllR (x_runS (As := [.long 0, .long ((zs z.toNatClampNeg).toInt64 - (mw (x + z).toNatClampNeg))]) (rest := []) (n := 2) ⟨hx, hb, hml, hown, hts⟩ (k_X8_less l G  _ 0 ((zs z.toNatClampNeg).toInt64 - (mw (x + z).toNatClampNeg))) gX8_flow_X8_less rfl (by decide +kernel) ⟨Nat.le_trans (Nat.le_of_ble_eq_true rfl) hRf, Nat.le_trans (Nat.le_of_ble_eq_true rfl) hRl⟩ hKK hSS hS hA hP hD [] (by decide) rfl rfl hl.1 rfl (Nat.le_of_ble_eq_true rfl) dX8_flow_110) hP hD hS hA [] rfl (fun r_8 _ H locs hw hP hS => ?_)
            replace hw := hw.symm; subst hw
            exact x_lret (v := (if 0 < ((zs z.toNatClampNeg).toInt64 - (mw (x + z).toNatClampNeg)) then 0 else ((zs z.toNatClampNeg).toInt64 - (mw (x + z).toNatClampNeg)))) () hQ hx hb hr hlocks hS dX8_flow_113 hv hP hD
      · have hv := hv.2 hc_3
        refine lv_lload hx hb dX8_flow_64 (lv_at hl 0 rfl) ?_
        refine lv_lconst (v := 0) hx hb dX8_flow_66 (by decide) ?_
        refine W.lcmp hx hb dX8_flow_67 ?_
        refine lv_if_gt (tgt := 84) hx hb dX8_flow_68 (by decide) (fun hc_9 => ?_) (fun hc_9 => ?_)
        · have hv := hv.1 ((lg_cmp_gt _ _).mp hc_9)
          refine lv_lconst (v := 0) hx hb dX8_flow_84 (by decide) ?_
          refine lv_goto (tgt := 90) hx hb dX8_flow_85 (by decide) ?_
          refine lv_lstore (lv' := [(5, .long 0), (4, .int (ks y.toNatClampNeg)), (0, .ref m0), (1, .int x), (2, .int y), (3, .int z)]) hx hb dX8_flow_90 hl (by decide) rfl (fun ls hl => ?_)
          refine lv_lload hx hb dX8_flow_92 (lv_at hl 0 rfl) ?_
          refine lv_aload_n hx hb dX8_flow_94 rfl (lv_at hl 2 rfl) ?_
          refine va_get (D := G.1) (ci := 8) (v := .ref m3) (C := RX8) (T := TX8) (N := 29) hx hb hts hinX8 hown hKK.1 hP 0 rfl rfl 2 (by decide) kl17 (fun _ h9 => h9) rfl dX8_flow_95 ?_
          refine lv_iload_n hx hb dX8_flow_98 rfl (lv_at hl 5 rfl) ?_
          obtain ⟨hin, hv⟩ := hv
          refine va_iald hx hb hKK.1 hP 3 0 rfl rfl hin dX8_flow_99 ?_
          refine lv_i2l hx hb dX8_flow_100 rfl ?_
          refine lv_aload_n hx hb dX8_flow_101 rfl (lv_at hl 2 rfl) ?_
          refine va_get (D := G.1) (ci := 8) (v := .ref m1) (C := RX8) (T := TX8) (N := 29) hx hb hts hinX8 hown hKK.1 hP 0 rfl rfl 0 (by decide) kl7 (fun _ h9 => h9) rfl dX8_flow_102 ?_
          refine lv_iload_n hx hb dX8_flow_105 rfl (lv_at hl 3 rfl) ?_
          refine lv_iload_n hx hb dX8_flow_106 rfl (lv_at hl 5 rfl) ?_
          refine lv_iadd hx hb dX8_flow_107 ?_
          obtain ⟨hin, hv⟩ := hv
          refine va_lald hx hb hKK.1 hP 1 2 rfl rfl hin dX8_flow_108 ?_
          refine lv_lsub hx hb dX8_flow_109 ?_
          refine x_calllR (x_runS (As := [.long 0, .long ((zs z.toNatClampNeg).toInt64 - (mw (x + z).toNatClampNeg))]) (rest := []) (n := 2) ⟨hx, hb, hml, hown, hts⟩ (k_X8_less l G  _ 0 ((zs z.toNatClampNeg).toInt64 - (mw (x + z).toNatClampNeg))) gX8_flow_X8_less rfl (by decide +kernel) ⟨Nat.le_trans (Nat.le_of_ble_eq_true rfl) hRf, Nat.le_trans (Nat.le_of_ble_eq_true rfl) hRl⟩ hKK hSS hS hA hP hD [] (by decide) rfl rfl hl.1 rfl (Nat.le_of_ble_eq_true rfl) dX8_flow_110) hP hD hS hA [] rfl (fun r_10 _ H locs hw hP hS => ?_)
          replace hw := hw.symm; subst hw
          exact x_lret (v := (if 0 < ((zs z.toNatClampNeg).toInt64 - (mw (x + z).toNatClampNeg)) then 0 else ((zs z.toNatClampNeg).toInt64 - (mw (x + z).toNatClampNeg)))) () hQ hx hb hr hlocks hS dX8_flow_113 hv hP hD
        · have hv := hv.2 (fun h => hc_9 ((lg_cmp_gt _ _).mpr h))
          refine lv_iload hx hb dX8_flow_71 (lv_at hl 1 rfl) ?_
          refine lv_iconst (v := 3) hx hb dX8_flow_73 (by decide) ?_
          refine lv_icmp_ne (tgt := 88) hx hb dX8_flow_74 (by decide) (fun hc_11 => ?_) (fun hc_11 => ?_)
          · have hv := hv.1 hc_11
            refine lv_lload hx hb dX8_flow_88 (lv_at hl 0 rfl) ?_
            refine lv_lstore (lv' := [(5, .long (((mw ((x + 10) + y).toNatClampNeg) - (mw (x + z).toNatClampNeg)) / 8)), (4, .int (ks y.toNatClampNeg)), (0, .ref m0), (1, .int x), (2, .int y), (3, .int z)]) hx hb dX8_flow_90 hl (by decide) rfl (fun ls hl => ?_)
            refine lv_lload hx hb dX8_flow_92 (lv_at hl 0 rfl) ?_
            refine lv_aload_n hx hb dX8_flow_94 rfl (lv_at hl 2 rfl) ?_
            refine va_get (D := G.1) (ci := 8) (v := .ref m3) (C := RX8) (T := TX8) (N := 29) hx hb hts hinX8 hown hKK.1 hP 0 rfl rfl 2 (by decide) kl17 (fun _ h9 => h9) rfl dX8_flow_95 ?_
            refine lv_iload_n hx hb dX8_flow_98 rfl (lv_at hl 5 rfl) ?_
            obtain ⟨hin, hv⟩ := hv
            refine va_iald hx hb hKK.1 hP 3 0 rfl rfl hin dX8_flow_99 ?_
            refine lv_i2l hx hb dX8_flow_100 rfl ?_
            refine lv_aload_n hx hb dX8_flow_101 rfl (lv_at hl 2 rfl) ?_
            refine va_get (D := G.1) (ci := 8) (v := .ref m1) (C := RX8) (T := TX8) (N := 29) hx hb hts hinX8 hown hKK.1 hP 0 rfl rfl 0 (by decide) kl7 (fun _ h9 => h9) rfl dX8_flow_102 ?_
            refine lv_iload_n hx hb dX8_flow_105 rfl (lv_at hl 3 rfl) ?_
            refine lv_iload_n hx hb dX8_flow_106 rfl (lv_at hl 5 rfl) ?_
            refine lv_iadd hx hb dX8_flow_107 ?_
            obtain ⟨hin, hv⟩ := hv
            refine va_lald hx hb hKK.1 hP 1 2 rfl rfl hin dX8_flow_108 ?_
            refine lv_lsub hx hb dX8_flow_109 ?_
            refine x_calllR (x_runS (As := [.long (((mw ((x + 10) + y).toNatClampNeg) - (mw (x + z).toNatClampNeg)) / 8), .long ((zs z.toNatClampNeg).toInt64 - (mw (x + z).toNatClampNeg))]) (rest := []) (n := 2) ⟨hx, hb, hml, hown, hts⟩ (k_X8_less l G  _ (((mw ((x + 10) + y).toNatClampNeg) - (mw (x + z).toNatClampNeg)) / 8) ((zs z.toNatClampNeg).toInt64 - (mw (x + z).toNatClampNeg))) gX8_flow_X8_less rfl (by decide +kernel) ⟨Nat.le_trans (Nat.le_of_ble_eq_true rfl) hRf, Nat.le_trans (Nat.le_of_ble_eq_true rfl) hRl⟩ hKK hSS hS hA hP hD [] (by decide) rfl rfl hl.1 rfl (Nat.le_of_ble_eq_true rfl) dX8_flow_110) hP hD hS hA [] rfl (fun r_12 _ H locs hw hP hS => ?_)
            replace hw := hw.symm; subst hw
            exact x_lret (v := (if (((mw ((x + 10) + y).toNatClampNeg) - (mw (x + z).toNatClampNeg)) / 8) < ((zs z.toNatClampNeg).toInt64 - (mw (x + z).toNatClampNeg)) then (((mw ((x + 10) + y).toNatClampNeg) - (mw (x + z).toNatClampNeg)) / 8) else ((zs z.toNatClampNeg).toInt64 - (mw (x + z).toNatClampNeg)))) () hQ hx hb hr hlocks hS dX8_flow_113 hv hP hD
          · have hv := hv.2 hc_11
            refine lv_lload hx hb dX8_flow_77 (lv_at hl 0 rfl) ?_
            refine lv_lconst (v := 0) hx hb dX8_flow_79 (by decide) ?_
            refine W.lcmp hx hb dX8_flow_80 ?_
            refine lv_if_ge (tgt := 88) hx hb dX8_flow_81 (by decide) (fun hc_13 => ?_) (fun hc_13 => ?_)
            · have hv := hv.1 ((lg_cmp_ge _ _).mp hc_13)
              refine lv_lload hx hb dX8_flow_88 (lv_at hl 0 rfl) ?_
              refine lv_lstore (lv' := [(5, .long (((mw ((x + 10) + y).toNatClampNeg) - (mw (x + z).toNatClampNeg)) / 8)), (4, .int (ks y.toNatClampNeg)), (0, .ref m0), (1, .int x), (2, .int y), (3, .int z)]) hx hb dX8_flow_90 hl (by decide) rfl (fun ls hl => ?_)
              refine lv_lload hx hb dX8_flow_92 (lv_at hl 0 rfl) ?_
              refine lv_aload_n hx hb dX8_flow_94 rfl (lv_at hl 2 rfl) ?_
              refine va_get (D := G.1) (ci := 8) (v := .ref m3) (C := RX8) (T := TX8) (N := 29) hx hb hts hinX8 hown hKK.1 hP 0 rfl rfl 2 (by decide) kl17 (fun _ h9 => h9) rfl dX8_flow_95 ?_
              refine lv_iload_n hx hb dX8_flow_98 rfl (lv_at hl 5 rfl) ?_
              obtain ⟨hin, hv⟩ := hv
              refine va_iald hx hb hKK.1 hP 3 0 rfl rfl hin dX8_flow_99 ?_
              refine lv_i2l hx hb dX8_flow_100 rfl ?_
              refine lv_aload_n hx hb dX8_flow_101 rfl (lv_at hl 2 rfl) ?_
              refine va_get (D := G.1) (ci := 8) (v := .ref m1) (C := RX8) (T := TX8) (N := 29) hx hb hts hinX8 hown hKK.1 hP 0 rfl rfl 0 (by decide) kl7 (fun _ h9 => h9) rfl dX8_flow_102 ?_
              refine lv_iload_n hx hb dX8_flow_105 rfl (lv_at hl 3 rfl) ?_
              refine lv_iload_n hx hb dX8_flow_106 rfl (lv_at hl 5 rfl) ?_
              refine lv_iadd hx hb dX8_flow_107 ?_
              obtain ⟨hin, hv⟩ := hv
              refine va_lald hx hb hKK.1 hP 1 2 rfl rfl hin dX8_flow_108 ?_
              refine lv_lsub hx hb dX8_flow_109 ?_
              refine x_calllR (x_runS (As := [.long (((mw ((x + 10) + y).toNatClampNeg) - (mw (x + z).toNatClampNeg)) / 8), .long ((zs z.toNatClampNeg).toInt64 - (mw (x + z).toNatClampNeg))]) (rest := []) (n := 2) ⟨hx, hb, hml, hown, hts⟩ (k_X8_less l G  _ (((mw ((x + 10) + y).toNatClampNeg) - (mw (x + z).toNatClampNeg)) / 8) ((zs z.toNatClampNeg).toInt64 - (mw (x + z).toNatClampNeg))) gX8_flow_X8_less rfl (by decide +kernel) ⟨Nat.le_trans (Nat.le_of_ble_eq_true rfl) hRf, Nat.le_trans (Nat.le_of_ble_eq_true rfl) hRl⟩ hKK hSS hS hA hP hD [] (by decide) rfl rfl hl.1 rfl (Nat.le_of_ble_eq_true rfl) dX8_flow_110) hP hD hS hA [] rfl (fun r_14 _ H locs hw hP hS => ?_)
              replace hw := hw.symm; subst hw
              exact x_lret (v := (if (((mw ((x + 10) + y).toNatClampNeg) - (mw (x + z).toNatClampNeg)) / 8) < ((zs z.toNatClampNeg).toInt64 - (mw (x + z).toNatClampNeg)) then (((mw ((x + 10) + y).toNatClampNeg) - (mw (x + z).toNatClampNeg)) / 8) else ((zs z.toNatClampNeg).toInt64 - (mw (x + z).toNatClampNeg)))) () hQ hx hb hr hlocks hS dX8_flow_113 hv hP hD
            · have hv := hv.2 (fun h => hc_13 ((lg_cmp_ge _ _).mpr h))
              refine lv_lconst (v := 0) hx hb dX8_flow_84 (by decide) ?_
              refine lv_goto (tgt := 90) hx hb dX8_flow_85 (by decide) ?_
              refine lv_lstore (lv' := [(5, .long 0), (4, .int (ks y.toNatClampNeg)), (0, .ref m0), (1, .int x), (2, .int y), (3, .int z)]) hx hb dX8_flow_90 hl (by decide) rfl (fun ls hl => ?_)
              refine lv_lload hx hb dX8_flow_92 (lv_at hl 0 rfl) ?_
              refine lv_aload_n hx hb dX8_flow_94 rfl (lv_at hl 2 rfl) ?_
              refine va_get (D := G.1) (ci := 8) (v := .ref m3) (C := RX8) (T := TX8) (N := 29) hx hb hts hinX8 hown hKK.1 hP 0 rfl rfl 2 (by decide) kl17 (fun _ h9 => h9) rfl dX8_flow_95 ?_
              refine lv_iload_n hx hb dX8_flow_98 rfl (lv_at hl 5 rfl) ?_
              obtain ⟨hin, hv⟩ := hv
              refine va_iald hx hb hKK.1 hP 3 0 rfl rfl hin dX8_flow_99 ?_
              refine lv_i2l hx hb dX8_flow_100 rfl ?_
              refine lv_aload_n hx hb dX8_flow_101 rfl (lv_at hl 2 rfl) ?_
              refine va_get (D := G.1) (ci := 8) (v := .ref m1) (C := RX8) (T := TX8) (N := 29) hx hb hts hinX8 hown hKK.1 hP 0 rfl rfl 0 (by decide) kl7 (fun _ h9 => h9) rfl dX8_flow_102 ?_
              refine lv_iload_n hx hb dX8_flow_105 rfl (lv_at hl 3 rfl) ?_
              refine lv_iload_n hx hb dX8_flow_106 rfl (lv_at hl 5 rfl) ?_
              refine lv_iadd hx hb dX8_flow_107 ?_
              obtain ⟨hin, hv⟩ := hv
              refine va_lald hx hb hKK.1 hP 1 2 rfl rfl hin dX8_flow_108 ?_
              refine lv_lsub hx hb dX8_flow_109 ?_
              refine x_calllR (x_runS (As := [.long 0, .long ((zs z.toNatClampNeg).toInt64 - (mw (x + z).toNatClampNeg))]) (rest := []) (n := 2) ⟨hx, hb, hml, hown, hts⟩ (k_X8_less l G  _ 0 ((zs z.toNatClampNeg).toInt64 - (mw (x + z).toNatClampNeg))) gX8_flow_X8_less rfl (by decide +kernel) ⟨Nat.le_trans (Nat.le_of_ble_eq_true rfl) hRf, Nat.le_trans (Nat.le_of_ble_eq_true rfl) hRl⟩ hKK hSS hS hA hP hD [] (by decide) rfl rfl hl.1 rfl (Nat.le_of_ble_eq_true rfl) dX8_flow_110) hP hD hS hA [] rfl (fun r_15 _ H locs hw hP hS => ?_)
              replace hw := hw.symm; subst hw
              exact x_lret (v := (if 0 < ((zs z.toNatClampNeg).toInt64 - (mw (x + z).toNatClampNeg)) then 0 else ((zs z.toNatClampNeg).toInt64 - (mw (x + z).toNatClampNeg)))) () hQ hx hb hr hlocks hS dX8_flow_113 hv hP hD
    · have hv := hv.2 hc_2
      refine lv_ldc2 (v := 2) hx hb hown kl173 dX8_flow_46 ?_
      refine lv_goto (tgt := 55) hx hb dX8_flow_49 (by decide) ?_
      refine lv_ldiv hx hb dX8_flow_55 (by decide) ?_
      refine lv_lstore (lv' := [(5, .long (((mw ((x + 10) + y).toNatClampNeg) - (mw (x + z).toNatClampNeg)) / 2)), (4, .int (ks y.toNatClampNeg)), (0, .ref m0), (1, .int x), (2, .int y), (3, .int z)]) hx hb dX8_flow_56 hl (by decide) rfl (fun ls hl => ?_)
      refine lv_iload hx hb dX8_flow_58 (lv_at hl 1 rfl) ?_
      refine lv_iconst (v := 2) hx hb dX8_flow_60 (by decide) ?_
      refine lv_icmp_ne (tgt := 71) hx hb dX8_flow_61 (by decide) (fun hc_16 => ?_) (fun hc_16 => ?_)
      · have hv := hv.1 hc_16
        refine lv_iload hx hb dX8_flow_71 (lv_at hl 1 rfl) ?_
        refine lv_iconst (v := 3) hx hb dX8_flow_73 (by decide) ?_
        refine lv_icmp_ne (tgt := 88) hx hb dX8_flow_74 (by decide) (fun hc_17 => ?_) (fun hc_17 => ?_)
        · have hv := hv.1 hc_17
          refine lv_lload hx hb dX8_flow_88 (lv_at hl 0 rfl) ?_
          refine lv_lstore (lv' := [(5, .long (((mw ((x + 10) + y).toNatClampNeg) - (mw (x + z).toNatClampNeg)) / 2)), (4, .int (ks y.toNatClampNeg)), (0, .ref m0), (1, .int x), (2, .int y), (3, .int z)]) hx hb dX8_flow_90 hl (by decide) rfl (fun ls hl => ?_)
          refine lv_lload hx hb dX8_flow_92 (lv_at hl 0 rfl) ?_
          refine lv_aload_n hx hb dX8_flow_94 rfl (lv_at hl 2 rfl) ?_
          refine va_get (D := G.1) (ci := 8) (v := .ref m3) (C := RX8) (T := TX8) (N := 29) hx hb hts hinX8 hown hKK.1 hP 0 rfl rfl 2 (by decide) kl17 (fun _ h9 => h9) rfl dX8_flow_95 ?_
          refine lv_iload_n hx hb dX8_flow_98 rfl (lv_at hl 5 rfl) ?_
          obtain ⟨hin, hv⟩ := hv
          refine va_iald hx hb hKK.1 hP 3 0 rfl rfl hin dX8_flow_99 ?_
          refine lv_i2l hx hb dX8_flow_100 rfl ?_
          refine lv_aload_n hx hb dX8_flow_101 rfl (lv_at hl 2 rfl) ?_
          refine va_get (D := G.1) (ci := 8) (v := .ref m1) (C := RX8) (T := TX8) (N := 29) hx hb hts hinX8 hown hKK.1 hP 0 rfl rfl 0 (by decide) kl7 (fun _ h9 => h9) rfl dX8_flow_102 ?_
          refine lv_iload_n hx hb dX8_flow_105 rfl (lv_at hl 3 rfl) ?_
          refine lv_iload_n hx hb dX8_flow_106 rfl (lv_at hl 5 rfl) ?_
          refine lv_iadd hx hb dX8_flow_107 ?_
          obtain ⟨hin, hv⟩ := hv
          refine va_lald hx hb hKK.1 hP 1 2 rfl rfl hin dX8_flow_108 ?_
          refine lv_lsub hx hb dX8_flow_109 ?_
          refine x_calllR (x_runS (As := [.long (((mw ((x + 10) + y).toNatClampNeg) - (mw (x + z).toNatClampNeg)) / 2), .long ((zs z.toNatClampNeg).toInt64 - (mw (x + z).toNatClampNeg))]) (rest := []) (n := 2) ⟨hx, hb, hml, hown, hts⟩ (k_X8_less l G  _ (((mw ((x + 10) + y).toNatClampNeg) - (mw (x + z).toNatClampNeg)) / 2) ((zs z.toNatClampNeg).toInt64 - (mw (x + z).toNatClampNeg))) gX8_flow_X8_less rfl (by decide +kernel) ⟨Nat.le_trans (Nat.le_of_ble_eq_true rfl) hRf, Nat.le_trans (Nat.le_of_ble_eq_true rfl) hRl⟩ hKK hSS hS hA hP hD [] (by decide) rfl rfl hl.1 rfl (Nat.le_of_ble_eq_true rfl) dX8_flow_110) hP hD hS hA [] rfl (fun r_18 _ H locs hw hP hS => ?_)
          replace hw := hw.symm; subst hw
          exact x_lret (v := (if (((mw ((x + 10) + y).toNatClampNeg) - (mw (x + z).toNatClampNeg)) / 2) < ((zs z.toNatClampNeg).toInt64 - (mw (x + z).toNatClampNeg)) then (((mw ((x + 10) + y).toNatClampNeg) - (mw (x + z).toNatClampNeg)) / 2) else ((zs z.toNatClampNeg).toInt64 - (mw (x + z).toNatClampNeg)))) () hQ hx hb hr hlocks hS dX8_flow_113 hv hP hD
        · have hv := hv.2 hc_17
          refine lv_lload hx hb dX8_flow_77 (lv_at hl 0 rfl) ?_
          refine lv_lconst (v := 0) hx hb dX8_flow_79 (by decide) ?_
          refine W.lcmp hx hb dX8_flow_80 ?_
          refine lv_if_ge (tgt := 88) hx hb dX8_flow_81 (by decide) (fun hc_19 => ?_) (fun hc_19 => ?_)
          · have hv := hv.1 ((lg_cmp_ge _ _).mp hc_19)
            refine lv_lload hx hb dX8_flow_88 (lv_at hl 0 rfl) ?_
            refine lv_lstore (lv' := [(5, .long (((mw ((x + 10) + y).toNatClampNeg) - (mw (x + z).toNatClampNeg)) / 2)), (4, .int (ks y.toNatClampNeg)), (0, .ref m0), (1, .int x), (2, .int y), (3, .int z)]) hx hb dX8_flow_90 hl (by decide) rfl (fun ls hl => ?_)
            refine lv_lload hx hb dX8_flow_92 (lv_at hl 0 rfl) ?_
            refine lv_aload_n hx hb dX8_flow_94 rfl (lv_at hl 2 rfl) ?_
            refine va_get (D := G.1) (ci := 8) (v := .ref m3) (C := RX8) (T := TX8) (N := 29) hx hb hts hinX8 hown hKK.1 hP 0 rfl rfl 2 (by decide) kl17 (fun _ h9 => h9) rfl dX8_flow_95 ?_
            refine lv_iload_n hx hb dX8_flow_98 rfl (lv_at hl 5 rfl) ?_
            obtain ⟨hin, hv⟩ := hv
            refine va_iald hx hb hKK.1 hP 3 0 rfl rfl hin dX8_flow_99 ?_
            refine lv_i2l hx hb dX8_flow_100 rfl ?_
            refine lv_aload_n hx hb dX8_flow_101 rfl (lv_at hl 2 rfl) ?_
            refine va_get (D := G.1) (ci := 8) (v := .ref m1) (C := RX8) (T := TX8) (N := 29) hx hb hts hinX8 hown hKK.1 hP 0 rfl rfl 0 (by decide) kl7 (fun _ h9 => h9) rfl dX8_flow_102 ?_
            refine lv_iload_n hx hb dX8_flow_105 rfl (lv_at hl 3 rfl) ?_
            refine lv_iload_n hx hb dX8_flow_106 rfl (lv_at hl 5 rfl) ?_
            refine lv_iadd hx hb dX8_flow_107 ?_
            obtain ⟨hin, hv⟩ := hv
            refine va_lald hx hb hKK.1 hP 1 2 rfl rfl hin dX8_flow_108 ?_
            refine lv_lsub hx hb dX8_flow_109 ?_
            refine x_calllR (x_runS (As := [.long (((mw ((x + 10) + y).toNatClampNeg) - (mw (x + z).toNatClampNeg)) / 2), .long ((zs z.toNatClampNeg).toInt64 - (mw (x + z).toNatClampNeg))]) (rest := []) (n := 2) ⟨hx, hb, hml, hown, hts⟩ (k_X8_less l G  _ (((mw ((x + 10) + y).toNatClampNeg) - (mw (x + z).toNatClampNeg)) / 2) ((zs z.toNatClampNeg).toInt64 - (mw (x + z).toNatClampNeg))) gX8_flow_X8_less rfl (by decide +kernel) ⟨Nat.le_trans (Nat.le_of_ble_eq_true rfl) hRf, Nat.le_trans (Nat.le_of_ble_eq_true rfl) hRl⟩ hKK hSS hS hA hP hD [] (by decide) rfl rfl hl.1 rfl (Nat.le_of_ble_eq_true rfl) dX8_flow_110) hP hD hS hA [] rfl (fun r_20 _ H locs hw hP hS => ?_)
            replace hw := hw.symm; subst hw
            exact x_lret (v := (if (((mw ((x + 10) + y).toNatClampNeg) - (mw (x + z).toNatClampNeg)) / 2) < ((zs z.toNatClampNeg).toInt64 - (mw (x + z).toNatClampNeg)) then (((mw ((x + 10) + y).toNatClampNeg) - (mw (x + z).toNatClampNeg)) / 2) else ((zs z.toNatClampNeg).toInt64 - (mw (x + z).toNatClampNeg)))) () hQ hx hb hr hlocks hS dX8_flow_113 hv hP hD
          · have hv := hv.2 (fun h => hc_19 ((lg_cmp_ge _ _).mpr h))
            refine lv_lconst (v := 0) hx hb dX8_flow_84 (by decide) ?_
            refine lv_goto (tgt := 90) hx hb dX8_flow_85 (by decide) ?_
            refine lv_lstore (lv' := [(5, .long 0), (4, .int (ks y.toNatClampNeg)), (0, .ref m0), (1, .int x), (2, .int y), (3, .int z)]) hx hb dX8_flow_90 hl (by decide) rfl (fun ls hl => ?_)
            refine lv_lload hx hb dX8_flow_92 (lv_at hl 0 rfl) ?_
            refine lv_aload_n hx hb dX8_flow_94 rfl (lv_at hl 2 rfl) ?_
            refine va_get (D := G.1) (ci := 8) (v := .ref m3) (C := RX8) (T := TX8) (N := 29) hx hb hts hinX8 hown hKK.1 hP 0 rfl rfl 2 (by decide) kl17 (fun _ h9 => h9) rfl dX8_flow_95 ?_
            refine lv_iload_n hx hb dX8_flow_98 rfl (lv_at hl 5 rfl) ?_
            obtain ⟨hin, hv⟩ := hv
            refine va_iald hx hb hKK.1 hP 3 0 rfl rfl hin dX8_flow_99 ?_
            refine lv_i2l hx hb dX8_flow_100 rfl ?_
            refine lv_aload_n hx hb dX8_flow_101 rfl (lv_at hl 2 rfl) ?_
            refine va_get (D := G.1) (ci := 8) (v := .ref m1) (C := RX8) (T := TX8) (N := 29) hx hb hts hinX8 hown hKK.1 hP 0 rfl rfl 0 (by decide) kl7 (fun _ h9 => h9) rfl dX8_flow_102 ?_
            refine lv_iload_n hx hb dX8_flow_105 rfl (lv_at hl 3 rfl) ?_
            refine lv_iload_n hx hb dX8_flow_106 rfl (lv_at hl 5 rfl) ?_
            refine lv_iadd hx hb dX8_flow_107 ?_
            obtain ⟨hin, hv⟩ := hv
            refine va_lald hx hb hKK.1 hP 1 2 rfl rfl hin dX8_flow_108 ?_
            refine lv_lsub hx hb dX8_flow_109 ?_
            refine x_calllR (x_runS (As := [.long 0, .long ((zs z.toNatClampNeg).toInt64 - (mw (x + z).toNatClampNeg))]) (rest := []) (n := 2) ⟨hx, hb, hml, hown, hts⟩ (k_X8_less l G  _ 0 ((zs z.toNatClampNeg).toInt64 - (mw (x + z).toNatClampNeg))) gX8_flow_X8_less rfl (by decide +kernel) ⟨Nat.le_trans (Nat.le_of_ble_eq_true rfl) hRf, Nat.le_trans (Nat.le_of_ble_eq_true rfl) hRl⟩ hKK hSS hS hA hP hD [] (by decide) rfl rfl hl.1 rfl (Nat.le_of_ble_eq_true rfl) dX8_flow_110) hP hD hS hA [] rfl (fun r_21 _ H locs hw hP hS => ?_)
            replace hw := hw.symm; subst hw
            exact x_lret (v := (if 0 < ((zs z.toNatClampNeg).toInt64 - (mw (x + z).toNatClampNeg)) then 0 else ((zs z.toNatClampNeg).toInt64 - (mw (x + z).toNatClampNeg)))) () hQ hx hb hr hlocks hS dX8_flow_113 hv hP hD
      · have hv := hv.2 hc_16
        refine lv_lload hx hb dX8_flow_64 (lv_at hl 0 rfl) ?_
        refine lv_lconst (v := 0) hx hb dX8_flow_66 (by decide) ?_
        refine W.lcmp hx hb dX8_flow_67 ?_
        refine lv_if_gt (tgt := 84) hx hb dX8_flow_68 (by decide) (fun hc_22 => ?_) (fun hc_22 => ?_)
        · have hv := hv.1 ((lg_cmp_gt _ _).mp hc_22)
          refine lv_lconst (v := 0) hx hb dX8_flow_84 (by decide) ?_
          refine lv_goto (tgt := 90) hx hb dX8_flow_85 (by decide) ?_
          refine lv_lstore (lv' := [(5, .long 0), (4, .int (ks y.toNatClampNeg)), (0, .ref m0), (1, .int x), (2, .int y), (3, .int z)]) hx hb dX8_flow_90 hl (by decide) rfl (fun ls hl => ?_)
          refine lv_lload hx hb dX8_flow_92 (lv_at hl 0 rfl) ?_
          refine lv_aload_n hx hb dX8_flow_94 rfl (lv_at hl 2 rfl) ?_
          refine va_get (D := G.1) (ci := 8) (v := .ref m3) (C := RX8) (T := TX8) (N := 29) hx hb hts hinX8 hown hKK.1 hP 0 rfl rfl 2 (by decide) kl17 (fun _ h9 => h9) rfl dX8_flow_95 ?_
          refine lv_iload_n hx hb dX8_flow_98 rfl (lv_at hl 5 rfl) ?_
          obtain ⟨hin, hv⟩ := hv
          refine va_iald hx hb hKK.1 hP 3 0 rfl rfl hin dX8_flow_99 ?_
          refine lv_i2l hx hb dX8_flow_100 rfl ?_
          refine lv_aload_n hx hb dX8_flow_101 rfl (lv_at hl 2 rfl) ?_
          refine va_get (D := G.1) (ci := 8) (v := .ref m1) (C := RX8) (T := TX8) (N := 29) hx hb hts hinX8 hown hKK.1 hP 0 rfl rfl 0 (by decide) kl7 (fun _ h9 => h9) rfl dX8_flow_102 ?_
          refine lv_iload_n hx hb dX8_flow_105 rfl (lv_at hl 3 rfl) ?_
          refine lv_iload_n hx hb dX8_flow_106 rfl (lv_at hl 5 rfl) ?_
          refine lv_iadd hx hb dX8_flow_107 ?_
          obtain ⟨hin, hv⟩ := hv
          refine va_lald hx hb hKK.1 hP 1 2 rfl rfl hin dX8_flow_108 ?_
          refine lv_lsub hx hb dX8_flow_109 ?_
          refine x_calllR (x_runS (As := [.long 0, .long ((zs z.toNatClampNeg).toInt64 - (mw (x + z).toNatClampNeg))]) (rest := []) (n := 2) ⟨hx, hb, hml, hown, hts⟩ (k_X8_less l G  _ 0 ((zs z.toNatClampNeg).toInt64 - (mw (x + z).toNatClampNeg))) gX8_flow_X8_less rfl (by decide +kernel) ⟨Nat.le_trans (Nat.le_of_ble_eq_true rfl) hRf, Nat.le_trans (Nat.le_of_ble_eq_true rfl) hRl⟩ hKK hSS hS hA hP hD [] (by decide) rfl rfl hl.1 rfl (Nat.le_of_ble_eq_true rfl) dX8_flow_110) hP hD hS hA [] rfl (fun r_23 _ H locs hw hP hS => ?_)
          replace hw := hw.symm; subst hw
          exact x_lret (v := (if 0 < ((zs z.toNatClampNeg).toInt64 - (mw (x + z).toNatClampNeg)) then 0 else ((zs z.toNatClampNeg).toInt64 - (mw (x + z).toNatClampNeg)))) () hQ hx hb hr hlocks hS dX8_flow_113 hv hP hD
        · have hv := hv.2 (fun h => hc_22 ((lg_cmp_gt _ _).mpr h))
          refine lv_iload hx hb dX8_flow_71 (lv_at hl 1 rfl) ?_
          refine lv_iconst (v := 3) hx hb dX8_flow_73 (by decide) ?_
          refine lv_icmp_ne (tgt := 88) hx hb dX8_flow_74 (by decide) (fun hc_24 => ?_) (fun hc_24 => ?_)
          · have hv := hv.1 hc_24
            refine lv_lload hx hb dX8_flow_88 (lv_at hl 0 rfl) ?_
            refine lv_lstore (lv' := [(5, .long (((mw ((x + 10) + y).toNatClampNeg) - (mw (x + z).toNatClampNeg)) / 2)), (4, .int (ks y.toNatClampNeg)), (0, .ref m0), (1, .int x), (2, .int y), (3, .int z)]) hx hb dX8_flow_90 hl (by decide) rfl (fun ls hl => ?_)
            refine lv_lload hx hb dX8_flow_92 (lv_at hl 0 rfl) ?_
            refine lv_aload_n hx hb dX8_flow_94 rfl (lv_at hl 2 rfl) ?_
            refine va_get (D := G.1) (ci := 8) (v := .ref m3) (C := RX8) (T := TX8) (N := 29) hx hb hts hinX8 hown hKK.1 hP 0 rfl rfl 2 (by decide) kl17 (fun _ h9 => h9) rfl dX8_flow_95 ?_
            refine lv_iload_n hx hb dX8_flow_98 rfl (lv_at hl 5 rfl) ?_
            obtain ⟨hin, hv⟩ := hv
            refine va_iald hx hb hKK.1 hP 3 0 rfl rfl hin dX8_flow_99 ?_
            refine lv_i2l hx hb dX8_flow_100 rfl ?_
            refine lv_aload_n hx hb dX8_flow_101 rfl (lv_at hl 2 rfl) ?_
            refine va_get (D := G.1) (ci := 8) (v := .ref m1) (C := RX8) (T := TX8) (N := 29) hx hb hts hinX8 hown hKK.1 hP 0 rfl rfl 0 (by decide) kl7 (fun _ h9 => h9) rfl dX8_flow_102 ?_
            refine lv_iload_n hx hb dX8_flow_105 rfl (lv_at hl 3 rfl) ?_
            refine lv_iload_n hx hb dX8_flow_106 rfl (lv_at hl 5 rfl) ?_
            refine lv_iadd hx hb dX8_flow_107 ?_
            obtain ⟨hin, hv⟩ := hv
            refine va_lald hx hb hKK.1 hP 1 2 rfl rfl hin dX8_flow_108 ?_
            refine lv_lsub hx hb dX8_flow_109 ?_
            refine x_calllR (x_runS (As := [.long (((mw ((x + 10) + y).toNatClampNeg) - (mw (x + z).toNatClampNeg)) / 2), .long ((zs z.toNatClampNeg).toInt64 - (mw (x + z).toNatClampNeg))]) (rest := []) (n := 2) ⟨hx, hb, hml, hown, hts⟩ (k_X8_less l G  _ (((mw ((x + 10) + y).toNatClampNeg) - (mw (x + z).toNatClampNeg)) / 2) ((zs z.toNatClampNeg).toInt64 - (mw (x + z).toNatClampNeg))) gX8_flow_X8_less rfl (by decide +kernel) ⟨Nat.le_trans (Nat.le_of_ble_eq_true rfl) hRf, Nat.le_trans (Nat.le_of_ble_eq_true rfl) hRl⟩ hKK hSS hS hA hP hD [] (by decide) rfl rfl hl.1 rfl (Nat.le_of_ble_eq_true rfl) dX8_flow_110) hP hD hS hA [] rfl (fun r_25 _ H locs hw hP hS => ?_)
            replace hw := hw.symm; subst hw
            exact x_lret (v := (if (((mw ((x + 10) + y).toNatClampNeg) - (mw (x + z).toNatClampNeg)) / 2) < ((zs z.toNatClampNeg).toInt64 - (mw (x + z).toNatClampNeg)) then (((mw ((x + 10) + y).toNatClampNeg) - (mw (x + z).toNatClampNeg)) / 2) else ((zs z.toNatClampNeg).toInt64 - (mw (x + z).toNatClampNeg)))) () hQ hx hb hr hlocks hS dX8_flow_113 hv hP hD
          · have hv := hv.2 hc_24
            refine lv_lload hx hb dX8_flow_77 (lv_at hl 0 rfl) ?_
            refine lv_lconst (v := 0) hx hb dX8_flow_79 (by decide) ?_
            refine W.lcmp hx hb dX8_flow_80 ?_
            refine lv_if_ge (tgt := 88) hx hb dX8_flow_81 (by decide) (fun hc_26 => ?_) (fun hc_26 => ?_)
            · have hv := hv.1 ((lg_cmp_ge _ _).mp hc_26)
              refine lv_lload hx hb dX8_flow_88 (lv_at hl 0 rfl) ?_
              refine lv_lstore (lv' := [(5, .long (((mw ((x + 10) + y).toNatClampNeg) - (mw (x + z).toNatClampNeg)) / 2)), (4, .int (ks y.toNatClampNeg)), (0, .ref m0), (1, .int x), (2, .int y), (3, .int z)]) hx hb dX8_flow_90 hl (by decide) rfl (fun ls hl => ?_)
              refine lv_lload hx hb dX8_flow_92 (lv_at hl 0 rfl) ?_
              refine lv_aload_n hx hb dX8_flow_94 rfl (lv_at hl 2 rfl) ?_
              refine va_get (D := G.1) (ci := 8) (v := .ref m3) (C := RX8) (T := TX8) (N := 29) hx hb hts hinX8 hown hKK.1 hP 0 rfl rfl 2 (by decide) kl17 (fun _ h9 => h9) rfl dX8_flow_95 ?_
              refine lv_iload_n hx hb dX8_flow_98 rfl (lv_at hl 5 rfl) ?_
              obtain ⟨hin, hv⟩ := hv
              refine va_iald hx hb hKK.1 hP 3 0 rfl rfl hin dX8_flow_99 ?_
              refine lv_i2l hx hb dX8_flow_100 rfl ?_
              refine lv_aload_n hx hb dX8_flow_101 rfl (lv_at hl 2 rfl) ?_
              refine va_get (D := G.1) (ci := 8) (v := .ref m1) (C := RX8) (T := TX8) (N := 29) hx hb hts hinX8 hown hKK.1 hP 0 rfl rfl 0 (by decide) kl7 (fun _ h9 => h9) rfl dX8_flow_102 ?_
              refine lv_iload_n hx hb dX8_flow_105 rfl (lv_at hl 3 rfl) ?_
              refine lv_iload_n hx hb dX8_flow_106 rfl (lv_at hl 5 rfl) ?_
              refine lv_iadd hx hb dX8_flow_107 ?_
              obtain ⟨hin, hv⟩ := hv
              refine va_lald hx hb hKK.1 hP 1 2 rfl rfl hin dX8_flow_108 ?_
              refine lv_lsub hx hb dX8_flow_109 ?_
              refine x_calllR (x_runS (As := [.long (((mw ((x + 10) + y).toNatClampNeg) - (mw (x + z).toNatClampNeg)) / 2), .long ((zs z.toNatClampNeg).toInt64 - (mw (x + z).toNatClampNeg))]) (rest := []) (n := 2) ⟨hx, hb, hml, hown, hts⟩ (k_X8_less l G  _ (((mw ((x + 10) + y).toNatClampNeg) - (mw (x + z).toNatClampNeg)) / 2) ((zs z.toNatClampNeg).toInt64 - (mw (x + z).toNatClampNeg))) gX8_flow_X8_less rfl (by decide +kernel) ⟨Nat.le_trans (Nat.le_of_ble_eq_true rfl) hRf, Nat.le_trans (Nat.le_of_ble_eq_true rfl) hRl⟩ hKK hSS hS hA hP hD [] (by decide) rfl rfl hl.1 rfl (Nat.le_of_ble_eq_true rfl) dX8_flow_110) hP hD hS hA [] rfl (fun r_27 _ H locs hw hP hS => ?_)
              replace hw := hw.symm; subst hw
              exact x_lret (v := (if (((mw ((x + 10) + y).toNatClampNeg) - (mw (x + z).toNatClampNeg)) / 2) < ((zs z.toNatClampNeg).toInt64 - (mw (x + z).toNatClampNeg)) then (((mw ((x + 10) + y).toNatClampNeg) - (mw (x + z).toNatClampNeg)) / 2) else ((zs z.toNatClampNeg).toInt64 - (mw (x + z).toNatClampNeg)))) () hQ hx hb hr hlocks hS dX8_flow_113 hv hP hD
            · have hv := hv.2 (fun h => hc_26 ((lg_cmp_ge _ _).mpr h))
              refine lv_lconst (v := 0) hx hb dX8_flow_84 (by decide) ?_
              refine lv_goto (tgt := 90) hx hb dX8_flow_85 (by decide) ?_
              refine lv_lstore (lv' := [(5, .long 0), (4, .int (ks y.toNatClampNeg)), (0, .ref m0), (1, .int x), (2, .int y), (3, .int z)]) hx hb dX8_flow_90 hl (by decide) rfl (fun ls hl => ?_)
              refine lv_lload hx hb dX8_flow_92 (lv_at hl 0 rfl) ?_
              refine lv_aload_n hx hb dX8_flow_94 rfl (lv_at hl 2 rfl) ?_
              refine va_get (D := G.1) (ci := 8) (v := .ref m3) (C := RX8) (T := TX8) (N := 29) hx hb hts hinX8 hown hKK.1 hP 0 rfl rfl 2 (by decide) kl17 (fun _ h9 => h9) rfl dX8_flow_95 ?_
              refine lv_iload_n hx hb dX8_flow_98 rfl (lv_at hl 5 rfl) ?_
              obtain ⟨hin, hv⟩ := hv
              refine va_iald hx hb hKK.1 hP 3 0 rfl rfl hin dX8_flow_99 ?_
              refine lv_i2l hx hb dX8_flow_100 rfl ?_
              refine lv_aload_n hx hb dX8_flow_101 rfl (lv_at hl 2 rfl) ?_
              refine va_get (D := G.1) (ci := 8) (v := .ref m1) (C := RX8) (T := TX8) (N := 29) hx hb hts hinX8 hown hKK.1 hP 0 rfl rfl 0 (by decide) kl7 (fun _ h9 => h9) rfl dX8_flow_102 ?_
              refine lv_iload_n hx hb dX8_flow_105 rfl (lv_at hl 3 rfl) ?_
              refine lv_iload_n hx hb dX8_flow_106 rfl (lv_at hl 5 rfl) ?_
              refine lv_iadd hx hb dX8_flow_107 ?_
              obtain ⟨hin, hv⟩ := hv
              refine va_lald hx hb hKK.1 hP 1 2 rfl rfl hin dX8_flow_108 ?_
              refine lv_lsub hx hb dX8_flow_109 ?_
              refine x_calllR (x_runS (As := [.long 0, .long ((zs z.toNatClampNeg).toInt64 - (mw (x + z).toNatClampNeg))]) (rest := []) (n := 2) ⟨hx, hb, hml, hown, hts⟩ (k_X8_less l G  _ 0 ((zs z.toNatClampNeg).toInt64 - (mw (x + z).toNatClampNeg))) gX8_flow_X8_less rfl (by decide +kernel) ⟨Nat.le_trans (Nat.le_of_ble_eq_true rfl) hRf, Nat.le_trans (Nat.le_of_ble_eq_true rfl) hRl⟩ hKK hSS hS hA hP hD [] (by decide) rfl rfl hl.1 rfl (Nat.le_of_ble_eq_true rfl) dX8_flow_110) hP hD hS hA [] rfl (fun r_28 _ H locs hw hP hS => ?_)
              replace hw := hw.symm; subst hw
              exact x_lret (v := (if 0 < ((zs z.toNatClampNeg).toInt64 - (mw (x + z).toNatClampNeg)) then 0 else ((zs z.toNatClampNeg).toInt64 - (mw (x + z).toNatClampNeg)))) () hQ hx hb hr hlocks hS dX8_flow_113 hv hP hD
  · have hv := hv.2 hc_1
    refine lv_ldc2 (v := 4) hx hb hown kl171 dX8_flow_34 ?_
    refine lv_goto (tgt := 55) hx hb dX8_flow_37 (by decide) ?_
    refine lv_ldiv hx hb dX8_flow_55 (by decide) ?_
    refine lv_lstore (lv' := [(5, .long (((mw ((x + 10) + y).toNatClampNeg) - (mw (x + z).toNatClampNeg)) / 4)), (4, .int (ks y.toNatClampNeg)), (0, .ref m0), (1, .int x), (2, .int y), (3, .int z)]) hx hb dX8_flow_56 hl (by decide) rfl (fun ls hl => ?_)
    refine lv_iload hx hb dX8_flow_58 (lv_at hl 1 rfl) ?_
    refine lv_iconst (v := 2) hx hb dX8_flow_60 (by decide) ?_
    refine lv_icmp_ne (tgt := 71) hx hb dX8_flow_61 (by decide) (fun hc_29 => ?_) (fun hc_29 => ?_)
    · have hv := hv.1 hc_29
      refine lv_iload hx hb dX8_flow_71 (lv_at hl 1 rfl) ?_
      refine lv_iconst (v := 3) hx hb dX8_flow_73 (by decide) ?_
      refine lv_icmp_ne (tgt := 88) hx hb dX8_flow_74 (by decide) (fun hc_30 => ?_) (fun hc_30 => ?_)
      · have hv := hv.1 hc_30
        refine lv_lload hx hb dX8_flow_88 (lv_at hl 0 rfl) ?_
        refine lv_lstore (lv' := [(5, .long (((mw ((x + 10) + y).toNatClampNeg) - (mw (x + z).toNatClampNeg)) / 4)), (4, .int (ks y.toNatClampNeg)), (0, .ref m0), (1, .int x), (2, .int y), (3, .int z)]) hx hb dX8_flow_90 hl (by decide) rfl (fun ls hl => ?_)
        refine lv_lload hx hb dX8_flow_92 (lv_at hl 0 rfl) ?_
        refine lv_aload_n hx hb dX8_flow_94 rfl (lv_at hl 2 rfl) ?_
        refine va_get (D := G.1) (ci := 8) (v := .ref m3) (C := RX8) (T := TX8) (N := 29) hx hb hts hinX8 hown hKK.1 hP 0 rfl rfl 2 (by decide) kl17 (fun _ h9 => h9) rfl dX8_flow_95 ?_
        refine lv_iload_n hx hb dX8_flow_98 rfl (lv_at hl 5 rfl) ?_
        obtain ⟨hin, hv⟩ := hv
        refine va_iald hx hb hKK.1 hP 3 0 rfl rfl hin dX8_flow_99 ?_
        refine lv_i2l hx hb dX8_flow_100 rfl ?_
        refine lv_aload_n hx hb dX8_flow_101 rfl (lv_at hl 2 rfl) ?_
        refine va_get (D := G.1) (ci := 8) (v := .ref m1) (C := RX8) (T := TX8) (N := 29) hx hb hts hinX8 hown hKK.1 hP 0 rfl rfl 0 (by decide) kl7 (fun _ h9 => h9) rfl dX8_flow_102 ?_
        refine lv_iload_n hx hb dX8_flow_105 rfl (lv_at hl 3 rfl) ?_
        refine lv_iload_n hx hb dX8_flow_106 rfl (lv_at hl 5 rfl) ?_
        refine lv_iadd hx hb dX8_flow_107 ?_
        obtain ⟨hin, hv⟩ := hv
        refine va_lald hx hb hKK.1 hP 1 2 rfl rfl hin dX8_flow_108 ?_
        refine lv_lsub hx hb dX8_flow_109 ?_
        refine x_calllR (x_runS (As := [.long (((mw ((x + 10) + y).toNatClampNeg) - (mw (x + z).toNatClampNeg)) / 4), .long ((zs z.toNatClampNeg).toInt64 - (mw (x + z).toNatClampNeg))]) (rest := []) (n := 2) ⟨hx, hb, hml, hown, hts⟩ (k_X8_less l G  _ (((mw ((x + 10) + y).toNatClampNeg) - (mw (x + z).toNatClampNeg)) / 4) ((zs z.toNatClampNeg).toInt64 - (mw (x + z).toNatClampNeg))) gX8_flow_X8_less rfl (by decide +kernel) ⟨Nat.le_trans (Nat.le_of_ble_eq_true rfl) hRf, Nat.le_trans (Nat.le_of_ble_eq_true rfl) hRl⟩ hKK hSS hS hA hP hD [] (by decide) rfl rfl hl.1 rfl (Nat.le_of_ble_eq_true rfl) dX8_flow_110) hP hD hS hA [] rfl (fun r_31 _ H locs hw hP hS => ?_)
        replace hw := hw.symm; subst hw
        exact x_lret (v := (if (((mw ((x + 10) + y).toNatClampNeg) - (mw (x + z).toNatClampNeg)) / 4) < ((zs z.toNatClampNeg).toInt64 - (mw (x + z).toNatClampNeg)) then (((mw ((x + 10) + y).toNatClampNeg) - (mw (x + z).toNatClampNeg)) / 4) else ((zs z.toNatClampNeg).toInt64 - (mw (x + z).toNatClampNeg)))) () hQ hx hb hr hlocks hS dX8_flow_113 hv hP hD
      · have hv := hv.2 hc_30
        refine lv_lload hx hb dX8_flow_77 (lv_at hl 0 rfl) ?_
        refine lv_lconst (v := 0) hx hb dX8_flow_79 (by decide) ?_
        refine W.lcmp hx hb dX8_flow_80 ?_
        refine lv_if_ge (tgt := 88) hx hb dX8_flow_81 (by decide) (fun hc_32 => ?_) (fun hc_32 => ?_)
        · have hv := hv.1 ((lg_cmp_ge _ _).mp hc_32)
          refine lv_lload hx hb dX8_flow_88 (lv_at hl 0 rfl) ?_
          refine lv_lstore (lv' := [(5, .long (((mw ((x + 10) + y).toNatClampNeg) - (mw (x + z).toNatClampNeg)) / 4)), (4, .int (ks y.toNatClampNeg)), (0, .ref m0), (1, .int x), (2, .int y), (3, .int z)]) hx hb dX8_flow_90 hl (by decide) rfl (fun ls hl => ?_)
          refine lv_lload hx hb dX8_flow_92 (lv_at hl 0 rfl) ?_
          refine lv_aload_n hx hb dX8_flow_94 rfl (lv_at hl 2 rfl) ?_
          refine va_get (D := G.1) (ci := 8) (v := .ref m3) (C := RX8) (T := TX8) (N := 29) hx hb hts hinX8 hown hKK.1 hP 0 rfl rfl 2 (by decide) kl17 (fun _ h9 => h9) rfl dX8_flow_95 ?_
          refine lv_iload_n hx hb dX8_flow_98 rfl (lv_at hl 5 rfl) ?_
          obtain ⟨hin, hv⟩ := hv
          refine va_iald hx hb hKK.1 hP 3 0 rfl rfl hin dX8_flow_99 ?_
          refine lv_i2l hx hb dX8_flow_100 rfl ?_
          refine lv_aload_n hx hb dX8_flow_101 rfl (lv_at hl 2 rfl) ?_
          refine va_get (D := G.1) (ci := 8) (v := .ref m1) (C := RX8) (T := TX8) (N := 29) hx hb hts hinX8 hown hKK.1 hP 0 rfl rfl 0 (by decide) kl7 (fun _ h9 => h9) rfl dX8_flow_102 ?_
          refine lv_iload_n hx hb dX8_flow_105 rfl (lv_at hl 3 rfl) ?_
          refine lv_iload_n hx hb dX8_flow_106 rfl (lv_at hl 5 rfl) ?_
          refine lv_iadd hx hb dX8_flow_107 ?_
          obtain ⟨hin, hv⟩ := hv
          refine va_lald hx hb hKK.1 hP 1 2 rfl rfl hin dX8_flow_108 ?_
          refine lv_lsub hx hb dX8_flow_109 ?_
          refine x_calllR (x_runS (As := [.long (((mw ((x + 10) + y).toNatClampNeg) - (mw (x + z).toNatClampNeg)) / 4), .long ((zs z.toNatClampNeg).toInt64 - (mw (x + z).toNatClampNeg))]) (rest := []) (n := 2) ⟨hx, hb, hml, hown, hts⟩ (k_X8_less l G  _ (((mw ((x + 10) + y).toNatClampNeg) - (mw (x + z).toNatClampNeg)) / 4) ((zs z.toNatClampNeg).toInt64 - (mw (x + z).toNatClampNeg))) gX8_flow_X8_less rfl (by decide +kernel) ⟨Nat.le_trans (Nat.le_of_ble_eq_true rfl) hRf, Nat.le_trans (Nat.le_of_ble_eq_true rfl) hRl⟩ hKK hSS hS hA hP hD [] (by decide) rfl rfl hl.1 rfl (Nat.le_of_ble_eq_true rfl) dX8_flow_110) hP hD hS hA [] rfl (fun r_33 _ H locs hw hP hS => ?_)
          replace hw := hw.symm; subst hw
          exact x_lret (v := (if (((mw ((x + 10) + y).toNatClampNeg) - (mw (x + z).toNatClampNeg)) / 4) < ((zs z.toNatClampNeg).toInt64 - (mw (x + z).toNatClampNeg)) then (((mw ((x + 10) + y).toNatClampNeg) - (mw (x + z).toNatClampNeg)) / 4) else ((zs z.toNatClampNeg).toInt64 - (mw (x + z).toNatClampNeg)))) () hQ hx hb hr hlocks hS dX8_flow_113 hv hP hD
        · have hv := hv.2 (fun h => hc_32 ((lg_cmp_ge _ _).mpr h))
          refine lv_lconst (v := 0) hx hb dX8_flow_84 (by decide) ?_
          refine lv_goto (tgt := 90) hx hb dX8_flow_85 (by decide) ?_
          refine lv_lstore (lv' := [(5, .long 0), (4, .int (ks y.toNatClampNeg)), (0, .ref m0), (1, .int x), (2, .int y), (3, .int z)]) hx hb dX8_flow_90 hl (by decide) rfl (fun ls hl => ?_)
          refine lv_lload hx hb dX8_flow_92 (lv_at hl 0 rfl) ?_
          refine lv_aload_n hx hb dX8_flow_94 rfl (lv_at hl 2 rfl) ?_
          refine va_get (D := G.1) (ci := 8) (v := .ref m3) (C := RX8) (T := TX8) (N := 29) hx hb hts hinX8 hown hKK.1 hP 0 rfl rfl 2 (by decide) kl17 (fun _ h9 => h9) rfl dX8_flow_95 ?_
          refine lv_iload_n hx hb dX8_flow_98 rfl (lv_at hl 5 rfl) ?_
          obtain ⟨hin, hv⟩ := hv
          refine va_iald hx hb hKK.1 hP 3 0 rfl rfl hin dX8_flow_99 ?_
          refine lv_i2l hx hb dX8_flow_100 rfl ?_
          refine lv_aload_n hx hb dX8_flow_101 rfl (lv_at hl 2 rfl) ?_
          refine va_get (D := G.1) (ci := 8) (v := .ref m1) (C := RX8) (T := TX8) (N := 29) hx hb hts hinX8 hown hKK.1 hP 0 rfl rfl 0 (by decide) kl7 (fun _ h9 => h9) rfl dX8_flow_102 ?_
          refine lv_iload_n hx hb dX8_flow_105 rfl (lv_at hl 3 rfl) ?_
          refine lv_iload_n hx hb dX8_flow_106 rfl (lv_at hl 5 rfl) ?_
          refine lv_iadd hx hb dX8_flow_107 ?_
          obtain ⟨hin, hv⟩ := hv
          refine va_lald hx hb hKK.1 hP 1 2 rfl rfl hin dX8_flow_108 ?_
          refine lv_lsub hx hb dX8_flow_109 ?_
          refine x_calllR (x_runS (As := [.long 0, .long ((zs z.toNatClampNeg).toInt64 - (mw (x + z).toNatClampNeg))]) (rest := []) (n := 2) ⟨hx, hb, hml, hown, hts⟩ (k_X8_less l G  _ 0 ((zs z.toNatClampNeg).toInt64 - (mw (x + z).toNatClampNeg))) gX8_flow_X8_less rfl (by decide +kernel) ⟨Nat.le_trans (Nat.le_of_ble_eq_true rfl) hRf, Nat.le_trans (Nat.le_of_ble_eq_true rfl) hRl⟩ hKK hSS hS hA hP hD [] (by decide) rfl rfl hl.1 rfl (Nat.le_of_ble_eq_true rfl) dX8_flow_110) hP hD hS hA [] rfl (fun r_34 _ H locs hw hP hS => ?_)
          replace hw := hw.symm; subst hw
          exact x_lret (v := (if 0 < ((zs z.toNatClampNeg).toInt64 - (mw (x + z).toNatClampNeg)) then 0 else ((zs z.toNatClampNeg).toInt64 - (mw (x + z).toNatClampNeg)))) () hQ hx hb hr hlocks hS dX8_flow_113 hv hP hD
    · have hv := hv.2 hc_29
      refine lv_lload hx hb dX8_flow_64 (lv_at hl 0 rfl) ?_
      refine lv_lconst (v := 0) hx hb dX8_flow_66 (by decide) ?_
      refine W.lcmp hx hb dX8_flow_67 ?_
      refine lv_if_gt (tgt := 84) hx hb dX8_flow_68 (by decide) (fun hc_35 => ?_) (fun hc_35 => ?_)
      · have hv := hv.1 ((lg_cmp_gt _ _).mp hc_35)
        refine lv_lconst (v := 0) hx hb dX8_flow_84 (by decide) ?_
        refine lv_goto (tgt := 90) hx hb dX8_flow_85 (by decide) ?_
        refine lv_lstore (lv' := [(5, .long 0), (4, .int (ks y.toNatClampNeg)), (0, .ref m0), (1, .int x), (2, .int y), (3, .int z)]) hx hb dX8_flow_90 hl (by decide) rfl (fun ls hl => ?_)
        refine lv_lload hx hb dX8_flow_92 (lv_at hl 0 rfl) ?_
        refine lv_aload_n hx hb dX8_flow_94 rfl (lv_at hl 2 rfl) ?_
        refine va_get (D := G.1) (ci := 8) (v := .ref m3) (C := RX8) (T := TX8) (N := 29) hx hb hts hinX8 hown hKK.1 hP 0 rfl rfl 2 (by decide) kl17 (fun _ h9 => h9) rfl dX8_flow_95 ?_
        refine lv_iload_n hx hb dX8_flow_98 rfl (lv_at hl 5 rfl) ?_
        obtain ⟨hin, hv⟩ := hv
        refine va_iald hx hb hKK.1 hP 3 0 rfl rfl hin dX8_flow_99 ?_
        refine lv_i2l hx hb dX8_flow_100 rfl ?_
        refine lv_aload_n hx hb dX8_flow_101 rfl (lv_at hl 2 rfl) ?_
        refine va_get (D := G.1) (ci := 8) (v := .ref m1) (C := RX8) (T := TX8) (N := 29) hx hb hts hinX8 hown hKK.1 hP 0 rfl rfl 0 (by decide) kl7 (fun _ h9 => h9) rfl dX8_flow_102 ?_
        refine lv_iload_n hx hb dX8_flow_105 rfl (lv_at hl 3 rfl) ?_
        refine lv_iload_n hx hb dX8_flow_106 rfl (lv_at hl 5 rfl) ?_
        refine lv_iadd hx hb dX8_flow_107 ?_
        obtain ⟨hin, hv⟩ := hv
        refine va_lald hx hb hKK.1 hP 1 2 rfl rfl hin dX8_flow_108 ?_
        refine lv_lsub hx hb dX8_flow_109 ?_
        refine x_calllR (x_runS (As := [.long 0, .long ((zs z.toNatClampNeg).toInt64 - (mw (x + z).toNatClampNeg))]) (rest := []) (n := 2) ⟨hx, hb, hml, hown, hts⟩ (k_X8_less l G  _ 0 ((zs z.toNatClampNeg).toInt64 - (mw (x + z).toNatClampNeg))) gX8_flow_X8_less rfl (by decide +kernel) ⟨Nat.le_trans (Nat.le_of_ble_eq_true rfl) hRf, Nat.le_trans (Nat.le_of_ble_eq_true rfl) hRl⟩ hKK hSS hS hA hP hD [] (by decide) rfl rfl hl.1 rfl (Nat.le_of_ble_eq_true rfl) dX8_flow_110) hP hD hS hA [] rfl (fun r_36 _ H locs hw hP hS => ?_)
        replace hw := hw.symm; subst hw
        exact x_lret (v := (if 0 < ((zs z.toNatClampNeg).toInt64 - (mw (x + z).toNatClampNeg)) then 0 else ((zs z.toNatClampNeg).toInt64 - (mw (x + z).toNatClampNeg)))) () hQ hx hb hr hlocks hS dX8_flow_113 hv hP hD
      · have hv := hv.2 (fun h => hc_35 ((lg_cmp_gt _ _).mpr h))
        refine lv_iload hx hb dX8_flow_71 (lv_at hl 1 rfl) ?_
        refine lv_iconst (v := 3) hx hb dX8_flow_73 (by decide) ?_
        refine lv_icmp_ne (tgt := 88) hx hb dX8_flow_74 (by decide) (fun hc_37 => ?_) (fun hc_37 => ?_)
        · have hv := hv.1 hc_37
          refine lv_lload hx hb dX8_flow_88 (lv_at hl 0 rfl) ?_
          refine lv_lstore (lv' := [(5, .long (((mw ((x + 10) + y).toNatClampNeg) - (mw (x + z).toNatClampNeg)) / 4)), (4, .int (ks y.toNatClampNeg)), (0, .ref m0), (1, .int x), (2, .int y), (3, .int z)]) hx hb dX8_flow_90 hl (by decide) rfl (fun ls hl => ?_)
          refine lv_lload hx hb dX8_flow_92 (lv_at hl 0 rfl) ?_
          refine lv_aload_n hx hb dX8_flow_94 rfl (lv_at hl 2 rfl) ?_
          refine va_get (D := G.1) (ci := 8) (v := .ref m3) (C := RX8) (T := TX8) (N := 29) hx hb hts hinX8 hown hKK.1 hP 0 rfl rfl 2 (by decide) kl17 (fun _ h9 => h9) rfl dX8_flow_95 ?_
          refine lv_iload_n hx hb dX8_flow_98 rfl (lv_at hl 5 rfl) ?_
          obtain ⟨hin, hv⟩ := hv
          refine va_iald hx hb hKK.1 hP 3 0 rfl rfl hin dX8_flow_99 ?_
          refine lv_i2l hx hb dX8_flow_100 rfl ?_
          refine lv_aload_n hx hb dX8_flow_101 rfl (lv_at hl 2 rfl) ?_
          refine va_get (D := G.1) (ci := 8) (v := .ref m1) (C := RX8) (T := TX8) (N := 29) hx hb hts hinX8 hown hKK.1 hP 0 rfl rfl 0 (by decide) kl7 (fun _ h9 => h9) rfl dX8_flow_102 ?_
          refine lv_iload_n hx hb dX8_flow_105 rfl (lv_at hl 3 rfl) ?_
          refine lv_iload_n hx hb dX8_flow_106 rfl (lv_at hl 5 rfl) ?_
          refine lv_iadd hx hb dX8_flow_107 ?_
          obtain ⟨hin, hv⟩ := hv
          refine va_lald hx hb hKK.1 hP 1 2 rfl rfl hin dX8_flow_108 ?_
          refine lv_lsub hx hb dX8_flow_109 ?_
          refine x_calllR (x_runS (As := [.long (((mw ((x + 10) + y).toNatClampNeg) - (mw (x + z).toNatClampNeg)) / 4), .long ((zs z.toNatClampNeg).toInt64 - (mw (x + z).toNatClampNeg))]) (rest := []) (n := 2) ⟨hx, hb, hml, hown, hts⟩ (k_X8_less l G  _ (((mw ((x + 10) + y).toNatClampNeg) - (mw (x + z).toNatClampNeg)) / 4) ((zs z.toNatClampNeg).toInt64 - (mw (x + z).toNatClampNeg))) gX8_flow_X8_less rfl (by decide +kernel) ⟨Nat.le_trans (Nat.le_of_ble_eq_true rfl) hRf, Nat.le_trans (Nat.le_of_ble_eq_true rfl) hRl⟩ hKK hSS hS hA hP hD [] (by decide) rfl rfl hl.1 rfl (Nat.le_of_ble_eq_true rfl) dX8_flow_110) hP hD hS hA [] rfl (fun r_38 _ H locs hw hP hS => ?_)
          replace hw := hw.symm; subst hw
          exact x_lret (v := (if (((mw ((x + 10) + y).toNatClampNeg) - (mw (x + z).toNatClampNeg)) / 4) < ((zs z.toNatClampNeg).toInt64 - (mw (x + z).toNatClampNeg)) then (((mw ((x + 10) + y).toNatClampNeg) - (mw (x + z).toNatClampNeg)) / 4) else ((zs z.toNatClampNeg).toInt64 - (mw (x + z).toNatClampNeg)))) () hQ hx hb hr hlocks hS dX8_flow_113 hv hP hD
        · have hv := hv.2 hc_37
          refine lv_lload hx hb dX8_flow_77 (lv_at hl 0 rfl) ?_
          refine lv_lconst (v := 0) hx hb dX8_flow_79 (by decide) ?_
          refine W.lcmp hx hb dX8_flow_80 ?_
          refine lv_if_ge (tgt := 88) hx hb dX8_flow_81 (by decide) (fun hc_39 => ?_) (fun hc_39 => ?_)
          · have hv := hv.1 ((lg_cmp_ge _ _).mp hc_39)
            refine lv_lload hx hb dX8_flow_88 (lv_at hl 0 rfl) ?_
            refine lv_lstore (lv' := [(5, .long (((mw ((x + 10) + y).toNatClampNeg) - (mw (x + z).toNatClampNeg)) / 4)), (4, .int (ks y.toNatClampNeg)), (0, .ref m0), (1, .int x), (2, .int y), (3, .int z)]) hx hb dX8_flow_90 hl (by decide) rfl (fun ls hl => ?_)
            refine lv_lload hx hb dX8_flow_92 (lv_at hl 0 rfl) ?_
            refine lv_aload_n hx hb dX8_flow_94 rfl (lv_at hl 2 rfl) ?_
            refine va_get (D := G.1) (ci := 8) (v := .ref m3) (C := RX8) (T := TX8) (N := 29) hx hb hts hinX8 hown hKK.1 hP 0 rfl rfl 2 (by decide) kl17 (fun _ h9 => h9) rfl dX8_flow_95 ?_
            refine lv_iload_n hx hb dX8_flow_98 rfl (lv_at hl 5 rfl) ?_
            obtain ⟨hin, hv⟩ := hv
            refine va_iald hx hb hKK.1 hP 3 0 rfl rfl hin dX8_flow_99 ?_
            refine lv_i2l hx hb dX8_flow_100 rfl ?_
            refine lv_aload_n hx hb dX8_flow_101 rfl (lv_at hl 2 rfl) ?_
            refine va_get (D := G.1) (ci := 8) (v := .ref m1) (C := RX8) (T := TX8) (N := 29) hx hb hts hinX8 hown hKK.1 hP 0 rfl rfl 0 (by decide) kl7 (fun _ h9 => h9) rfl dX8_flow_102 ?_
            refine lv_iload_n hx hb dX8_flow_105 rfl (lv_at hl 3 rfl) ?_
            refine lv_iload_n hx hb dX8_flow_106 rfl (lv_at hl 5 rfl) ?_
            refine lv_iadd hx hb dX8_flow_107 ?_
            obtain ⟨hin, hv⟩ := hv
            refine va_lald hx hb hKK.1 hP 1 2 rfl rfl hin dX8_flow_108 ?_
            refine lv_lsub hx hb dX8_flow_109 ?_
            refine x_calllR (x_runS (As := [.long (((mw ((x + 10) + y).toNatClampNeg) - (mw (x + z).toNatClampNeg)) / 4), .long ((zs z.toNatClampNeg).toInt64 - (mw (x + z).toNatClampNeg))]) (rest := []) (n := 2) ⟨hx, hb, hml, hown, hts⟩ (k_X8_less l G  _ (((mw ((x + 10) + y).toNatClampNeg) - (mw (x + z).toNatClampNeg)) / 4) ((zs z.toNatClampNeg).toInt64 - (mw (x + z).toNatClampNeg))) gX8_flow_X8_less rfl (by decide +kernel) ⟨Nat.le_trans (Nat.le_of_ble_eq_true rfl) hRf, Nat.le_trans (Nat.le_of_ble_eq_true rfl) hRl⟩ hKK hSS hS hA hP hD [] (by decide) rfl rfl hl.1 rfl (Nat.le_of_ble_eq_true rfl) dX8_flow_110) hP hD hS hA [] rfl (fun r_40 _ H locs hw hP hS => ?_)
            replace hw := hw.symm; subst hw
            exact x_lret (v := (if (((mw ((x + 10) + y).toNatClampNeg) - (mw (x + z).toNatClampNeg)) / 4) < ((zs z.toNatClampNeg).toInt64 - (mw (x + z).toNatClampNeg)) then (((mw ((x + 10) + y).toNatClampNeg) - (mw (x + z).toNatClampNeg)) / 4) else ((zs z.toNatClampNeg).toInt64 - (mw (x + z).toNatClampNeg)))) () hQ hx hb hr hlocks hS dX8_flow_113 hv hP hD
          · have hv := hv.2 (fun h => hc_39 ((lg_cmp_ge _ _).mpr h))
            refine lv_lconst (v := 0) hx hb dX8_flow_84 (by decide) ?_
            refine lv_goto (tgt := 90) hx hb dX8_flow_85 (by decide) ?_
            refine lv_lstore (lv' := [(5, .long 0), (4, .int (ks y.toNatClampNeg)), (0, .ref m0), (1, .int x), (2, .int y), (3, .int z)]) hx hb dX8_flow_90 hl (by decide) rfl (fun ls hl => ?_)
            refine lv_lload hx hb dX8_flow_92 (lv_at hl 0 rfl) ?_
            refine lv_aload_n hx hb dX8_flow_94 rfl (lv_at hl 2 rfl) ?_
            refine va_get (D := G.1) (ci := 8) (v := .ref m3) (C := RX8) (T := TX8) (N := 29) hx hb hts hinX8 hown hKK.1 hP 0 rfl rfl 2 (by decide) kl17 (fun _ h9 => h9) rfl dX8_flow_95 ?_
            refine lv_iload_n hx hb dX8_flow_98 rfl (lv_at hl 5 rfl) ?_
            obtain ⟨hin, hv⟩ := hv
            refine va_iald hx hb hKK.1 hP 3 0 rfl rfl hin dX8_flow_99 ?_
            refine lv_i2l hx hb dX8_flow_100 rfl ?_
            refine lv_aload_n hx hb dX8_flow_101 rfl (lv_at hl 2 rfl) ?_
            refine va_get (D := G.1) (ci := 8) (v := .ref m1) (C := RX8) (T := TX8) (N := 29) hx hb hts hinX8 hown hKK.1 hP 0 rfl rfl 0 (by decide) kl7 (fun _ h9 => h9) rfl dX8_flow_102 ?_
            refine lv_iload_n hx hb dX8_flow_105 rfl (lv_at hl 3 rfl) ?_
            refine lv_iload_n hx hb dX8_flow_106 rfl (lv_at hl 5 rfl) ?_
            refine lv_iadd hx hb dX8_flow_107 ?_
            obtain ⟨hin, hv⟩ := hv
            refine va_lald hx hb hKK.1 hP 1 2 rfl rfl hin dX8_flow_108 ?_
            refine lv_lsub hx hb dX8_flow_109 ?_
            refine x_calllR (x_runS (As := [.long 0, .long ((zs z.toNatClampNeg).toInt64 - (mw (x + z).toNatClampNeg))]) (rest := []) (n := 2) ⟨hx, hb, hml, hown, hts⟩ (k_X8_less l G  _ 0 ((zs z.toNatClampNeg).toInt64 - (mw (x + z).toNatClampNeg))) gX8_flow_X8_less rfl (by decide +kernel) ⟨Nat.le_trans (Nat.le_of_ble_eq_true rfl) hRf, Nat.le_trans (Nat.le_of_ble_eq_true rfl) hRl⟩ hKK hSS hS hA hP hD [] (by decide) rfl rfl hl.1 rfl (Nat.le_of_ble_eq_true rfl) dX8_flow_110) hP hD hS hA [] rfl (fun r_41 _ H locs hw hP hS => ?_)
            replace hw := hw.symm; subst hw
            exact x_lret (v := (if 0 < ((zs z.toNatClampNeg).toInt64 - (mw (x + z).toNatClampNeg)) then 0 else ((zs z.toNatClampNeg).toInt64 - (mw (x + z).toNatClampNeg)))) () hQ hx hb hr hlocks hS dX8_flow_113 hv hP hD
theorem k_X8_flow (l : Launch) (G : Gt) (m0 m1 m2 m3 m4 m5 m6 m7 m8 m9 m10 m11 m12 m13 m14 : Nat) (sz : Nat) (mw : Nat → Int64) (ik : Nat → Int32) (zs : Nat → Int32) (cl : Nat → Int32) (hs : Nat → Int32) (ks : Nat → Int32) (wa : Nat → Int32) (ne : Nat → Int32) (mn : Nat → Int32) (tx : Nat → Int32) (th : Nat → Int32) (od : Nat → Int32) (bk : Nat → Int32) (bh : Nat → Int32) (fu : Int32) (fd : Int32) (fi : Int32) (nu : Int32) (nw : Int32) (nf : Int32) (bf : Int32) (bn : Int32) (ts : Int32) (ap : Int32) (fs : Int32) (ln : Int32) (fo : Int32) (fa : Int32) (wr : Int32) (x : Int32) (y : Int32) (z : Int32) (hp : True) : MetL l yX8_flow wsX8_flow 1 23 G [.ref m0, .int x, .int y, .int z] [(m0, .inr (8, [.ref m1, .ref m2, .ref m3, .ref m4, .ref m5, .ref m6, .ref m7, .ref m8, .ref m9, .int fu, .int fd, .int fi, .int nu, .int nw, .int nf, .int bf, .int bn, .ref m10, .int ts, .int ap, .int fs, .int ln, .int fo, .int fa, .ref m11, .ref m12, .ref m13, .ref m14, .int wr])), aJ G m1 560 mw, aZ G m2 2 ik, aI G m3 20 zs, aI G m4 20 cl, aI G m5 20 hs, aI G m6 20 ks, aI G m7 20 wa, aI G m8 20 ne, aI G m9 4 mn, aI G m10 400 tx, aI G m11 6 th, aI G m12 6 od, aI G m13 30 bk, aI G m14 30 bh] sz (fun (r : Int64) (_ : Unit) => True) (fun (_ : Unit) => [(m0, .inr (8, [.ref m1, .ref m2, .ref m3, .ref m4, .ref m5, .ref m6, .ref m7, .ref m8, .ref m9, .int fu, .int fd, .int fi, .int nu, .int nw, .int nf, .int bf, .int bn, .ref m10, .int ts, .int ap, .int fs, .int ln, .int fo, .int fa, .ref m11, .ref m12, .ref m13, .ref m14, .int wr])), aJ G m1 560 mw, aZ G m2 2 ik, aI G m3 20 zs, aI G m4 20 cl, aI G m5 20 hs, aI G m6 20 ks, aI G m7 20 wa, aI G m8 20 ne, aI G m9 4 mn, aI G m10 400 tx, aI G m11 6 th, aI G m12 6 od, aI G m13 30 bk, aI G m14 30 bh]) :=
  c_X8_flow l G m0 m1 m2 m3 m4 m5 m6 m7 m8 m9 m10 m11 m12 m13 m14 sz mw ik zs cl hs ks wa ne mn tx th od bk bh fu fd fi nu nw nf bf bn ts ap fs ln fo fa wr x y z (by
    sorry)

set_option maxHeartbeats 4000000 in
set_option maxRecDepth 100000 in
theorem c_X8_sitOn (l : Launch) (G : Gt) (m0 m1 m2 m3 m4 m5 m6 m7 m8 m9 m10 m11 m12 m13 m14 : Nat) (sz : Nat) (mw : Nat → Int64) (ik : Nat → Int32) (zs : Nat → Int32) (cl : Nat → Int32) (hs : Nat → Int32) (ks : Nat → Int32) (wa : Nat → Int32) (ne : Nat → Int32) (mn : Nat → Int32) (tx : Nat → Int32) (th : Nat → Int32) (od : Nat → Int32) (bk : Nat → Int32) (bh : Nat → Int32) (fu : Int32) (fd : Int32) (fi : Int32) (nu : Int32) (nw : Int32) (nf : Int32) (bf : Int32) (bn : Int32) (ts : Int32) (ap : Int32) (fs : Int32) (ln : Int32) (fo : Int32) (fa : Int32) (wr : Int32) (x : Int32) (y : Int32) (z : Int32) (hv : (True) ∧ (∀ (r_1 : Int64), (True) → ((vp_in (x + z) 560) ∧ ((vp_in (x + z) 560) ∧ ((vp_in ((x + 10) + y) 560) ∧ ((vp_in ((x + 10) + y) 560) ∧ ((vp_in (x + ((60 + (9 * y)) + z)) 560) ∧ ((((vp_updL (vp_updL mw ((x + z).toNatClampNeg) ((mw (x + z).toNatClampNeg) + r_1)) (((x + 10) + y).toNatClampNeg) (((vp_updL mw ((x + z).toNatClampNeg) ((mw (x + z).toNatClampNeg) + r_1)) ((x + 10) + y).toNatClampNeg) - r_1)) (x + ((60 + (9 * y)) + z)).toNatClampNeg) ≤ 0 → (vp_in ((x + 40) + y) 560) ∧ ((vp_in ((x + 40) + y) 560) ∧ (True))) ∧ (¬ (((vp_updL (vp_updL mw ((x + z).toNatClampNeg) ((mw (x + z).toNatClampNeg) + r_1)) (((x + 10) + y).toNatClampNeg) (((vp_updL mw ((x + z).toNatClampNeg) ((mw (x + z).toNatClampNeg) + r_1)) ((x + 10) + y).toNatClampNeg) - r_1)) (x + ((60 + (9 * y)) + z)).toNatClampNeg) ≤ 0) → (vp_in (x + ((60 + (9 * y)) + z)) 560) ∧ ((vp_in (x + ((60 + (9 * y)) + z)) 560) ∧ (True))))))))))) : MetV l yX8_sitOn wsX8_sitOn 2 49 G [.ref m0, .int x, .int y, .int z] [(m0, .inr (8, [.ref m1, .ref m2, .ref m3, .ref m4, .ref m5, .ref m6, .ref m7, .ref m8, .ref m9, .int fu, .int fd, .int fi, .int nu, .int nw, .int nf, .int bf, .int bn, .ref m10, .int ts, .int ap, .int fs, .int ln, .int fo, .int fa, .ref m11, .ref m12, .ref m13, .ref m14, .int wr])), aJ G m1 560 mw, aZ G m2 2 ik, aI G m3 20 zs, aI G m4 20 cl, aI G m5 20 hs, aI G m6 20 ks, aI G m7 20 wa, aI G m8 20 ne, aI G m9 4 mn, aI G m10 400 tx, aI G m11 6 th, aI G m12 6 od, aI G m13 30 bk, aI G m14 30 bh] sz (fun (u : (Nat → Int64)) => True) (fun (u : (Nat → Int64)) => [(m0, .inr (8, [.ref m1, .ref m2, .ref m3, .ref m4, .ref m5, .ref m6, .ref m7, .ref m8, .ref m9, .int fu, .int fd, .int fi, .int nu, .int nw, .int nf, .int bf, .int bn, .ref m10, .int ts, .int ap, .int fs, .int ln, .int fo, .int fa, .ref m11, .ref m12, .ref m13, .ref m14, .int wr])), aJ G m1 560 u, aZ G m2 2 ik, aI G m3 20 zs, aI G m4 20 cl, aI G m5 20 hs, aI G m6 20 ks, aI G m7 20 wa, aI G m8 20 ne, aI G m9 4 mn, aI G m10 400 tx, aI G m11 6 th, aI G m12 6 od, aI G m13 30 bk, aI G m14 30 bh]) := by
  refine x_startV (cc := cX8_sitOn) (maxL := 7) (ret := none) (by decide) rfl (Nat.le_of_ble_eq_true rfl) ?_
  intro p e s m args below meth c A R Q ls hRf hRl hQ C hP hD hS hA hSS hl
  obtain ⟨hx, hb, hr, hml, hown, hts, hlocks, hKK⟩ := C
  have hown : s.vm.findClass RX8 = some m.cls := hown
  have hl : lv_has ls 7 [(0, .ref m0), (1, .int x), (2, .int y), (3, .int z)] := hl
  have hinX8 : ∀ w ∈ u_ws RX8 TX8 29, w ∈ wsX8_sitOn := by decide +kernel
  have kl7 := hts (.fieldLink RX8 7 "WarmStonesModel" "w" "[J") (by decide +kernel)
  refine lv_aload_n hx hb dX8_sitOn_0 rfl (lv_at hl 0 rfl) ?_
  refine lv_iload_n hx hb dX8_sitOn_1 rfl (lv_at hl 1 rfl) ?_
  refine lv_iload_n hx hb dX8_sitOn_2 rfl (lv_at hl 2 rfl) ?_
  refine lv_iload_n hx hb dX8_sitOn_3 rfl (lv_at hl 3 rfl) ?_
  obtain ⟨hp, hv⟩ := hv
  refine x_calllR (x_runV (As := [.int x, .int y, .int z]) (rest := []) (n := 3) (C := RX8) (ci := 8) ⟨hx, hb, hml, hown, hts⟩ (k_X8_flow l G m0 m1 m2 m3 m4 m5 m6 m7 m8 m9 m10 m11 m12 m13 m14 _ mw ik zs cl hs ks wa ne mn tx th od bk bh fu fd fi nu nw nf bf bn ts ap fs ln fo fa wr x y z hp) gX8_sitOn_X8_flow rfl (by decide +kernel) ⟨Nat.le_trans (Nat.le_of_ble_eq_true rfl) hRf, Nat.le_trans (Nat.le_of_ble_eq_true rfl) hRl⟩ hKK hSS hS hA hP hD [0, 1, 2, 3, 4, 5, 6, 7, 8, 9, 10, 11, 12, 13, 14] (by decide) rfl rfl rfl 0 rfl rfl hl.1 rfl (Nat.le_of_ble_eq_true rfl) dX8_sitOn_4) hP hD hS hA [0, 1, 2, 3, 4, 5, 6, 7, 8, 9, 10, 11, 12, 13, 14] rfl (fun r_1 _ H locs hw hP hS => ?_)
  have hv := hv r_1 hw
  refine lv_lstore (lv' := [(4, .long r_1), (0, .ref m0), (1, .int x), (2, .int y), (3, .int z)]) hx hb dX8_sitOn_7 hl (by decide) rfl (fun ls hl => ?_)
  refine lv_aload_n hx hb dX8_sitOn_9 rfl (lv_at hl 1 rfl) ?_
  refine va_get (D := G.1) (ci := 8) (v := .ref m1) (C := RX8) (T := TX8) (N := 29) hx hb hts hinX8 hown hKK.1 hP 0 rfl rfl 0 (by decide) kl7 (fun _ h9 => h9) rfl dX8_sitOn_10 ?_
  refine lv_iload_n hx hb dX8_sitOn_13 rfl (lv_at hl 2 rfl) ?_
  refine lv_iload_n hx hb dX8_sitOn_14 rfl (lv_at hl 4 rfl) ?_
  refine lv_iadd hx hb dX8_sitOn_15 ?_
  refine lv_dup2_11 hx hb dX8_sitOn_16 rfl rfl ?_
  obtain ⟨hin, hv⟩ := hv
  refine va_lald hx hb hKK.1 hP 1 2 rfl rfl hin dX8_sitOn_17 ?_
  refine lv_lload hx hb dX8_sitOn_18 (lv_at hl 0 rfl) ?_
  refine lv_ladd hx hb dX8_sitOn_20 ?_
  obtain ⟨hin, hv⟩ := hv
  refine va_last hx hb hKK.1 hP hD hS 1 2 rfl rfl hin dX8_sitOn_21 (fun H locs hP hD hS => ?_)
  have hP : va_P G.1 vwCl [(m0, .inr (8, [.ref m1, .ref m2, .ref m3, .ref m4, .ref m5, .ref m6, .ref m7, .ref m8, .ref m9, .int fu, .int fd, .int fi, .int nu, .int nw, .int nf, .int bf, .int bn, .ref m10, .int ts, .int ap, .int fs, .int ln, .int fo, .int fa, .ref m11, .ref m12, .ref m13, .ref m14, .int wr])), aJ G m1 560 (vp_updL mw ((x + z).toNatClampNeg) ((mw (x + z).toNatClampNeg) + r_1)), aZ G m2 2 ik, aI G m3 20 zs, aI G m4 20 cl, aI G m5 20 hs, aI G m6 20 ks, aI G m7 20 wa, aI G m8 20 ne, aI G m9 4 mn, aI G m10 400 tx, aI G m11 6 th, aI G m12 6 od, aI G m13 30 bk, aI G m14 30 bh] H := hP
  have hD : va_D A [(m0, .inr (8, [.ref m1, .ref m2, .ref m3, .ref m4, .ref m5, .ref m6, .ref m7, .ref m8, .ref m9, .int fu, .int fd, .int fi, .int nu, .int nw, .int nf, .int bf, .int bn, .ref m10, .int ts, .int ap, .int fs, .int ln, .int fo, .int fa, .ref m11, .ref m12, .ref m13, .ref m14, .int wr])), aJ G m1 560 (vp_updL mw ((x + z).toNatClampNeg) ((mw (x + z).toNatClampNeg) + r_1)), aZ G m2 2 ik, aI G m3 20 zs, aI G m4 20 cl, aI G m5 20 hs, aI G m6 20 ks, aI G m7 20 wa, aI G m8 20 ne, aI G m9 4 mn, aI G m10 400 tx, aI G m11 6 th, aI G m12 6 od, aI G m13 30 bk, aI G m14 30 bh] := hD
  refine lv_aload_n hx hb dX8_sitOn_22 rfl (lv_at hl 1 rfl) ?_
  refine va_get (D := G.1) (ci := 8) (v := .ref m1) (C := RX8) (T := TX8) (N := 29) hx hb hts hinX8 hown hKK.1 hP 0 rfl rfl 0 (by decide) kl7 (fun _ h9 => h9) rfl dX8_sitOn_23 ?_
  refine lv_iload_n hx hb dX8_sitOn_26 rfl (lv_at hl 2 rfl) ?_
  refine lv_bipush (v := 10) hx hb dX8_sitOn_27 (by decide) ?_
  refine lv_iadd hx hb dX8_sitOn_29 ?_
  refine lv_iload_n hx hb dX8_sitOn_30 rfl (lv_at hl 3 rfl) ?_
  refine lv_iadd hx hb dX8_sitOn_31 ?_
  refine lv_dup2_11 hx hb dX8_sitOn_32 rfl rfl ?_
  obtain ⟨hin, hv⟩ := hv
  refine va_lald hx hb hKK.1 hP 1 2 rfl rfl hin dX8_sitOn_33 ?_
  refine lv_lload hx hb dX8_sitOn_34 (lv_at hl 0 rfl) ?_
  refine lv_lsub hx hb dX8_sitOn_36 ?_
  obtain ⟨hin, hv⟩ := hv
  refine va_last hx hb hKK.1 hP hD hS 1 2 rfl rfl hin dX8_sitOn_37 (fun H locs hP hD hS => ?_)
  have hP : va_P G.1 vwCl [(m0, .inr (8, [.ref m1, .ref m2, .ref m3, .ref m4, .ref m5, .ref m6, .ref m7, .ref m8, .ref m9, .int fu, .int fd, .int fi, .int nu, .int nw, .int nf, .int bf, .int bn, .ref m10, .int ts, .int ap, .int fs, .int ln, .int fo, .int fa, .ref m11, .ref m12, .ref m13, .ref m14, .int wr])), aJ G m1 560 (vp_updL (vp_updL mw ((x + z).toNatClampNeg) ((mw (x + z).toNatClampNeg) + r_1)) (((x + 10) + y).toNatClampNeg) (((vp_updL mw ((x + z).toNatClampNeg) ((mw (x + z).toNatClampNeg) + r_1)) ((x + 10) + y).toNatClampNeg) - r_1)), aZ G m2 2 ik, aI G m3 20 zs, aI G m4 20 cl, aI G m5 20 hs, aI G m6 20 ks, aI G m7 20 wa, aI G m8 20 ne, aI G m9 4 mn, aI G m10 400 tx, aI G m11 6 th, aI G m12 6 od, aI G m13 30 bk, aI G m14 30 bh] H := hP
  have hD : va_D A [(m0, .inr (8, [.ref m1, .ref m2, .ref m3, .ref m4, .ref m5, .ref m6, .ref m7, .ref m8, .ref m9, .int fu, .int fd, .int fi, .int nu, .int nw, .int nf, .int bf, .int bn, .ref m10, .int ts, .int ap, .int fs, .int ln, .int fo, .int fa, .ref m11, .ref m12, .ref m13, .ref m14, .int wr])), aJ G m1 560 (vp_updL (vp_updL mw ((x + z).toNatClampNeg) ((mw (x + z).toNatClampNeg) + r_1)) (((x + 10) + y).toNatClampNeg) (((vp_updL mw ((x + z).toNatClampNeg) ((mw (x + z).toNatClampNeg) + r_1)) ((x + 10) + y).toNatClampNeg) - r_1)), aZ G m2 2 ik, aI G m3 20 zs, aI G m4 20 cl, aI G m5 20 hs, aI G m6 20 ks, aI G m7 20 wa, aI G m8 20 ne, aI G m9 4 mn, aI G m10 400 tx, aI G m11 6 th, aI G m12 6 od, aI G m13 30 bk, aI G m14 30 bh] := hD
  refine lv_bipush (v := 60) hx hb dX8_sitOn_38 (by decide) ?_
  refine lv_bipush (v := 9) hx hb dX8_sitOn_40 (by decide) ?_
  refine lv_iload_n hx hb dX8_sitOn_42 rfl (lv_at hl 3 rfl) ?_
  refine lv_imul hx hb dX8_sitOn_43 ?_
  refine lv_iadd hx hb dX8_sitOn_44 ?_
  refine lv_iload_n hx hb dX8_sitOn_45 rfl (lv_at hl 4 rfl) ?_
  refine lv_iadd hx hb dX8_sitOn_46 ?_
  refine lv_istore (lv' := [(6, .int ((60 + (9 * y)) + z)), (4, .long r_1), (0, .ref m0), (1, .int x), (2, .int y), (3, .int z)]) hx hb dX8_sitOn_47 hl (by decide) rfl (fun ls hl => ?_)
  refine lv_aload_n hx hb dX8_sitOn_49 rfl (lv_at hl 2 rfl) ?_
  refine va_get (D := G.1) (ci := 8) (v := .ref m1) (C := RX8) (T := TX8) (N := 29) hx hb hts hinX8 hown hKK.1 hP 0 rfl rfl 0 (by decide) kl7 (fun _ h9 => h9) rfl dX8_sitOn_50 ?_
  refine lv_iload_n hx hb dX8_sitOn_53 rfl (lv_at hl 3 rfl) ?_
  refine lv_iload hx hb dX8_sitOn_54 (lv_at hl 0 rfl) ?_
  refine lv_iadd hx hb dX8_sitOn_56 ?_
  obtain ⟨hin, hv⟩ := hv
  refine va_lald hx hb hKK.1 hP 1 2 rfl rfl hin dX8_sitOn_57 ?_
  refine lv_lconst (v := 0) hx hb dX8_sitOn_58 (by decide) ?_
  refine W.lcmp hx hb dX8_sitOn_59 ?_
  refine lv_if_le (tgt := 79) hx hb dX8_sitOn_60 (by decide) (fun hc_2 => ?_) (fun hc_2 => ?_)
  · have hv := hv.1 ((lg_cmp_le _ _).mp hc_2)
    refine lv_aload_n hx hb dX8_sitOn_79 rfl (lv_at hl 2 rfl) ?_
    refine va_get (D := G.1) (ci := 8) (v := .ref m1) (C := RX8) (T := TX8) (N := 29) hx hb hts hinX8 hown hKK.1 hP 0 rfl rfl 0 (by decide) kl7 (fun _ h9 => h9) rfl dX8_sitOn_80 ?_
    refine lv_iload_n hx hb dX8_sitOn_83 rfl (lv_at hl 3 rfl) ?_
    refine lv_bipush (v := 40) hx hb dX8_sitOn_84 (by decide) ?_
    refine lv_iadd hx hb dX8_sitOn_86 ?_
    refine lv_iload_n hx hb dX8_sitOn_87 rfl (lv_at hl 4 rfl) ?_
    refine lv_iadd hx hb dX8_sitOn_88 ?_
    refine lv_dup2_11 hx hb dX8_sitOn_89 rfl rfl ?_
    obtain ⟨hin, hv⟩ := hv
    refine va_lald hx hb hKK.1 hP 1 2 rfl rfl hin dX8_sitOn_90 ?_
    refine lv_lconst (v := 1) hx hb dX8_sitOn_91 (by decide) ?_
    refine lv_ladd hx hb dX8_sitOn_92 ?_
    obtain ⟨hin, hv⟩ := hv
    refine va_last hx hb hKK.1 hP hD hS 1 2 rfl rfl hin dX8_sitOn_93 (fun H locs hP hD hS => ?_)
    have hP : va_P G.1 vwCl [(m0, .inr (8, [.ref m1, .ref m2, .ref m3, .ref m4, .ref m5, .ref m6, .ref m7, .ref m8, .ref m9, .int fu, .int fd, .int fi, .int nu, .int nw, .int nf, .int bf, .int bn, .ref m10, .int ts, .int ap, .int fs, .int ln, .int fo, .int fa, .ref m11, .ref m12, .ref m13, .ref m14, .int wr])), aJ G m1 560 (vp_updL (vp_updL (vp_updL mw ((x + z).toNatClampNeg) ((mw (x + z).toNatClampNeg) + r_1)) (((x + 10) + y).toNatClampNeg) (((vp_updL mw ((x + z).toNatClampNeg) ((mw (x + z).toNatClampNeg) + r_1)) ((x + 10) + y).toNatClampNeg) - r_1)) (((x + 40) + y).toNatClampNeg) (((vp_updL (vp_updL mw ((x + z).toNatClampNeg) ((mw (x + z).toNatClampNeg) + r_1)) (((x + 10) + y).toNatClampNeg) (((vp_updL mw ((x + z).toNatClampNeg) ((mw (x + z).toNatClampNeg) + r_1)) ((x + 10) + y).toNatClampNeg) - r_1)) ((x + 40) + y).toNatClampNeg) + 1)), aZ G m2 2 ik, aI G m3 20 zs, aI G m4 20 cl, aI G m5 20 hs, aI G m6 20 ks, aI G m7 20 wa, aI G m8 20 ne, aI G m9 4 mn, aI G m10 400 tx, aI G m11 6 th, aI G m12 6 od, aI G m13 30 bk, aI G m14 30 bh] H := hP
    have hD : va_D A [(m0, .inr (8, [.ref m1, .ref m2, .ref m3, .ref m4, .ref m5, .ref m6, .ref m7, .ref m8, .ref m9, .int fu, .int fd, .int fi, .int nu, .int nw, .int nf, .int bf, .int bn, .ref m10, .int ts, .int ap, .int fs, .int ln, .int fo, .int fa, .ref m11, .ref m12, .ref m13, .ref m14, .int wr])), aJ G m1 560 (vp_updL (vp_updL (vp_updL mw ((x + z).toNatClampNeg) ((mw (x + z).toNatClampNeg) + r_1)) (((x + 10) + y).toNatClampNeg) (((vp_updL mw ((x + z).toNatClampNeg) ((mw (x + z).toNatClampNeg) + r_1)) ((x + 10) + y).toNatClampNeg) - r_1)) (((x + 40) + y).toNatClampNeg) (((vp_updL (vp_updL mw ((x + z).toNatClampNeg) ((mw (x + z).toNatClampNeg) + r_1)) (((x + 10) + y).toNatClampNeg) (((vp_updL mw ((x + z).toNatClampNeg) ((mw (x + z).toNatClampNeg) + r_1)) ((x + 10) + y).toNatClampNeg) - r_1)) ((x + 40) + y).toNatClampNeg) + 1)), aZ G m2 2 ik, aI G m3 20 zs, aI G m4 20 cl, aI G m5 20 hs, aI G m6 20 ks, aI G m7 20 wa, aI G m8 20 ne, aI G m9 4 mn, aI G m10 400 tx, aI G m11 6 th, aI G m12 6 od, aI G m13 30 bk, aI G m14 30 bh] := hD
    exact x_vret (vp_updL (vp_updL (vp_updL mw ((x + z).toNatClampNeg) ((mw (x + z).toNatClampNeg) + r_1)) (((x + 10) + y).toNatClampNeg) (((vp_updL mw ((x + z).toNatClampNeg) ((mw (x + z).toNatClampNeg) + r_1)) ((x + 10) + y).toNatClampNeg) - r_1)) (((x + 40) + y).toNatClampNeg) (((vp_updL (vp_updL mw ((x + z).toNatClampNeg) ((mw (x + z).toNatClampNeg) + r_1)) (((x + 10) + y).toNatClampNeg) (((vp_updL mw ((x + z).toNatClampNeg) ((mw (x + z).toNatClampNeg) + r_1)) ((x + 10) + y).toNatClampNeg) - r_1)) ((x + 40) + y).toNatClampNeg) + 1)) hQ hx hb hr hlocks hS dX8_sitOn_94 hv hP hD
  · have hv := hv.2 (fun h => hc_2 ((lg_cmp_le _ _).mpr h))
    refine lv_aload_n hx hb dX8_sitOn_63 rfl (lv_at hl 2 rfl) ?_
    refine va_get (D := G.1) (ci := 8) (v := .ref m1) (C := RX8) (T := TX8) (N := 29) hx hb hts hinX8 hown hKK.1 hP 0 rfl rfl 0 (by decide) kl7 (fun _ h9 => h9) rfl dX8_sitOn_64 ?_
    refine lv_iload_n hx hb dX8_sitOn_67 rfl (lv_at hl 3 rfl) ?_
    refine lv_iload hx hb dX8_sitOn_68 (lv_at hl 0 rfl) ?_
    refine lv_iadd hx hb dX8_sitOn_70 ?_
    refine lv_dup2_11 hx hb dX8_sitOn_71 rfl rfl ?_
    obtain ⟨hin, hv⟩ := hv
    refine va_lald hx hb hKK.1 hP 1 2 rfl rfl hin dX8_sitOn_72 ?_
    refine lv_lconst (v := 1) hx hb dX8_sitOn_73 (by decide) ?_
    refine lv_lsub hx hb dX8_sitOn_74 ?_
    obtain ⟨hin, hv⟩ := hv
    refine va_last hx hb hKK.1 hP hD hS 1 2 rfl rfl hin dX8_sitOn_75 (fun H locs hP hD hS => ?_)
    have hP : va_P G.1 vwCl [(m0, .inr (8, [.ref m1, .ref m2, .ref m3, .ref m4, .ref m5, .ref m6, .ref m7, .ref m8, .ref m9, .int fu, .int fd, .int fi, .int nu, .int nw, .int nf, .int bf, .int bn, .ref m10, .int ts, .int ap, .int fs, .int ln, .int fo, .int fa, .ref m11, .ref m12, .ref m13, .ref m14, .int wr])), aJ G m1 560 (vp_updL (vp_updL (vp_updL mw ((x + z).toNatClampNeg) ((mw (x + z).toNatClampNeg) + r_1)) (((x + 10) + y).toNatClampNeg) (((vp_updL mw ((x + z).toNatClampNeg) ((mw (x + z).toNatClampNeg) + r_1)) ((x + 10) + y).toNatClampNeg) - r_1)) ((x + ((60 + (9 * y)) + z)).toNatClampNeg) (((vp_updL (vp_updL mw ((x + z).toNatClampNeg) ((mw (x + z).toNatClampNeg) + r_1)) (((x + 10) + y).toNatClampNeg) (((vp_updL mw ((x + z).toNatClampNeg) ((mw (x + z).toNatClampNeg) + r_1)) ((x + 10) + y).toNatClampNeg) - r_1)) (x + ((60 + (9 * y)) + z)).toNatClampNeg) - 1)), aZ G m2 2 ik, aI G m3 20 zs, aI G m4 20 cl, aI G m5 20 hs, aI G m6 20 ks, aI G m7 20 wa, aI G m8 20 ne, aI G m9 4 mn, aI G m10 400 tx, aI G m11 6 th, aI G m12 6 od, aI G m13 30 bk, aI G m14 30 bh] H := hP
    have hD : va_D A [(m0, .inr (8, [.ref m1, .ref m2, .ref m3, .ref m4, .ref m5, .ref m6, .ref m7, .ref m8, .ref m9, .int fu, .int fd, .int fi, .int nu, .int nw, .int nf, .int bf, .int bn, .ref m10, .int ts, .int ap, .int fs, .int ln, .int fo, .int fa, .ref m11, .ref m12, .ref m13, .ref m14, .int wr])), aJ G m1 560 (vp_updL (vp_updL (vp_updL mw ((x + z).toNatClampNeg) ((mw (x + z).toNatClampNeg) + r_1)) (((x + 10) + y).toNatClampNeg) (((vp_updL mw ((x + z).toNatClampNeg) ((mw (x + z).toNatClampNeg) + r_1)) ((x + 10) + y).toNatClampNeg) - r_1)) ((x + ((60 + (9 * y)) + z)).toNatClampNeg) (((vp_updL (vp_updL mw ((x + z).toNatClampNeg) ((mw (x + z).toNatClampNeg) + r_1)) (((x + 10) + y).toNatClampNeg) (((vp_updL mw ((x + z).toNatClampNeg) ((mw (x + z).toNatClampNeg) + r_1)) ((x + 10) + y).toNatClampNeg) - r_1)) (x + ((60 + (9 * y)) + z)).toNatClampNeg) - 1)), aZ G m2 2 ik, aI G m3 20 zs, aI G m4 20 cl, aI G m5 20 hs, aI G m6 20 ks, aI G m7 20 wa, aI G m8 20 ne, aI G m9 4 mn, aI G m10 400 tx, aI G m11 6 th, aI G m12 6 od, aI G m13 30 bk, aI G m14 30 bh] := hD
    refine lv_goto (tgt := 94) hx hb dX8_sitOn_76 (by decide) ?_
    exact x_vret (vp_updL (vp_updL (vp_updL mw ((x + z).toNatClampNeg) ((mw (x + z).toNatClampNeg) + r_1)) (((x + 10) + y).toNatClampNeg) (((vp_updL mw ((x + z).toNatClampNeg) ((mw (x + z).toNatClampNeg) + r_1)) ((x + 10) + y).toNatClampNeg) - r_1)) ((x + ((60 + (9 * y)) + z)).toNatClampNeg) (((vp_updL (vp_updL mw ((x + z).toNatClampNeg) ((mw (x + z).toNatClampNeg) + r_1)) (((x + 10) + y).toNatClampNeg) (((vp_updL mw ((x + z).toNatClampNeg) ((mw (x + z).toNatClampNeg) + r_1)) ((x + 10) + y).toNatClampNeg) - r_1)) (x + ((60 + (9 * y)) + z)).toNatClampNeg) - 1)) hQ hx hb hr hlocks hS dX8_sitOn_94 hv hP hD
theorem k_X8_sitOn (l : Launch) (G : Gt) (m0 m1 m2 m3 m4 m5 m6 m7 m8 m9 m10 m11 m12 m13 m14 : Nat) (sz : Nat) (mw : Nat → Int64) (ik : Nat → Int32) (zs : Nat → Int32) (cl : Nat → Int32) (hs : Nat → Int32) (ks : Nat → Int32) (wa : Nat → Int32) (ne : Nat → Int32) (mn : Nat → Int32) (tx : Nat → Int32) (th : Nat → Int32) (od : Nat → Int32) (bk : Nat → Int32) (bh : Nat → Int32) (fu : Int32) (fd : Int32) (fi : Int32) (nu : Int32) (nw : Int32) (nf : Int32) (bf : Int32) (bn : Int32) (ts : Int32) (ap : Int32) (fs : Int32) (ln : Int32) (fo : Int32) (fa : Int32) (wr : Int32) (x : Int32) (y : Int32) (z : Int32) (hp : True) : MetV l yX8_sitOn wsX8_sitOn 2 49 G [.ref m0, .int x, .int y, .int z] [(m0, .inr (8, [.ref m1, .ref m2, .ref m3, .ref m4, .ref m5, .ref m6, .ref m7, .ref m8, .ref m9, .int fu, .int fd, .int fi, .int nu, .int nw, .int nf, .int bf, .int bn, .ref m10, .int ts, .int ap, .int fs, .int ln, .int fo, .int fa, .ref m11, .ref m12, .ref m13, .ref m14, .int wr])), aJ G m1 560 mw, aZ G m2 2 ik, aI G m3 20 zs, aI G m4 20 cl, aI G m5 20 hs, aI G m6 20 ks, aI G m7 20 wa, aI G m8 20 ne, aI G m9 4 mn, aI G m10 400 tx, aI G m11 6 th, aI G m12 6 od, aI G m13 30 bk, aI G m14 30 bh] sz (fun (u : (Nat → Int64)) => True) (fun (u : (Nat → Int64)) => [(m0, .inr (8, [.ref m1, .ref m2, .ref m3, .ref m4, .ref m5, .ref m6, .ref m7, .ref m8, .ref m9, .int fu, .int fd, .int fi, .int nu, .int nw, .int nf, .int bf, .int bn, .ref m10, .int ts, .int ap, .int fs, .int ln, .int fo, .int fa, .ref m11, .ref m12, .ref m13, .ref m14, .int wr])), aJ G m1 560 u, aZ G m2 2 ik, aI G m3 20 zs, aI G m4 20 cl, aI G m5 20 hs, aI G m6 20 ks, aI G m7 20 wa, aI G m8 20 ne, aI G m9 4 mn, aI G m10 400 tx, aI G m11 6 th, aI G m12 6 od, aI G m13 30 bk, aI G m14 30 bh]) :=
  c_X8_sitOn l G m0 m1 m2 m3 m4 m5 m6 m7 m8 m9 m10 m11 m12 m13 m14 sz mw ik zs cl hs ks wa ne mn tx th od bk bh fu fd fi nu nw nf bf bn ts ap fs ln fo fa wr x y z (by
    sorry)

set_option maxHeartbeats 4000000 in
set_option maxRecDepth 100000 in
theorem c_X8_isCold (l : Launch) (G : Gt) (m0 m1 m2 m3 m4 m5 m6 m7 m8 m9 m10 m11 m12 m13 m14 : Nat) (sz : Nat) (mw : Nat → Int64) (ik : Nat → Int32) (zs : Nat → Int32) (cl : Nat → Int32) (hs : Nat → Int32) (ks : Nat → Int32) (wa : Nat → Int32) (ne : Nat → Int32) (mn : Nat → Int32) (tx : Nat → Int32) (th : Nat → Int32) (od : Nat → Int32) (bk : Nat → Int32) (bh : Nat → Int32) (fu : Int32) (fd : Int32) (fi : Int32) (nu : Int32) (nw : Int32) (nf : Int32) (bf : Int32) (bn : Int32) (ts : Int32) (ap : Int32) (fs : Int32) (ln : Int32) (fo : Int32) (fa : Int32) (wr : Int32) (x : Int32) (y : Int32) (hv : (vp_in ((x + 10) + y) 560) ∧ ((vp_in y 20) ∧ (((ne y.toNatClampNeg).toInt64 ≤ (mw ((x + 10) + y).toNatClampNeg) → True) ∧ (¬ ((ne y.toNatClampNeg).toInt64 ≤ (mw ((x + 10) + y).toNatClampNeg)) → True)))) : MetI l yX8_isCold wsX8_isCold 0 0 G [.ref m0, .int x, .int y] [(m0, .inr (8, [.ref m1, .ref m2, .ref m3, .ref m4, .ref m5, .ref m6, .ref m7, .ref m8, .ref m9, .int fu, .int fd, .int fi, .int nu, .int nw, .int nf, .int bf, .int bn, .ref m10, .int ts, .int ap, .int fs, .int ln, .int fo, .int fa, .ref m11, .ref m12, .ref m13, .ref m14, .int wr])), aJ G m1 560 mw, aZ G m2 2 ik, aI G m3 20 zs, aI G m4 20 cl, aI G m5 20 hs, aI G m6 20 ks, aI G m7 20 wa, aI G m8 20 ne, aI G m9 4 mn, aI G m10 400 tx, aI G m11 6 th, aI G m12 6 od, aI G m13 30 bk, aI G m14 30 bh] sz (fun (r : Int32) (_ : Unit) => True) (fun (_ : Unit) => [(m0, .inr (8, [.ref m1, .ref m2, .ref m3, .ref m4, .ref m5, .ref m6, .ref m7, .ref m8, .ref m9, .int fu, .int fd, .int fi, .int nu, .int nw, .int nf, .int bf, .int bn, .ref m10, .int ts, .int ap, .int fs, .int ln, .int fo, .int fa, .ref m11, .ref m12, .ref m13, .ref m14, .int wr])), aJ G m1 560 mw, aZ G m2 2 ik, aI G m3 20 zs, aI G m4 20 cl, aI G m5 20 hs, aI G m6 20 ks, aI G m7 20 wa, aI G m8 20 ne, aI G m9 4 mn, aI G m10 400 tx, aI G m11 6 th, aI G m12 6 od, aI G m13 30 bk, aI G m14 30 bh]) := by
  refine x_startI (cc := cX8_isCold) (maxL := 3) (ret := (some .boolean)) (by decide) rfl (Nat.le_of_ble_eq_true rfl) ?_
  intro p e s m args below meth c A R Q ls hRf hRl hQ C hP hD hS hA hSS hl
  obtain ⟨hx, hb, hr, hml, hown, hts, hlocks, hKK⟩ := C
  have hown : s.vm.findClass RX8 = some m.cls := hown
  have hl : lv_has ls 3 [(0, .ref m0), (1, .int x), (2, .int y)] := hl
  have hinX8 : ∀ w ∈ u_ws RX8 TX8 29, w ∈ wsX8_isCold := by decide +kernel
  have kl33 := hts (.fieldLink RX8 33 "WarmStonesModel" "needs" "[I") (by decide +kernel)
  have kl7 := hts (.fieldLink RX8 7 "WarmStonesModel" "w" "[J") (by decide +kernel)
  refine lv_aload_n hx hb dX8_isCold_0 rfl (lv_at hl 0 rfl) ?_
  refine va_get (D := G.1) (ci := 8) (v := .ref m1) (C := RX8) (T := TX8) (N := 29) hx hb hts hinX8 hown hKK.1 hP 0 rfl rfl 0 (by decide) kl7 (fun _ h9 => h9) rfl dX8_isCold_1 ?_
  refine lv_iload_n hx hb dX8_isCold_4 rfl (lv_at hl 1 rfl) ?_
  refine lv_bipush (v := 10) hx hb dX8_isCold_5 (by decide) ?_
  refine lv_iadd hx hb dX8_isCold_7 ?_
  refine lv_iload_n hx hb dX8_isCold_8 rfl (lv_at hl 2 rfl) ?_
  refine lv_iadd hx hb dX8_isCold_9 ?_
  obtain ⟨hin, hv⟩ := hv
  refine va_lald hx hb hKK.1 hP 1 2 rfl rfl hin dX8_isCold_10 ?_
  refine lv_aload_n hx hb dX8_isCold_11 rfl (lv_at hl 0 rfl) ?_
  refine va_get (D := G.1) (ci := 8) (v := .ref m8) (C := RX8) (T := TX8) (N := 29) hx hb hts hinX8 hown hKK.1 hP 0 rfl rfl 7 (by decide) kl33 (fun _ h9 => h9) rfl dX8_isCold_12 ?_
  refine lv_iload_n hx hb dX8_isCold_15 rfl (lv_at hl 2 rfl) ?_
  obtain ⟨hin, hv⟩ := hv
  refine va_iald hx hb hKK.1 hP 8 0 rfl rfl hin dX8_isCold_16 ?_
  refine lv_i2l hx hb dX8_isCold_17 rfl ?_
  refine W.lcmp hx hb dX8_isCold_18 ?_
  refine lv_if_ge (tgt := 26) hx hb dX8_isCold_19 (by decide) (fun hc_1 => ?_) (fun hc_1 => ?_)
  · have hv := hv.1 ((lg_cmp_ge _ _).mp hc_1)
    refine lv_iconst (v := 0) hx hb dX8_isCold_26 (by decide) ?_
    exact x_zret (v := 0) () hQ hx hb hr hlocks hS dX8_isCold_27 rfl hv hP hD
  · have hv := hv.2 (fun h => hc_1 ((lg_cmp_ge _ _).mpr h))
    refine lv_iconst (v := 1) hx hb dX8_isCold_22 (by decide) ?_
    refine lv_goto (tgt := 27) hx hb dX8_isCold_23 (by decide) ?_
    exact x_zret (v := 1) () hQ hx hb hr hlocks hS dX8_isCold_27 rfl hv hP hD
theorem k_X8_isCold (l : Launch) (G : Gt) (m0 m1 m2 m3 m4 m5 m6 m7 m8 m9 m10 m11 m12 m13 m14 : Nat) (sz : Nat) (mw : Nat → Int64) (ik : Nat → Int32) (zs : Nat → Int32) (cl : Nat → Int32) (hs : Nat → Int32) (ks : Nat → Int32) (wa : Nat → Int32) (ne : Nat → Int32) (mn : Nat → Int32) (tx : Nat → Int32) (th : Nat → Int32) (od : Nat → Int32) (bk : Nat → Int32) (bh : Nat → Int32) (fu : Int32) (fd : Int32) (fi : Int32) (nu : Int32) (nw : Int32) (nf : Int32) (bf : Int32) (bn : Int32) (ts : Int32) (ap : Int32) (fs : Int32) (ln : Int32) (fo : Int32) (fa : Int32) (wr : Int32) (x : Int32) (y : Int32) (hp : True) : MetI l yX8_isCold wsX8_isCold 0 0 G [.ref m0, .int x, .int y] [(m0, .inr (8, [.ref m1, .ref m2, .ref m3, .ref m4, .ref m5, .ref m6, .ref m7, .ref m8, .ref m9, .int fu, .int fd, .int fi, .int nu, .int nw, .int nf, .int bf, .int bn, .ref m10, .int ts, .int ap, .int fs, .int ln, .int fo, .int fa, .ref m11, .ref m12, .ref m13, .ref m14, .int wr])), aJ G m1 560 mw, aZ G m2 2 ik, aI G m3 20 zs, aI G m4 20 cl, aI G m5 20 hs, aI G m6 20 ks, aI G m7 20 wa, aI G m8 20 ne, aI G m9 4 mn, aI G m10 400 tx, aI G m11 6 th, aI G m12 6 od, aI G m13 30 bk, aI G m14 30 bh] sz (fun (r : Int32) (_ : Unit) => True) (fun (_ : Unit) => [(m0, .inr (8, [.ref m1, .ref m2, .ref m3, .ref m4, .ref m5, .ref m6, .ref m7, .ref m8, .ref m9, .int fu, .int fd, .int fi, .int nu, .int nw, .int nf, .int bf, .int bn, .ref m10, .int ts, .int ap, .int fs, .int ln, .int fo, .int fa, .ref m11, .ref m12, .ref m13, .ref m14, .int wr])), aJ G m1 560 mw, aZ G m2 2 ik, aI G m3 20 zs, aI G m4 20 cl, aI G m5 20 hs, aI G m6 20 ks, aI G m7 20 wa, aI G m8 20 ne, aI G m9 4 mn, aI G m10 400 tx, aI G m11 6 th, aI G m12 6 od, aI G m13 30 bk, aI G m14 30 bh]) :=
  c_X8_isCold l G m0 m1 m2 m3 m4 m5 m6 m7 m8 m9 m10 m11 m12 m13 m14 sz mw ik zs cl hs ks wa ne mn tx th od bk bh fu fd fi nu nw nf bf bn ts ap fs ln fo fa wr x y (by
    sorry)

set_option maxHeartbeats 4000000 in
set_option maxRecDepth 100000 in
theorem c_X8_pass (l : Launch) (G : Gt) (m0 m1 m2 m3 m4 m5 m6 m7 m8 m9 m10 m11 m12 m13 m14 : Nat) (sz : Nat) (mw : Nat → Int64) (ik : Nat → Int32) (zs : Nat → Int32) (cl : Nat → Int32) (hs : Nat → Int32) (ks : Nat → Int32) (wa : Nat → Int32) (ne : Nat → Int32) (mn : Nat → Int32) (tx : Nat → Int32) (th : Nat → Int32) (od : Nat → Int32) (bk : Nat → Int32) (bh : Nat → Int32) (fu : Int32) (fd : Int32) (fi : Int32) (nu : Int32) (nw : Int32) (nf : Int32) (bf : Int32) (bn : Int32) (ts : Int32) (ap : Int32) (fs : Int32) (ln : Int32) (fo : Int32) (fa : Int32) (wr : Int32) (x : Int32) (hv : (vp_in (x + 132) 560) ∧ ((vp_in (x + 132) 560) ∧ (∃ (I18_4 : (Nat → Int64) → Int32 → Int32 → Prop) (μ18_5 : (Nat → Int64) → Int32 → Int32 → Nat), I18_4 (vp_updL mw ((x + 132).toNatClampNeg) ((mw (x + 132).toNatClampNeg) + 1)) 0 0 ∧ (∀ (fm1_1 : (Nat → Int64)) (x2_2 : Int32) (x3_3 : Int32), I18_4 fm1_1 x2_2 x3_3 → ((mn 1) ≤ x3_3 → ∃ (I227_11 : (Nat → Int64) → Int32 → Prop) (μ227_12 : (Nat → Int64) → Int32 → Nat), I227_11 fm1_1 0 ∧ (∀ (fm1_9 : (Nat → Int64)) (x3_10 : Int32), I227_11 fm1_9 x3_10 → ((mn 0) ≤ x3_10 → True) ∧ (¬ ((mn 0) ≤ x3_10) → (True) ∧ (∀ (r_16 : Int32), (True) → ((0 ≤ r_16 → I227_11 fm1_9 (x3_10 + 1) ∧ μ227_12 fm1_9 (x3_10 + 1) < μ227_12 fm1_9 x3_10) ∧ (¬ (0 ≤ r_16) → (vp_in (x + x3_10) 560) ∧ (((fm1_9 (x + x3_10).toNatClampNeg) ≤ 0 → I227_11 fm1_9 (x3_10 + 1) ∧ μ227_12 fm1_9 (x3_10 + 1) < μ227_12 fm1_9 x3_10) ∧ (¬ ((fm1_9 (x + x3_10).toNatClampNeg) ≤ 0) → (vp_in (x + x3_10) 560) ∧ ((vp_in x3_10 20) ∧ ((¬ (cl x3_10.toNatClampNeg).toInt64 = 0) ∧ ((vp_in (x + x3_10) 560) ∧ ((vp_in (x + x3_10) 560) ∧ ((vp_in (x + 134) 560) ∧ ((vp_in (x + 134) 560) ∧ (I227_11 (vp_updL (vp_updL fm1_9 ((x + x3_10).toNatClampNeg) ((fm1_9 (x + x3_10).toNatClampNeg) - (if ((fm1_9 (x + x3_10).toNatClampNeg) / (cl x3_10.toNatClampNeg).toInt64) < 1 then 1 else ((fm1_9 (x + x3_10).toNatClampNeg) / (cl x3_10.toNatClampNeg).toInt64)))) ((x + 134).toNatClampNeg) (((vp_updL fm1_9 ((x + x3_10).toNatClampNeg) ((fm1_9 (x + x3_10).toNatClampNeg) - (if ((fm1_9 (x + x3_10).toNatClampNeg) / (cl x3_10.toNatClampNeg).toInt64) < 1 then 1 else ((fm1_9 (x + x3_10).toNatClampNeg) / (cl x3_10.toNatClampNeg).toInt64)))) (x + 134).toNatClampNeg) + (if ((fm1_9 (x + x3_10).toNatClampNeg) / (cl x3_10.toNatClampNeg).toInt64) < 1 then 1 else ((fm1_9 (x + x3_10).toNatClampNeg) / (cl x3_10.toNatClampNeg).toInt64)))) (x3_10 + 1) ∧ μ227_12 (vp_updL (vp_updL fm1_9 ((x + x3_10).toNatClampNeg) ((fm1_9 (x + x3_10).toNatClampNeg) - (if ((fm1_9 (x + x3_10).toNatClampNeg) / (cl x3_10.toNatClampNeg).toInt64) < 1 then 1 else ((fm1_9 (x + x3_10).toNatClampNeg) / (cl x3_10.toNatClampNeg).toInt64)))) ((x + 134).toNatClampNeg) (((vp_updL fm1_9 ((x + x3_10).toNatClampNeg) ((fm1_9 (x + x3_10).toNatClampNeg) - (if ((fm1_9 (x + x3_10).toNatClampNeg) / (cl x3_10.toNatClampNeg).toInt64) < 1 then 1 else ((fm1_9 (x + x3_10).toNatClampNeg) / (cl x3_10.toNatClampNeg).toInt64)))) (x + 134).toNatClampNeg) + (if ((fm1_9 (x + x3_10).toNatClampNeg) / (cl x3_10.toNatClampNeg).toInt64) < 1 then 1 else ((fm1_9 (x + x3_10).toNatClampNeg) / (cl x3_10.toNatClampNeg).toInt64)))) (x3_10 + 1) < μ227_12 fm1_9 x3_10))))))))))))))) ∧ (¬ ((mn 1) ≤ x3_3) → (vp_in ((x + 20) + x3_3) 560) ∧ (((fm1_1 ((x + 20) + x3_3).toNatClampNeg) < 0 → (vp_in ((x + 50) + x3_3) 560) ∧ ((vp_in ((x + 50) + x3_3) 560) ∧ ((vp_in x3_3 20) ∧ ((¬ (ks x3_3.toNatClampNeg) = 4 → (vp_in ((x + 10) + x3_3) 560) ∧ ((vp_in ((x + 10) + x3_3) 560) ∧ ((vp_in ((x + 10) + x3_3) 560) ∧ ((vp_in (x + 134) 560) ∧ ((vp_in (x + 134) 560) ∧ ((vp_in ((x + 30) + x3_3) 560) ∧ ((True) ∧ (∀ (r_28 : Int32), (True) → ((vp_in ((x + 30) + x3_3) 560) ∧ ((True) ∧ (∀ (r_30 : Int32), (True) → (I18_4 (vp_updL (vp_updL (vp_updL (vp_updL fm1_1 (((x + 50) + x3_3).toNatClampNeg) ((fm1_1 ((x + 50) + x3_3).toNatClampNeg) + fi.toInt64)) (((x + 10) + x3_3).toNatClampNeg) (((vp_updL fm1_1 (((x + 50) + x3_3).toNatClampNeg) ((fm1_1 ((x + 50) + x3_3).toNatClampNeg) + fi.toInt64)) ((x + 10) + x3_3).toNatClampNeg) - (if fu.toInt64 < ((vp_updL fm1_1 (((x + 50) + x3_3).toNatClampNeg) ((fm1_1 ((x + 50) + x3_3).toNatClampNeg) + fi.toInt64)) ((x + 10) + x3_3).toNatClampNeg) then fu.toInt64 else ((vp_updL fm1_1 (((x + 50) + x3_3).toNatClampNeg) ((fm1_1 ((x + 50) + x3_3).toNatClampNeg) + fi.toInt64)) ((x + 10) + x3_3).toNatClampNeg)))) ((x + 134).toNatClampNeg) (((vp_updL (vp_updL fm1_1 (((x + 50) + x3_3).toNatClampNeg) ((fm1_1 ((x + 50) + x3_3).toNatClampNeg) + fi.toInt64)) (((x + 10) + x3_3).toNatClampNeg) (((vp_updL fm1_1 (((x + 50) + x3_3).toNatClampNeg) ((fm1_1 ((x + 50) + x3_3).toNatClampNeg) + fi.toInt64)) ((x + 10) + x3_3).toNatClampNeg) - (if fu.toInt64 < ((vp_updL fm1_1 (((x + 50) + x3_3).toNatClampNeg) ((fm1_1 ((x + 50) + x3_3).toNatClampNeg) + fi.toInt64)) ((x + 10) + x3_3).toNatClampNeg) then fu.toInt64 else ((vp_updL fm1_1 (((x + 50) + x3_3).toNatClampNeg) ((fm1_1 ((x + 50) + x3_3).toNatClampNeg) + fi.toInt64)) ((x + 10) + x3_3).toNatClampNeg)))) (x + 134).toNatClampNeg) + (if fu.toInt64 < ((vp_updL fm1_1 (((x + 50) + x3_3).toNatClampNeg) ((fm1_1 ((x + 50) + x3_3).toNatClampNeg) + fi.toInt64)) ((x + 10) + x3_3).toNatClampNeg) then fu.toInt64 else ((vp_updL fm1_1 (((x + 50) + x3_3).toNatClampNeg) ((fm1_1 ((x + 50) + x3_3).toNatClampNeg) + fi.toInt64)) ((x + 10) + x3_3).toNatClampNeg)))) (((x + 30) + x3_3).toNatClampNeg) (((vp_updL (vp_updL (vp_updL fm1_1 (((x + 50) + x3_3).toNatClampNeg) ((fm1_1 ((x + 50) + x3_3).toNatClampNeg) + fi.toInt64)) (((x + 10) + x3_3).toNatClampNeg) (((vp_updL fm1_1 (((x + 50) + x3_3).toNatClampNeg) ((fm1_1 ((x + 50) + x3_3).toNatClampNeg) + fi.toInt64)) ((x + 10) + x3_3).toNatClampNeg) - (if fu.toInt64 < ((vp_updL fm1_1 (((x + 50) + x3_3).toNatClampNeg) ((fm1_1 ((x + 50) + x3_3).toNatClampNeg) + fi.toInt64)) ((x + 10) + x3_3).toNatClampNeg) then fu.toInt64 else ((vp_updL fm1_1 (((x + 50) + x3_3).toNatClampNeg) ((fm1_1 ((x + 50) + x3_3).toNatClampNeg) + fi.toInt64)) ((x + 10) + x3_3).toNatClampNeg)))) ((x + 134).toNatClampNeg) (((vp_updL (vp_updL fm1_1 (((x + 50) + x3_3).toNatClampNeg) ((fm1_1 ((x + 50) + x3_3).toNatClampNeg) + fi.toInt64)) (((x + 10) + x3_3).toNatClampNeg) (((vp_updL fm1_1 (((x + 50) + x3_3).toNatClampNeg) ((fm1_1 ((x + 50) + x3_3).toNatClampNeg) + fi.toInt64)) ((x + 10) + x3_3).toNatClampNeg) - (if fu.toInt64 < ((vp_updL fm1_1 (((x + 50) + x3_3).toNatClampNeg) ((fm1_1 ((x + 50) + x3_3).toNatClampNeg) + fi.toInt64)) ((x + 10) + x3_3).toNatClampNeg) then fu.toInt64 else ((vp_updL fm1_1 (((x + 50) + x3_3).toNatClampNeg) ((fm1_1 ((x + 50) + x3_3).toNatClampNeg) + fi.toInt64)) ((x + 10) + x3_3).toNatClampNeg)))) (x + 134).toNatClampNeg) + (if fu.toInt64 < ((vp_updL fm1_1 (((x + 50) + x3_3).toNatClampNeg) ((fm1_1 ((x + 50) + x3_3).toNatClampNeg) + fi.toInt64)) ((x + 10) + x3_3).toNatClampNeg) then fu.toInt64 else ((vp_updL fm1_1 (((x + 50) + x3_3).toNatClampNeg) ((fm1_1 ((x + 50) + x3_3).toNatClampNeg) + fi.toInt64)) ((x + 10) + x3_3).toNatClampNeg)))) ((x + 30) + x3_3).toNatClampNeg) + ((if r_28 = 0 then 0 else 1) : Int32).toInt64)) (x2_2 ||| ((if r_30 = 0 then 0 else 1) <<< (x3_3 &&& 31))) (x3_3 + 1) ∧ μ18_5 (vp_updL (vp_updL (vp_updL (vp_updL fm1_1 (((x + 50) + x3_3).toNatClampNeg) ((fm1_1 ((x + 50) + x3_3).toNatClampNeg) + fi.toInt64)) (((x + 10) + x3_3).toNatClampNeg) (((vp_updL fm1_1 (((x + 50) + x3_3).toNatClampNeg) ((fm1_1 ((x + 50) + x3_3).toNatClampNeg) + fi.toInt64)) ((x + 10) + x3_3).toNatClampNeg) - (if fu.toInt64 < ((vp_updL fm1_1 (((x + 50) + x3_3).toNatClampNeg) ((fm1_1 ((x + 50) + x3_3).toNatClampNeg) + fi.toInt64)) ((x + 10) + x3_3).toNatClampNeg) then fu.toInt64 else ((vp_updL fm1_1 (((x + 50) + x3_3).toNatClampNeg) ((fm1_1 ((x + 50) + x3_3).toNatClampNeg) + fi.toInt64)) ((x + 10) + x3_3).toNatClampNeg)))) ((x + 134).toNatClampNeg) (((vp_updL (vp_updL fm1_1 (((x + 50) + x3_3).toNatClampNeg) ((fm1_1 ((x + 50) + x3_3).toNatClampNeg) + fi.toInt64)) (((x + 10) + x3_3).toNatClampNeg) (((vp_updL fm1_1 (((x + 50) + x3_3).toNatClampNeg) ((fm1_1 ((x + 50) + x3_3).toNatClampNeg) + fi.toInt64)) ((x + 10) + x3_3).toNatClampNeg) - (if fu.toInt64 < ((vp_updL fm1_1 (((x + 50) + x3_3).toNatClampNeg) ((fm1_1 ((x + 50) + x3_3).toNatClampNeg) + fi.toInt64)) ((x + 10) + x3_3).toNatClampNeg) then fu.toInt64 else ((vp_updL fm1_1 (((x + 50) + x3_3).toNatClampNeg) ((fm1_1 ((x + 50) + x3_3).toNatClampNeg) + fi.toInt64)) ((x + 10) + x3_3).toNatClampNeg)))) (x + 134).toNatClampNeg) + (if fu.toInt64 < ((vp_updL fm1_1 (((x + 50) + x3_3).toNatClampNeg) ((fm1_1 ((x + 50) + x3_3).toNatClampNeg) + fi.toInt64)) ((x + 10) + x3_3).toNatClampNeg) then fu.toInt64 else ((vp_updL fm1_1 (((x + 50) + x3_3).toNatClampNeg) ((fm1_1 ((x + 50) + x3_3).toNatClampNeg) + fi.toInt64)) ((x + 10) + x3_3).toNatClampNeg)))) (((x + 30) + x3_3).toNatClampNeg) (((vp_updL (vp_updL (vp_updL fm1_1 (((x + 50) + x3_3).toNatClampNeg) ((fm1_1 ((x + 50) + x3_3).toNatClampNeg) + fi.toInt64)) (((x + 10) + x3_3).toNatClampNeg) (((vp_updL fm1_1 (((x + 50) + x3_3).toNatClampNeg) ((fm1_1 ((x + 50) + x3_3).toNatClampNeg) + fi.toInt64)) ((x + 10) + x3_3).toNatClampNeg) - (if fu.toInt64 < ((vp_updL fm1_1 (((x + 50) + x3_3).toNatClampNeg) ((fm1_1 ((x + 50) + x3_3).toNatClampNeg) + fi.toInt64)) ((x + 10) + x3_3).toNatClampNeg) then fu.toInt64 else ((vp_updL fm1_1 (((x + 50) + x3_3).toNatClampNeg) ((fm1_1 ((x + 50) + x3_3).toNatClampNeg) + fi.toInt64)) ((x + 10) + x3_3).toNatClampNeg)))) ((x + 134).toNatClampNeg) (((vp_updL (vp_updL fm1_1 (((x + 50) + x3_3).toNatClampNeg) ((fm1_1 ((x + 50) + x3_3).toNatClampNeg) + fi.toInt64)) (((x + 10) + x3_3).toNatClampNeg) (((vp_updL fm1_1 (((x + 50) + x3_3).toNatClampNeg) ((fm1_1 ((x + 50) + x3_3).toNatClampNeg) + fi.toInt64)) ((x + 10) + x3_3).toNatClampNeg) - (if fu.toInt64 < ((vp_updL fm1_1 (((x + 50) + x3_3).toNatClampNeg) ((fm1_1 ((x + 50) + x3_3).toNatClampNeg) + fi.toInt64)) ((x + 10) + x3_3).toNatClampNeg) then fu.toInt64 else ((vp_updL fm1_1 (((x + 50) + x3_3).toNatClampNeg) ((fm1_1 ((x + 50) + x3_3).toNatClampNeg) + fi.toInt64)) ((x + 10) + x3_3).toNatClampNeg)))) (x + 134).toNatClampNeg) + (if fu.toInt64 < ((vp_updL fm1_1 (((x + 50) + x3_3).toNatClampNeg) ((fm1_1 ((x + 50) + x3_3).toNatClampNeg) + fi.toInt64)) ((x + 10) + x3_3).toNatClampNeg) then fu.toInt64 else ((vp_updL fm1_1 (((x + 50) + x3_3).toNatClampNeg) ((fm1_1 ((x + 50) + x3_3).toNatClampNeg) + fi.toInt64)) ((x + 10) + x3_3).toNatClampNeg)))) ((x + 30) + x3_3).toNatClampNeg) + ((if r_28 = 0 then 0 else 1) : Int32).toInt64)) (x2_2 ||| ((if r_30 = 0 then 0 else 1) <<< (x3_3 &&& 31))) (x3_3 + 1) < μ18_5 fm1_1 x2_2 x3_3)))))))))))) ∧ ((ks x3_3.toNatClampNeg) = 4 → (vp_in ((x + 10) + x3_3) 560) ∧ ((vp_in ((x + 10) + x3_3) 560) ∧ ((vp_in ((x + 10) + x3_3) 560) ∧ ((vp_in (x + 134) 560) ∧ ((vp_in (x + 134) 560) ∧ ((vp_in ((x + 30) + x3_3) 560) ∧ ((True) ∧ (∀ (r_33 : Int32), (True) → ((vp_in ((x + 30) + x3_3) 560) ∧ ((True) ∧ (∀ (r_35 : Int32), (True) → (I18_4 (vp_updL (vp_updL (vp_updL (vp_updL fm1_1 (((x + 50) + x3_3).toNatClampNeg) ((fm1_1 ((x + 50) + x3_3).toNatClampNeg) + fi.toInt64)) (((x + 10) + x3_3).toNatClampNeg) (((vp_updL fm1_1 (((x + 50) + x3_3).toNatClampNeg) ((fm1_1 ((x + 50) + x3_3).toNatClampNeg) + fi.toInt64)) ((x + 10) + x3_3).toNatClampNeg) - (if ((fu / 2).toInt64) < ((vp_updL fm1_1 (((x + 50) + x3_3).toNatClampNeg) ((fm1_1 ((x + 50) + x3_3).toNatClampNeg) + fi.toInt64)) ((x + 10) + x3_3).toNatClampNeg) then ((fu / 2).toInt64) else ((vp_updL fm1_1 (((x + 50) + x3_3).toNatClampNeg) ((fm1_1 ((x + 50) + x3_3).toNatClampNeg) + fi.toInt64)) ((x + 10) + x3_3).toNatClampNeg)))) ((x + 134).toNatClampNeg) (((vp_updL (vp_updL fm1_1 (((x + 50) + x3_3).toNatClampNeg) ((fm1_1 ((x + 50) + x3_3).toNatClampNeg) + fi.toInt64)) (((x + 10) + x3_3).toNatClampNeg) (((vp_updL fm1_1 (((x + 50) + x3_3).toNatClampNeg) ((fm1_1 ((x + 50) + x3_3).toNatClampNeg) + fi.toInt64)) ((x + 10) + x3_3).toNatClampNeg) - (if ((fu / 2).toInt64) < ((vp_updL fm1_1 (((x + 50) + x3_3).toNatClampNeg) ((fm1_1 ((x + 50) + x3_3).toNatClampNeg) + fi.toInt64)) ((x + 10) + x3_3).toNatClampNeg) then ((fu / 2).toInt64) else ((vp_updL fm1_1 (((x + 50) + x3_3).toNatClampNeg) ((fm1_1 ((x + 50) + x3_3).toNatClampNeg) + fi.toInt64)) ((x + 10) + x3_3).toNatClampNeg)))) (x + 134).toNatClampNeg) + (if ((fu / 2).toInt64) < ((vp_updL fm1_1 (((x + 50) + x3_3).toNatClampNeg) ((fm1_1 ((x + 50) + x3_3).toNatClampNeg) + fi.toInt64)) ((x + 10) + x3_3).toNatClampNeg) then ((fu / 2).toInt64) else ((vp_updL fm1_1 (((x + 50) + x3_3).toNatClampNeg) ((fm1_1 ((x + 50) + x3_3).toNatClampNeg) + fi.toInt64)) ((x + 10) + x3_3).toNatClampNeg)))) (((x + 30) + x3_3).toNatClampNeg) (((vp_updL (vp_updL (vp_updL fm1_1 (((x + 50) + x3_3).toNatClampNeg) ((fm1_1 ((x + 50) + x3_3).toNatClampNeg) + fi.toInt64)) (((x + 10) + x3_3).toNatClampNeg) (((vp_updL fm1_1 (((x + 50) + x3_3).toNatClampNeg) ((fm1_1 ((x + 50) + x3_3).toNatClampNeg) + fi.toInt64)) ((x + 10) + x3_3).toNatClampNeg) - (if ((fu / 2).toInt64) < ((vp_updL fm1_1 (((x + 50) + x3_3).toNatClampNeg) ((fm1_1 ((x + 50) + x3_3).toNatClampNeg) + fi.toInt64)) ((x + 10) + x3_3).toNatClampNeg) then ((fu / 2).toInt64) else ((vp_updL fm1_1 (((x + 50) + x3_3).toNatClampNeg) ((fm1_1 ((x + 50) + x3_3).toNatClampNeg) + fi.toInt64)) ((x + 10) + x3_3).toNatClampNeg)))) ((x + 134).toNatClampNeg) (((vp_updL (vp_updL fm1_1 (((x + 50) + x3_3).toNatClampNeg) ((fm1_1 ((x + 50) + x3_3).toNatClampNeg) + fi.toInt64)) (((x + 10) + x3_3).toNatClampNeg) (((vp_updL fm1_1 (((x + 50) + x3_3).toNatClampNeg) ((fm1_1 ((x + 50) + x3_3).toNatClampNeg) + fi.toInt64)) ((x + 10) + x3_3).toNatClampNeg) - (if ((fu / 2).toInt64) < ((vp_updL fm1_1 (((x + 50) + x3_3).toNatClampNeg) ((fm1_1 ((x + 50) + x3_3).toNatClampNeg) + fi.toInt64)) ((x + 10) + x3_3).toNatClampNeg) then ((fu / 2).toInt64) else ((vp_updL fm1_1 (((x + 50) + x3_3).toNatClampNeg) ((fm1_1 ((x + 50) + x3_3).toNatClampNeg) + fi.toInt64)) ((x + 10) + x3_3).toNatClampNeg)))) (x + 134).toNatClampNeg) + (if ((fu / 2).toInt64) < ((vp_updL fm1_1 (((x + 50) + x3_3).toNatClampNeg) ((fm1_1 ((x + 50) + x3_3).toNatClampNeg) + fi.toInt64)) ((x + 10) + x3_3).toNatClampNeg) then ((fu / 2).toInt64) else ((vp_updL fm1_1 (((x + 50) + x3_3).toNatClampNeg) ((fm1_1 ((x + 50) + x3_3).toNatClampNeg) + fi.toInt64)) ((x + 10) + x3_3).toNatClampNeg)))) ((x + 30) + x3_3).toNatClampNeg) + ((if r_33 = 0 then 0 else 1) : Int32).toInt64)) (x2_2 ||| ((if r_35 = 0 then 0 else 1) <<< (x3_3 &&& 31))) (x3_3 + 1) ∧ μ18_5 (vp_updL (vp_updL (vp_updL (vp_updL fm1_1 (((x + 50) + x3_3).toNatClampNeg) ((fm1_1 ((x + 50) + x3_3).toNatClampNeg) + fi.toInt64)) (((x + 10) + x3_3).toNatClampNeg) (((vp_updL fm1_1 (((x + 50) + x3_3).toNatClampNeg) ((fm1_1 ((x + 50) + x3_3).toNatClampNeg) + fi.toInt64)) ((x + 10) + x3_3).toNatClampNeg) - (if ((fu / 2).toInt64) < ((vp_updL fm1_1 (((x + 50) + x3_3).toNatClampNeg) ((fm1_1 ((x + 50) + x3_3).toNatClampNeg) + fi.toInt64)) ((x + 10) + x3_3).toNatClampNeg) then ((fu / 2).toInt64) else ((vp_updL fm1_1 (((x + 50) + x3_3).toNatClampNeg) ((fm1_1 ((x + 50) + x3_3).toNatClampNeg) + fi.toInt64)) ((x + 10) + x3_3).toNatClampNeg)))) ((x + 134).toNatClampNeg) (((vp_updL (vp_updL fm1_1 (((x + 50) + x3_3).toNatClampNeg) ((fm1_1 ((x + 50) + x3_3).toNatClampNeg) + fi.toInt64)) (((x + 10) + x3_3).toNatClampNeg) (((vp_updL fm1_1 (((x + 50) + x3_3).toNatClampNeg) ((fm1_1 ((x + 50) + x3_3).toNatClampNeg) + fi.toInt64)) ((x + 10) + x3_3).toNatClampNeg) - (if ((fu / 2).toInt64) < ((vp_updL fm1_1 (((x + 50) + x3_3).toNatClampNeg) ((fm1_1 ((x + 50) + x3_3).toNatClampNeg) + fi.toInt64)) ((x + 10) + x3_3).toNatClampNeg) then ((fu / 2).toInt64) else ((vp_updL fm1_1 (((x + 50) + x3_3).toNatClampNeg) ((fm1_1 ((x + 50) + x3_3).toNatClampNeg) + fi.toInt64)) ((x + 10) + x3_3).toNatClampNeg)))) (x + 134).toNatClampNeg) + (if ((fu / 2).toInt64) < ((vp_updL fm1_1 (((x + 50) + x3_3).toNatClampNeg) ((fm1_1 ((x + 50) + x3_3).toNatClampNeg) + fi.toInt64)) ((x + 10) + x3_3).toNatClampNeg) then ((fu / 2).toInt64) else ((vp_updL fm1_1 (((x + 50) + x3_3).toNatClampNeg) ((fm1_1 ((x + 50) + x3_3).toNatClampNeg) + fi.toInt64)) ((x + 10) + x3_3).toNatClampNeg)))) (((x + 30) + x3_3).toNatClampNeg) (((vp_updL (vp_updL (vp_updL fm1_1 (((x + 50) + x3_3).toNatClampNeg) ((fm1_1 ((x + 50) + x3_3).toNatClampNeg) + fi.toInt64)) (((x + 10) + x3_3).toNatClampNeg) (((vp_updL fm1_1 (((x + 50) + x3_3).toNatClampNeg) ((fm1_1 ((x + 50) + x3_3).toNatClampNeg) + fi.toInt64)) ((x + 10) + x3_3).toNatClampNeg) - (if ((fu / 2).toInt64) < ((vp_updL fm1_1 (((x + 50) + x3_3).toNatClampNeg) ((fm1_1 ((x + 50) + x3_3).toNatClampNeg) + fi.toInt64)) ((x + 10) + x3_3).toNatClampNeg) then ((fu / 2).toInt64) else ((vp_updL fm1_1 (((x + 50) + x3_3).toNatClampNeg) ((fm1_1 ((x + 50) + x3_3).toNatClampNeg) + fi.toInt64)) ((x + 10) + x3_3).toNatClampNeg)))) ((x + 134).toNatClampNeg) (((vp_updL (vp_updL fm1_1 (((x + 50) + x3_3).toNatClampNeg) ((fm1_1 ((x + 50) + x3_3).toNatClampNeg) + fi.toInt64)) (((x + 10) + x3_3).toNatClampNeg) (((vp_updL fm1_1 (((x + 50) + x3_3).toNatClampNeg) ((fm1_1 ((x + 50) + x3_3).toNatClampNeg) + fi.toInt64)) ((x + 10) + x3_3).toNatClampNeg) - (if ((fu / 2).toInt64) < ((vp_updL fm1_1 (((x + 50) + x3_3).toNatClampNeg) ((fm1_1 ((x + 50) + x3_3).toNatClampNeg) + fi.toInt64)) ((x + 10) + x3_3).toNatClampNeg) then ((fu / 2).toInt64) else ((vp_updL fm1_1 (((x + 50) + x3_3).toNatClampNeg) ((fm1_1 ((x + 50) + x3_3).toNatClampNeg) + fi.toInt64)) ((x + 10) + x3_3).toNatClampNeg)))) (x + 134).toNatClampNeg) + (if ((fu / 2).toInt64) < ((vp_updL fm1_1 (((x + 50) + x3_3).toNatClampNeg) ((fm1_1 ((x + 50) + x3_3).toNatClampNeg) + fi.toInt64)) ((x + 10) + x3_3).toNatClampNeg) then ((fu / 2).toInt64) else ((vp_updL fm1_1 (((x + 50) + x3_3).toNatClampNeg) ((fm1_1 ((x + 50) + x3_3).toNatClampNeg) + fi.toInt64)) ((x + 10) + x3_3).toNatClampNeg)))) ((x + 30) + x3_3).toNatClampNeg) + ((if r_33 = 0 then 0 else 1) : Int32).toInt64)) (x2_2 ||| ((if r_35 = 0 then 0 else 1) <<< (x3_3 &&& 31))) (x3_3 + 1) < μ18_5 fm1_1 x2_2 x3_3)))))))))))))))) ∧ (¬ ((fm1_1 ((x + 20) + x3_3).toNatClampNeg) < 0) → (vp_in ((x + 20) + x3_3) 560) ∧ ((True) ∧ (∀ (mw2_39 : Nat → Int64), (True) → ((vp_in x3_3 20) ∧ ((¬ (ks x3_3.toNatClampNeg) = 4 → (vp_in ((x + 10) + x3_3) 560) ∧ ((vp_in ((x + 10) + x3_3) 560) ∧ ((vp_in ((x + 10) + x3_3) 560) ∧ ((vp_in (x + 134) 560) ∧ ((vp_in (x + 134) 560) ∧ ((vp_in ((x + 30) + x3_3) 560) ∧ ((True) ∧ (∀ (r_43 : Int32), (True) → ((vp_in ((x + 30) + x3_3) 560) ∧ ((True) ∧ (∀ (r_45 : Int32), (True) → (I18_4 (vp_updL (vp_updL (vp_updL mw2_39 (((x + 10) + x3_3).toNatClampNeg) ((mw2_39 ((x + 10) + x3_3).toNatClampNeg) - (if fd.toInt64 < (mw2_39 ((x + 10) + x3_3).toNatClampNeg) then fd.toInt64 else (mw2_39 ((x + 10) + x3_3).toNatClampNeg)))) ((x + 134).toNatClampNeg) (((vp_updL mw2_39 (((x + 10) + x3_3).toNatClampNeg) ((mw2_39 ((x + 10) + x3_3).toNatClampNeg) - (if fd.toInt64 < (mw2_39 ((x + 10) + x3_3).toNatClampNeg) then fd.toInt64 else (mw2_39 ((x + 10) + x3_3).toNatClampNeg)))) (x + 134).toNatClampNeg) + (if fd.toInt64 < (mw2_39 ((x + 10) + x3_3).toNatClampNeg) then fd.toInt64 else (mw2_39 ((x + 10) + x3_3).toNatClampNeg)))) (((x + 30) + x3_3).toNatClampNeg) (((vp_updL (vp_updL mw2_39 (((x + 10) + x3_3).toNatClampNeg) ((mw2_39 ((x + 10) + x3_3).toNatClampNeg) - (if fd.toInt64 < (mw2_39 ((x + 10) + x3_3).toNatClampNeg) then fd.toInt64 else (mw2_39 ((x + 10) + x3_3).toNatClampNeg)))) ((x + 134).toNatClampNeg) (((vp_updL mw2_39 (((x + 10) + x3_3).toNatClampNeg) ((mw2_39 ((x + 10) + x3_3).toNatClampNeg) - (if fd.toInt64 < (mw2_39 ((x + 10) + x3_3).toNatClampNeg) then fd.toInt64 else (mw2_39 ((x + 10) + x3_3).toNatClampNeg)))) (x + 134).toNatClampNeg) + (if fd.toInt64 < (mw2_39 ((x + 10) + x3_3).toNatClampNeg) then fd.toInt64 else (mw2_39 ((x + 10) + x3_3).toNatClampNeg)))) ((x + 30) + x3_3).toNatClampNeg) + ((if r_43 = 0 then 0 else 1) : Int32).toInt64)) (x2_2 ||| ((if r_45 = 0 then 0 else 1) <<< (x3_3 &&& 31))) (x3_3 + 1) ∧ μ18_5 (vp_updL (vp_updL (vp_updL mw2_39 (((x + 10) + x3_3).toNatClampNeg) ((mw2_39 ((x + 10) + x3_3).toNatClampNeg) - (if fd.toInt64 < (mw2_39 ((x + 10) + x3_3).toNatClampNeg) then fd.toInt64 else (mw2_39 ((x + 10) + x3_3).toNatClampNeg)))) ((x + 134).toNatClampNeg) (((vp_updL mw2_39 (((x + 10) + x3_3).toNatClampNeg) ((mw2_39 ((x + 10) + x3_3).toNatClampNeg) - (if fd.toInt64 < (mw2_39 ((x + 10) + x3_3).toNatClampNeg) then fd.toInt64 else (mw2_39 ((x + 10) + x3_3).toNatClampNeg)))) (x + 134).toNatClampNeg) + (if fd.toInt64 < (mw2_39 ((x + 10) + x3_3).toNatClampNeg) then fd.toInt64 else (mw2_39 ((x + 10) + x3_3).toNatClampNeg)))) (((x + 30) + x3_3).toNatClampNeg) (((vp_updL (vp_updL mw2_39 (((x + 10) + x3_3).toNatClampNeg) ((mw2_39 ((x + 10) + x3_3).toNatClampNeg) - (if fd.toInt64 < (mw2_39 ((x + 10) + x3_3).toNatClampNeg) then fd.toInt64 else (mw2_39 ((x + 10) + x3_3).toNatClampNeg)))) ((x + 134).toNatClampNeg) (((vp_updL mw2_39 (((x + 10) + x3_3).toNatClampNeg) ((mw2_39 ((x + 10) + x3_3).toNatClampNeg) - (if fd.toInt64 < (mw2_39 ((x + 10) + x3_3).toNatClampNeg) then fd.toInt64 else (mw2_39 ((x + 10) + x3_3).toNatClampNeg)))) (x + 134).toNatClampNeg) + (if fd.toInt64 < (mw2_39 ((x + 10) + x3_3).toNatClampNeg) then fd.toInt64 else (mw2_39 ((x + 10) + x3_3).toNatClampNeg)))) ((x + 30) + x3_3).toNatClampNeg) + ((if r_43 = 0 then 0 else 1) : Int32).toInt64)) (x2_2 ||| ((if r_45 = 0 then 0 else 1) <<< (x3_3 &&& 31))) (x3_3 + 1) < μ18_5 fm1_1 x2_2 x3_3)))))))))))) ∧ ((ks x3_3.toNatClampNeg) = 4 → (vp_in ((x + 10) + x3_3) 560) ∧ ((vp_in ((x + 10) + x3_3) 560) ∧ ((vp_in ((x + 10) + x3_3) 560) ∧ ((vp_in (x + 134) 560) ∧ ((vp_in (x + 134) 560) ∧ ((vp_in ((x + 30) + x3_3) 560) ∧ ((True) ∧ (∀ (r_48 : Int32), (True) → ((vp_in ((x + 30) + x3_3) 560) ∧ ((True) ∧ (∀ (r_50 : Int32), (True) → (I18_4 (vp_updL (vp_updL (vp_updL mw2_39 (((x + 10) + x3_3).toNatClampNeg) ((mw2_39 ((x + 10) + x3_3).toNatClampNeg) - (if ((fu / 2).toInt64) < (mw2_39 ((x + 10) + x3_3).toNatClampNeg) then ((fu / 2).toInt64) else (mw2_39 ((x + 10) + x3_3).toNatClampNeg)))) ((x + 134).toNatClampNeg) (((vp_updL mw2_39 (((x + 10) + x3_3).toNatClampNeg) ((mw2_39 ((x + 10) + x3_3).toNatClampNeg) - (if ((fu / 2).toInt64) < (mw2_39 ((x + 10) + x3_3).toNatClampNeg) then ((fu / 2).toInt64) else (mw2_39 ((x + 10) + x3_3).toNatClampNeg)))) (x + 134).toNatClampNeg) + (if ((fu / 2).toInt64) < (mw2_39 ((x + 10) + x3_3).toNatClampNeg) then ((fu / 2).toInt64) else (mw2_39 ((x + 10) + x3_3).toNatClampNeg)))) (((x + 30) + x3_3).toNatClampNeg) (((vp_updL (vp_updL mw2_39 (((x + 10) + x3_3).toNatClampNeg) ((mw2_39 ((x + 10) + x3_3).toNatClampNeg) - (if ((fu / 2).toInt64) < (mw2_39 ((x + 10) + x3_3).toNatClampNeg) then ((fu / 2).toInt64) else (mw2_39 ((x + 10) + x3_3).toNatClampNeg)))) ((x + 134).toNatClampNeg) (((vp_updL mw2_39 (((x + 10) + x3_3).toNatClampNeg) ((mw2_39 ((x + 10) + x3_3).toNatClampNeg) - (if ((fu / 2).toInt64) < (mw2_39 ((x + 10) + x3_3).toNatClampNeg) then ((fu / 2).toInt64) else (mw2_39 ((x + 10) + x3_3).toNatClampNeg)))) (x + 134).toNatClampNeg) + (if ((fu / 2).toInt64) < (mw2_39 ((x + 10) + x3_3).toNatClampNeg) then ((fu / 2).toInt64) else (mw2_39 ((x + 10) + x3_3).toNatClampNeg)))) ((x + 30) + x3_3).toNatClampNeg) + ((if r_48 = 0 then 0 else 1) : Int32).toInt64)) (x2_2 ||| ((if r_50 = 0 then 0 else 1) <<< (x3_3 &&& 31))) (x3_3 + 1) ∧ μ18_5 (vp_updL (vp_updL (vp_updL mw2_39 (((x + 10) + x3_3).toNatClampNeg) ((mw2_39 ((x + 10) + x3_3).toNatClampNeg) - (if ((fu / 2).toInt64) < (mw2_39 ((x + 10) + x3_3).toNatClampNeg) then ((fu / 2).toInt64) else (mw2_39 ((x + 10) + x3_3).toNatClampNeg)))) ((x + 134).toNatClampNeg) (((vp_updL mw2_39 (((x + 10) + x3_3).toNatClampNeg) ((mw2_39 ((x + 10) + x3_3).toNatClampNeg) - (if ((fu / 2).toInt64) < (mw2_39 ((x + 10) + x3_3).toNatClampNeg) then ((fu / 2).toInt64) else (mw2_39 ((x + 10) + x3_3).toNatClampNeg)))) (x + 134).toNatClampNeg) + (if ((fu / 2).toInt64) < (mw2_39 ((x + 10) + x3_3).toNatClampNeg) then ((fu / 2).toInt64) else (mw2_39 ((x + 10) + x3_3).toNatClampNeg)))) (((x + 30) + x3_3).toNatClampNeg) (((vp_updL (vp_updL mw2_39 (((x + 10) + x3_3).toNatClampNeg) ((mw2_39 ((x + 10) + x3_3).toNatClampNeg) - (if ((fu / 2).toInt64) < (mw2_39 ((x + 10) + x3_3).toNatClampNeg) then ((fu / 2).toInt64) else (mw2_39 ((x + 10) + x3_3).toNatClampNeg)))) ((x + 134).toNatClampNeg) (((vp_updL mw2_39 (((x + 10) + x3_3).toNatClampNeg) ((mw2_39 ((x + 10) + x3_3).toNatClampNeg) - (if ((fu / 2).toInt64) < (mw2_39 ((x + 10) + x3_3).toNatClampNeg) then ((fu / 2).toInt64) else (mw2_39 ((x + 10) + x3_3).toNatClampNeg)))) (x + 134).toNatClampNeg) + (if ((fu / 2).toInt64) < (mw2_39 ((x + 10) + x3_3).toNatClampNeg) then ((fu / 2).toInt64) else (mw2_39 ((x + 10) + x3_3).toNatClampNeg)))) ((x + 30) + x3_3).toNatClampNeg) + ((if r_48 = 0 then 0 else 1) : Int32).toInt64)) (x2_2 ||| ((if r_50 = 0 then 0 else 1) <<< (x3_3 &&& 31))) (x3_3 + 1) < μ18_5 fm1_1 x2_2 x3_3))))))))))))))))))))))) : MetI l yX8_pass wsX8_pass 3 75 G [.ref m0, .int x] [(m0, .inr (8, [.ref m1, .ref m2, .ref m3, .ref m4, .ref m5, .ref m6, .ref m7, .ref m8, .ref m9, .int fu, .int fd, .int fi, .int nu, .int nw, .int nf, .int bf, .int bn, .ref m10, .int ts, .int ap, .int fs, .int ln, .int fo, .int fa, .ref m11, .ref m12, .ref m13, .ref m14, .int wr])), aJ G m1 560 mw, aZ G m2 2 ik, aI G m3 20 zs, aI G m4 20 cl, aI G m5 20 hs, aI G m6 20 ks, aI G m7 20 wa, aI G m8 20 ne, aI G m9 4 mn, aI G m10 400 tx, aI G m11 6 th, aI G m12 6 od, aI G m13 30 bk, aI G m14 30 bh] sz (fun (r : Int32) (u : (Nat → Int64)) => True) (fun (u : (Nat → Int64)) => [(m0, .inr (8, [.ref m1, .ref m2, .ref m3, .ref m4, .ref m5, .ref m6, .ref m7, .ref m8, .ref m9, .int fu, .int fd, .int fi, .int nu, .int nw, .int nf, .int bf, .int bn, .ref m10, .int ts, .int ap, .int fs, .int ln, .int fo, .int fa, .ref m11, .ref m12, .ref m13, .ref m14, .int wr])), aJ G m1 560 u, aZ G m2 2 ik, aI G m3 20 zs, aI G m4 20 cl, aI G m5 20 hs, aI G m6 20 ks, aI G m7 20 wa, aI G m8 20 ne, aI G m9 4 mn, aI G m10 400 tx, aI G m11 6 th, aI G m12 6 od, aI G m13 30 bk, aI G m14 30 bh]) := by
  refine x_startI (cc := cX8_pass) (maxL := 7) (ret := (some .int)) (by decide) rfl (Nat.le_of_ble_eq_true rfl) ?_
  intro p e s m args below meth c A R Q ls hRf hRl hQ C hP hD hS hA hSS hl
  obtain ⟨hx, hb, hr, hml, hown, hts, hlocks, hKK⟩ := C
  have hown : s.vm.findClass RX8 = some m.cls := hown
  have hl : lv_has ls 7 [(0, .ref m0), (1, .int x)] := hl
  have hinX8 : ∀ w ∈ u_ws RX8 TX8 29, w ∈ wsX8_pass := by decide +kernel
  have kl146 := hts (.fieldLink RX8 146 "WarmStonesModel" "fine" "I") (by decide +kernel)
  have kl21 := hts (.fieldLink RX8 21 "WarmStonesModel" "coolings" "[I") (by decide +kernel)
  have kl27 := hts (.fieldLink RX8 27 "WarmStonesModel" "kinds" "[I") (by decide +kernel)
  have kl36 := hts (.fieldLink RX8 36 "WarmStonesModel" "many" "[I") (by decide +kernel)
  have kl39 := hts (.fieldLink RX8 39 "WarmStonesModel" "frostUp" "I") (by decide +kernel)
  have kl43 := hts (.fieldLink RX8 43 "WarmStonesModel" "frostDown" "I") (by decide +kernel)
  have kl7 := hts (.fieldLink RX8 7 "WarmStonesModel" "w" "[J") (by decide +kernel)
  refine lv_iconst (v := 0) hx hb dX8_pass_0 (by decide) ?_
  refine lv_istore_n (lv' := [(2, .int 0), (0, .ref m0), (1, .int x)]) hx hb dX8_pass_1 rfl hl (by decide) rfl (fun ls hl => ?_)
  refine lv_aload_n hx hb dX8_pass_2 rfl (lv_at hl 1 rfl) ?_
  refine va_get (D := G.1) (ci := 8) (v := .ref m1) (C := RX8) (T := TX8) (N := 29) hx hb hts hinX8 hown hKK.1 hP 0 rfl rfl 0 (by decide) kl7 (fun _ h9 => h9) rfl dX8_pass_3 ?_
  refine lv_iload_n hx hb dX8_pass_6 rfl (lv_at hl 2 rfl) ?_
  refine lv_sipush (v := 132) hx hb dX8_pass_7 (by decide) ?_
  refine lv_iadd hx hb dX8_pass_10 ?_
  refine lv_dup2_11 hx hb dX8_pass_11 rfl rfl ?_
  obtain ⟨hin, hv⟩ := hv
  refine va_lald hx hb hKK.1 hP 1 2 rfl rfl hin dX8_pass_12 ?_
  refine lv_lconst (v := 1) hx hb dX8_pass_13 (by decide) ?_
  refine lv_ladd hx hb dX8_pass_14 ?_
  obtain ⟨hin, hv⟩ := hv
  refine va_last hx hb hKK.1 hP hD hS 1 2 rfl rfl hin dX8_pass_15 (fun H locs hP hD hS => ?_)
  have hP : va_P G.1 vwCl [(m0, .inr (8, [.ref m1, .ref m2, .ref m3, .ref m4, .ref m5, .ref m6, .ref m7, .ref m8, .ref m9, .int fu, .int fd, .int fi, .int nu, .int nw, .int nf, .int bf, .int bn, .ref m10, .int ts, .int ap, .int fs, .int ln, .int fo, .int fa, .ref m11, .ref m12, .ref m13, .ref m14, .int wr])), aJ G m1 560 (vp_updL mw ((x + 132).toNatClampNeg) ((mw (x + 132).toNatClampNeg) + 1)), aZ G m2 2 ik, aI G m3 20 zs, aI G m4 20 cl, aI G m5 20 hs, aI G m6 20 ks, aI G m7 20 wa, aI G m8 20 ne, aI G m9 4 mn, aI G m10 400 tx, aI G m11 6 th, aI G m12 6 od, aI G m13 30 bk, aI G m14 30 bh] H := hP
  have hD : va_D A [(m0, .inr (8, [.ref m1, .ref m2, .ref m3, .ref m4, .ref m5, .ref m6, .ref m7, .ref m8, .ref m9, .int fu, .int fd, .int fi, .int nu, .int nw, .int nf, .int bf, .int bn, .ref m10, .int ts, .int ap, .int fs, .int ln, .int fo, .int fa, .ref m11, .ref m12, .ref m13, .ref m14, .int wr])), aJ G m1 560 (vp_updL mw ((x + 132).toNatClampNeg) ((mw (x + 132).toNatClampNeg) + 1)), aZ G m2 2 ik, aI G m3 20 zs, aI G m4 20 cl, aI G m5 20 hs, aI G m6 20 ks, aI G m7 20 wa, aI G m8 20 ne, aI G m9 4 mn, aI G m10 400 tx, aI G m11 6 th, aI G m12 6 od, aI G m13 30 bk, aI G m14 30 bh] := hD
  refine lv_iconst (v := 0) hx hb dX8_pass_16 (by decide) ?_
  refine lv_istore_n (lv' := [(3, .int 0), (2, .int 0), (0, .ref m0), (1, .int x)]) hx hb dX8_pass_17 rfl hl (by decide) rfl (fun ls hl => ?_)
  obtain ⟨I18_4, μ18_5, hi0, hs_52⟩ := hv
  have Lm_54 : ∀ (n_53 : Nat) (fm1_1 : (Nat → Int64)) (x2_2 : Int32) (x3_3 : Int32) (H : Heap) (locs : List Loc) (ls : Array Slot), μ18_5 fm1_1 x2_2 x3_3 < n_53 → I18_4 fm1_1 x2_2 x3_3 → va_P G.1 vwCl [(m0, .inr (8, [.ref m1, .ref m2, .ref m3, .ref m4, .ref m5, .ref m6, .ref m7, .ref m8, .ref m9, .int fu, .int fd, .int fi, .int nu, .int nw, .int nf, .int bf, .int bn, .ref m10, .int ts, .int ap, .int fs, .int ln, .int fo, .int fa, .ref m11, .ref m12, .ref m13, .ref m14, .int wr])), aJ G m1 560 fm1_1, aZ G m2 2 ik, aI G m3 20 zs, aI G m4 20 cl, aI G m5 20 hs, aI G m6 20 ks, aI G m7 20 wa, aI G m8 20 ne, aI G m9 4 mn, aI G m10 400 tx, aI G m11 6 th, aI G m12 6 od, aI G m13 30 bk, aI G m14 30 bh] H → va_D A [(m0, .inr (8, [.ref m1, .ref m2, .ref m3, .ref m4, .ref m5, .ref m6, .ref m7, .ref m8, .ref m9, .int fu, .int fd, .int fi, .int nu, .int nw, .int nf, .int bf, .int bn, .ref m10, .int ts, .int ap, .int fs, .int ln, .int fo, .int fa, .ref m11, .ref m12, .ref m13, .ref m14, .int wr])), aJ G m1 560 fm1_1, aZ G m2 2 ik, aI G m3 20 zs, aI G m4 20 cl, aI G m5 20 hs, aI G m6 20 ks, aI G m7 20 wa, aI G m8 20 ne, aI G m9 4 mn, aI G m10 400 tx, aI G m11 6 th, aI G m12 6 od, aI G m13 30 bk, aI G m14 30 bh] → va_S A s.heap H locs → lv_has ls 7 [(3, .int x3_3), (2, .int x2_2), (0, .ref m0), (1, .int x)] → W p l e R s m args below meth c H locs 0 0 Q (F0 m 18 ls []) := by
    intro n_53
    induction n_53 with
    | zero => intro fm1_1 x2_2 x3_3 H locs ls hm; exact absurd hm (Nat.not_lt_zero _)
    | succ n_53 ih_6 =>
      intro fm1_1 x2_2 x3_3 H locs ls hI_7 hi hP hD hS hl
      have hv := hs_52 fm1_1 x2_2 x3_3 hi
      refine lv_iload_n hx hb dX8_pass_18 rfl (lv_at hl 0 rfl) ?_
      refine lv_aload_n hx hb dX8_pass_19 rfl (lv_at hl 2 rfl) ?_
      refine va_get (D := G.1) (ci := 8) (v := .ref m9) (C := RX8) (T := TX8) (N := 29) hx hb hts hinX8 hown hKK.1 hP 0 rfl rfl 8 (by decide) kl36 (fun _ h9 => h9) rfl dX8_pass_20 ?_
      refine lv_iconst (v := 1) hx hb dX8_pass_23 (by decide) ?_
      refine va_iald hx hb hKK.1 hP 9 0 rfl rfl (by unfold vp_in; decide) dX8_pass_24 ?_
      refine lv_icmp_ge (tgt := 225) hx hb dX8_pass_25 (by decide) (fun hc_8 => ?_) (fun hc_8 => ?_)
      · have hv := hv.1 hc_8
        refine lv_iconst (v := 0) hx hb dX8_pass_225 (by decide) ?_
        refine lv_istore_n (lv' := [(3, .int 0), (2, .int x2_2), (0, .ref m0), (1, .int x)]) hx hb dX8_pass_226 rfl hl (by decide) rfl (fun ls hl => ?_)
        obtain ⟨I227_11, μ227_12, hi0, hs_20⟩ := hv
        have Lm_22 : ∀ (n_21 : Nat) (fm1_9 : (Nat → Int64)) (x3_10 : Int32) (H : Heap) (locs : List Loc) (ls : Array Slot), μ227_12 fm1_9 x3_10 < n_21 → I227_11 fm1_9 x3_10 → va_P G.1 vwCl [(m0, .inr (8, [.ref m1, .ref m2, .ref m3, .ref m4, .ref m5, .ref m6, .ref m7, .ref m8, .ref m9, .int fu, .int fd, .int fi, .int nu, .int nw, .int nf, .int bf, .int bn, .ref m10, .int ts, .int ap, .int fs, .int ln, .int fo, .int fa, .ref m11, .ref m12, .ref m13, .ref m14, .int wr])), aJ G m1 560 fm1_9, aZ G m2 2 ik, aI G m3 20 zs, aI G m4 20 cl, aI G m5 20 hs, aI G m6 20 ks, aI G m7 20 wa, aI G m8 20 ne, aI G m9 4 mn, aI G m10 400 tx, aI G m11 6 th, aI G m12 6 od, aI G m13 30 bk, aI G m14 30 bh] H → va_D A [(m0, .inr (8, [.ref m1, .ref m2, .ref m3, .ref m4, .ref m5, .ref m6, .ref m7, .ref m8, .ref m9, .int fu, .int fd, .int fi, .int nu, .int nw, .int nf, .int bf, .int bn, .ref m10, .int ts, .int ap, .int fs, .int ln, .int fo, .int fa, .ref m11, .ref m12, .ref m13, .ref m14, .int wr])), aJ G m1 560 fm1_9, aZ G m2 2 ik, aI G m3 20 zs, aI G m4 20 cl, aI G m5 20 hs, aI G m6 20 ks, aI G m7 20 wa, aI G m8 20 ne, aI G m9 4 mn, aI G m10 400 tx, aI G m11 6 th, aI G m12 6 od, aI G m13 30 bk, aI G m14 30 bh] → va_S A s.heap H locs → lv_has ls 7 [(3, .int x3_10), (2, .int x2_2), (0, .ref m0), (1, .int x)] → W p l e R s m args below meth c H locs 0 0 Q (F0 m 227 ls []) := by
          intro n_21
          induction n_21 with
          | zero => intro fm1_9 x3_10 H locs ls hm; exact absurd hm (Nat.not_lt_zero _)
          | succ n_21 ih_13 =>
            intro fm1_9 x3_10 H locs ls hI_14 hi hP hD hS hl
            have hv := hs_20 fm1_9 x3_10 hi
            refine lv_iload_n hx hb dX8_pass_227 rfl (lv_at hl 0 rfl) ?_
            refine lv_aload_n hx hb dX8_pass_228 rfl (lv_at hl 2 rfl) ?_
            refine va_get (D := G.1) (ci := 8) (v := .ref m9) (C := RX8) (T := TX8) (N := 29) hx hb hts hinX8 hown hKK.1 hP 0 rfl rfl 8 (by decide) kl36 (fun _ h9 => h9) rfl dX8_pass_229 ?_
            refine lv_iconst (v := 0) hx hb dX8_pass_232 (by decide) ?_
            refine va_iald hx hb hKK.1 hP 9 0 rfl rfl (by unfold vp_in; decide) dX8_pass_233 ?_
            refine lv_icmp_ge (tgt := 315) hx hb dX8_pass_234 (by decide) (fun hc_15 => ?_) (fun hc_15 => ?_)
            · have hv := hv.1 hc_15
              refine lv_iload_n hx hb dX8_pass_315 rfl (lv_at hl 1 rfl) ?_
              exact x_iret (v := x2_2) fm1_9 hQ hx hb hr hlocks hS dX8_pass_316 hv hP hD
            · have hv := hv.2 hc_15
              refine lv_aload_n hx hb dX8_pass_237 rfl (lv_at hl 2 rfl) ?_
              refine lv_iload_n hx hb dX8_pass_238 rfl (lv_at hl 3 rfl) ?_
              refine lv_iload_n hx hb dX8_pass_239 rfl (lv_at hl 0 rfl) ?_
              obtain ⟨hp, hv⟩ := hv
              refine x_calliR (x_runV (As := [.int x, .int x3_10]) (rest := []) (n := 2) (C := RX8) (ci := 8) ⟨hx, hb, hml, hown, hts⟩ (k_X8_sitter l G m0 m1 m2 m3 m4 m5 m6 m7 m8 m9 m10 m11 m12 m13 m14 _ fm1_9 ik zs cl hs ks wa ne mn tx th od bk bh fu fd fi nu nw nf bf bn ts ap fs ln fo fa wr x x3_10 hp) gX8_pass_X8_sitter rfl (by decide +kernel) ⟨Nat.le_trans (Nat.le_of_ble_eq_true rfl) hRf, Nat.le_trans (Nat.le_of_ble_eq_true rfl) hRl⟩ hKK hSS hS hA hP hD [0, 1, 2, 3, 4, 5, 6, 7, 8, 9, 10, 11, 12, 13, 14] (by decide) rfl rfl rfl 0 rfl rfl hl.1 rfl (Nat.le_of_ble_eq_true rfl) dX8_pass_240) hP hD hS hA [0, 1, 2, 3, 4, 5, 6, 7, 8, 9, 10, 11, 12, 13, 14] rfl (fun r_16 _ H locs hw hP hS => ?_)
              have hv := hv r_16 hw
              refine lv_if_ge (tgt := 309) hx hb dX8_pass_243 (by decide) (fun hc_17 => ?_) (fun hc_17 => ?_)
              · have hv := hv.1 hc_17
                refine lv_iinc (v := (x3_10 + 1)) (lv' := [(3, .int (x3_10 + 1)), (2, .int x2_2), (0, .ref m0), (1, .int x)]) hx hb dX8_pass_309 hl (k := 0) rfl rfl (by decide) rfl (fun ls hl => ?_)
                refine lv_goto (tgt := 227) hx hb dX8_pass_312 (by decide) ?_
                exact ih_13 _ _ _ _ _ (Nat.lt_of_lt_of_le hv.2 (Nat.le_of_lt_succ hI_14)) hv.1 hP hD hS hl
              · have hv := hv.2 hc_17
                refine lv_aload_n hx hb dX8_pass_246 rfl (lv_at hl 2 rfl) ?_
                refine va_get (D := G.1) (ci := 8) (v := .ref m1) (C := RX8) (T := TX8) (N := 29) hx hb hts hinX8 hown hKK.1 hP 0 rfl rfl 0 (by decide) kl7 (fun _ h9 => h9) rfl dX8_pass_247 ?_
                refine lv_iload_n hx hb dX8_pass_250 rfl (lv_at hl 3 rfl) ?_
                refine lv_iload_n hx hb dX8_pass_251 rfl (lv_at hl 0 rfl) ?_
                refine lv_iadd hx hb dX8_pass_252 ?_
                obtain ⟨hin, hv⟩ := hv
                refine va_lald hx hb hKK.1 hP 1 2 rfl rfl hin dX8_pass_253 ?_
                refine lv_lconst (v := 0) hx hb dX8_pass_254 (by decide) ?_
                refine W.lcmp hx hb dX8_pass_255 ?_
                refine lv_if_le (tgt := 309) hx hb dX8_pass_256 (by decide) (fun hc_18 => ?_) (fun hc_18 => ?_)
                · have hv := hv.1 ((lg_cmp_le _ _).mp hc_18)
                  refine lv_iinc (v := (x3_10 + 1)) (lv' := [(3, .int (x3_10 + 1)), (2, .int x2_2), (0, .ref m0), (1, .int x)]) hx hb dX8_pass_309 hl (k := 0) rfl rfl (by decide) rfl (fun ls hl => ?_)
                  refine lv_goto (tgt := 227) hx hb dX8_pass_312 (by decide) ?_
                  exact ih_13 _ _ _ _ _ (Nat.lt_of_lt_of_le hv.2 (Nat.le_of_lt_succ hI_14)) hv.1 hP hD hS hl
                · have hv := hv.2 (fun h => hc_18 ((lg_cmp_le _ _).mpr h))
                  refine lv_lconst (v := 1) hx hb dX8_pass_259 (by decide) ?_
                  refine lv_aload_n hx hb dX8_pass_260 rfl (lv_at hl 2 rfl) ?_
                  refine va_get (D := G.1) (ci := 8) (v := .ref m1) (C := RX8) (T := TX8) (N := 29) hx hb hts hinX8 hown hKK.1 hP 0 rfl rfl 0 (by decide) kl7 (fun _ h9 => h9) rfl dX8_pass_261 ?_
                  refine lv_iload_n hx hb dX8_pass_264 rfl (lv_at hl 3 rfl) ?_
                  refine lv_iload_n hx hb dX8_pass_265 rfl (lv_at hl 0 rfl) ?_
                  refine lv_iadd hx hb dX8_pass_266 ?_
                  obtain ⟨hin, hv⟩ := hv
                  refine va_lald hx hb hKK.1 hP 1 2 rfl rfl hin dX8_pass_267 ?_
                  refine lv_aload_n hx hb dX8_pass_268 rfl (lv_at hl 2 rfl) ?_
                  refine va_get (D := G.1) (ci := 8) (v := .ref m4) (C := RX8) (T := TX8) (N := 29) hx hb hts hinX8 hown hKK.1 hP 0 rfl rfl 3 (by decide) kl21 (fun _ h9 => h9) rfl dX8_pass_269 ?_
                  refine lv_iload_n hx hb dX8_pass_272 rfl (lv_at hl 0 rfl) ?_
                  obtain ⟨hin, hv⟩ := hv
                  refine va_iald hx hb hKK.1 hP 4 0 rfl rfl hin dX8_pass_273 ?_
                  refine lv_i2l hx hb dX8_pass_274 rfl ?_
                  obtain ⟨hne, hv⟩ := hv
                  refine lv_ldiv hx hb dX8_pass_275 hne ?_
                  refine x_calllR (x_runS (As := [.long 1, .long ((fm1_9 (x + x3_10).toNatClampNeg) / (cl x3_10.toNatClampNeg).toInt64)]) (rest := []) (n := 2) ⟨hx, hb, hml, hown, hts⟩ (k_X8_greater l G  _ 1 ((fm1_9 (x + x3_10).toNatClampNeg) / (cl x3_10.toNatClampNeg).toInt64)) gX8_pass_X8_greater rfl (by decide +kernel) ⟨Nat.le_trans (Nat.le_of_ble_eq_true rfl) hRf, Nat.le_trans (Nat.le_of_ble_eq_true rfl) hRl⟩ hKK hSS hS hA hP hD [] (by decide) rfl rfl hl.1 rfl (Nat.le_of_ble_eq_true rfl) dX8_pass_276) hP hD hS hA [] rfl (fun r_19 _ H locs hw hP hS => ?_)
                  replace hw := hw.symm; subst hw
                  refine lv_lstore (lv' := [(4, .long (if ((fm1_9 (x + x3_10).toNatClampNeg) / (cl x3_10.toNatClampNeg).toInt64) < 1 then 1 else ((fm1_9 (x + x3_10).toNatClampNeg) / (cl x3_10.toNatClampNeg).toInt64))), (3, .int x3_10), (2, .int x2_2), (0, .ref m0), (1, .int x)]) hx hb dX8_pass_279 hl (by decide) rfl (fun ls hl => ?_)
                  refine lv_aload_n hx hb dX8_pass_281 rfl (lv_at hl 3 rfl) ?_
                  refine va_get (D := G.1) (ci := 8) (v := .ref m1) (C := RX8) (T := TX8) (N := 29) hx hb hts hinX8 hown hKK.1 hP 0 rfl rfl 0 (by decide) kl7 (fun _ h9 => h9) rfl dX8_pass_282 ?_
                  refine lv_iload_n hx hb dX8_pass_285 rfl (lv_at hl 4 rfl) ?_
                  refine lv_iload_n hx hb dX8_pass_286 rfl (lv_at hl 1 rfl) ?_
                  refine lv_iadd hx hb dX8_pass_287 ?_
                  refine lv_dup2_11 hx hb dX8_pass_288 rfl rfl ?_
                  obtain ⟨hin, hv⟩ := hv
                  refine va_lald hx hb hKK.1 hP 1 2 rfl rfl hin dX8_pass_289 ?_
                  refine lv_lload hx hb dX8_pass_290 (lv_at hl 0 rfl) ?_
                  refine lv_lsub hx hb dX8_pass_292 ?_
                  obtain ⟨hin, hv⟩ := hv
                  refine va_last hx hb hKK.1 hP hD hS 1 2 rfl rfl hin dX8_pass_293 (fun H locs hP hD hS => ?_)
                  have hP : va_P G.1 vwCl [(m0, .inr (8, [.ref m1, .ref m2, .ref m3, .ref m4, .ref m5, .ref m6, .ref m7, .ref m8, .ref m9, .int fu, .int fd, .int fi, .int nu, .int nw, .int nf, .int bf, .int bn, .ref m10, .int ts, .int ap, .int fs, .int ln, .int fo, .int fa, .ref m11, .ref m12, .ref m13, .ref m14, .int wr])), aJ G m1 560 (vp_updL fm1_9 ((x + x3_10).toNatClampNeg) ((fm1_9 (x + x3_10).toNatClampNeg) - (if ((fm1_9 (x + x3_10).toNatClampNeg) / (cl x3_10.toNatClampNeg).toInt64) < 1 then 1 else ((fm1_9 (x + x3_10).toNatClampNeg) / (cl x3_10.toNatClampNeg).toInt64)))), aZ G m2 2 ik, aI G m3 20 zs, aI G m4 20 cl, aI G m5 20 hs, aI G m6 20 ks, aI G m7 20 wa, aI G m8 20 ne, aI G m9 4 mn, aI G m10 400 tx, aI G m11 6 th, aI G m12 6 od, aI G m13 30 bk, aI G m14 30 bh] H := hP
                  have hD : va_D A [(m0, .inr (8, [.ref m1, .ref m2, .ref m3, .ref m4, .ref m5, .ref m6, .ref m7, .ref m8, .ref m9, .int fu, .int fd, .int fi, .int nu, .int nw, .int nf, .int bf, .int bn, .ref m10, .int ts, .int ap, .int fs, .int ln, .int fo, .int fa, .ref m11, .ref m12, .ref m13, .ref m14, .int wr])), aJ G m1 560 (vp_updL fm1_9 ((x + x3_10).toNatClampNeg) ((fm1_9 (x + x3_10).toNatClampNeg) - (if ((fm1_9 (x + x3_10).toNatClampNeg) / (cl x3_10.toNatClampNeg).toInt64) < 1 then 1 else ((fm1_9 (x + x3_10).toNatClampNeg) / (cl x3_10.toNatClampNeg).toInt64)))), aZ G m2 2 ik, aI G m3 20 zs, aI G m4 20 cl, aI G m5 20 hs, aI G m6 20 ks, aI G m7 20 wa, aI G m8 20 ne, aI G m9 4 mn, aI G m10 400 tx, aI G m11 6 th, aI G m12 6 od, aI G m13 30 bk, aI G m14 30 bh] := hD
                  refine lv_aload_n hx hb dX8_pass_294 rfl (lv_at hl 3 rfl) ?_
                  refine va_get (D := G.1) (ci := 8) (v := .ref m1) (C := RX8) (T := TX8) (N := 29) hx hb hts hinX8 hown hKK.1 hP 0 rfl rfl 0 (by decide) kl7 (fun _ h9 => h9) rfl dX8_pass_295 ?_
                  refine lv_iload_n hx hb dX8_pass_298 rfl (lv_at hl 4 rfl) ?_
                  refine lv_sipush (v := 134) hx hb dX8_pass_299 (by decide) ?_
                  refine lv_iadd hx hb dX8_pass_302 ?_
                  refine lv_dup2_11 hx hb dX8_pass_303 rfl rfl ?_
                  obtain ⟨hin, hv⟩ := hv
                  refine va_lald hx hb hKK.1 hP 1 2 rfl rfl hin dX8_pass_304 ?_
                  refine lv_lload hx hb dX8_pass_305 (lv_at hl 0 rfl) ?_
                  refine lv_ladd hx hb dX8_pass_307 ?_
                  obtain ⟨hin, hv⟩ := hv
                  refine va_last hx hb hKK.1 hP hD hS 1 2 rfl rfl hin dX8_pass_308 (fun H locs hP hD hS => ?_)
                  have hP : va_P G.1 vwCl [(m0, .inr (8, [.ref m1, .ref m2, .ref m3, .ref m4, .ref m5, .ref m6, .ref m7, .ref m8, .ref m9, .int fu, .int fd, .int fi, .int nu, .int nw, .int nf, .int bf, .int bn, .ref m10, .int ts, .int ap, .int fs, .int ln, .int fo, .int fa, .ref m11, .ref m12, .ref m13, .ref m14, .int wr])), aJ G m1 560 (vp_updL (vp_updL fm1_9 ((x + x3_10).toNatClampNeg) ((fm1_9 (x + x3_10).toNatClampNeg) - (if ((fm1_9 (x + x3_10).toNatClampNeg) / (cl x3_10.toNatClampNeg).toInt64) < 1 then 1 else ((fm1_9 (x + x3_10).toNatClampNeg) / (cl x3_10.toNatClampNeg).toInt64)))) ((x + 134).toNatClampNeg) (((vp_updL fm1_9 ((x + x3_10).toNatClampNeg) ((fm1_9 (x + x3_10).toNatClampNeg) - (if ((fm1_9 (x + x3_10).toNatClampNeg) / (cl x3_10.toNatClampNeg).toInt64) < 1 then 1 else ((fm1_9 (x + x3_10).toNatClampNeg) / (cl x3_10.toNatClampNeg).toInt64)))) (x + 134).toNatClampNeg) + (if ((fm1_9 (x + x3_10).toNatClampNeg) / (cl x3_10.toNatClampNeg).toInt64) < 1 then 1 else ((fm1_9 (x + x3_10).toNatClampNeg) / (cl x3_10.toNatClampNeg).toInt64)))), aZ G m2 2 ik, aI G m3 20 zs, aI G m4 20 cl, aI G m5 20 hs, aI G m6 20 ks, aI G m7 20 wa, aI G m8 20 ne, aI G m9 4 mn, aI G m10 400 tx, aI G m11 6 th, aI G m12 6 od, aI G m13 30 bk, aI G m14 30 bh] H := hP
                  have hD : va_D A [(m0, .inr (8, [.ref m1, .ref m2, .ref m3, .ref m4, .ref m5, .ref m6, .ref m7, .ref m8, .ref m9, .int fu, .int fd, .int fi, .int nu, .int nw, .int nf, .int bf, .int bn, .ref m10, .int ts, .int ap, .int fs, .int ln, .int fo, .int fa, .ref m11, .ref m12, .ref m13, .ref m14, .int wr])), aJ G m1 560 (vp_updL (vp_updL fm1_9 ((x + x3_10).toNatClampNeg) ((fm1_9 (x + x3_10).toNatClampNeg) - (if ((fm1_9 (x + x3_10).toNatClampNeg) / (cl x3_10.toNatClampNeg).toInt64) < 1 then 1 else ((fm1_9 (x + x3_10).toNatClampNeg) / (cl x3_10.toNatClampNeg).toInt64)))) ((x + 134).toNatClampNeg) (((vp_updL fm1_9 ((x + x3_10).toNatClampNeg) ((fm1_9 (x + x3_10).toNatClampNeg) - (if ((fm1_9 (x + x3_10).toNatClampNeg) / (cl x3_10.toNatClampNeg).toInt64) < 1 then 1 else ((fm1_9 (x + x3_10).toNatClampNeg) / (cl x3_10.toNatClampNeg).toInt64)))) (x + 134).toNatClampNeg) + (if ((fm1_9 (x + x3_10).toNatClampNeg) / (cl x3_10.toNatClampNeg).toInt64) < 1 then 1 else ((fm1_9 (x + x3_10).toNatClampNeg) / (cl x3_10.toNatClampNeg).toInt64)))), aZ G m2 2 ik, aI G m3 20 zs, aI G m4 20 cl, aI G m5 20 hs, aI G m6 20 ks, aI G m7 20 wa, aI G m8 20 ne, aI G m9 4 mn, aI G m10 400 tx, aI G m11 6 th, aI G m12 6 od, aI G m13 30 bk, aI G m14 30 bh] := hD
                  refine lv_iinc (v := (x3_10 + 1)) (lv' := [(3, .int (x3_10 + 1)), (4, .long (if ((fm1_9 (x + x3_10).toNatClampNeg) / (cl x3_10.toNatClampNeg).toInt64) < 1 then 1 else ((fm1_9 (x + x3_10).toNatClampNeg) / (cl x3_10.toNatClampNeg).toInt64))), (2, .int x2_2), (0, .ref m0), (1, .int x)]) hx hb dX8_pass_309 hl (k := 1) rfl rfl (by decide) rfl (fun ls hl => ?_)
                  refine lv_goto (tgt := 227) hx hb dX8_pass_312 (by decide) ?_
                  exact ih_13 _ _ _ _ _ (Nat.lt_of_lt_of_le hv.2 (Nat.le_of_lt_succ hI_14)) hv.1 hP hD hS (lv_sub hl [0, 2, 3, 4] rfl)
        exact Lm_22 _ _ _ _ _ _ (Nat.lt_succ_self _) hi0 hP hD hS hl
      · have hv := hv.2 hc_8
        refine lv_aload_n hx hb dX8_pass_28 rfl (lv_at hl 2 rfl) ?_
        refine va_get (D := G.1) (ci := 8) (v := .ref m1) (C := RX8) (T := TX8) (N := 29) hx hb hts hinX8 hown hKK.1 hP 0 rfl rfl 0 (by decide) kl7 (fun _ h9 => h9) rfl dX8_pass_29 ?_
        refine lv_iload_n hx hb dX8_pass_32 rfl (lv_at hl 3 rfl) ?_
        refine lv_bipush (v := 20) hx hb dX8_pass_33 (by decide) ?_
        refine lv_iadd hx hb dX8_pass_35 ?_
        refine lv_iload_n hx hb dX8_pass_36 rfl (lv_at hl 0 rfl) ?_
        refine lv_iadd hx hb dX8_pass_37 ?_
        obtain ⟨hin, hv⟩ := hv
        refine va_lald hx hb hKK.1 hP 1 2 rfl rfl hin dX8_pass_38 ?_
        refine lv_lconst (v := 0) hx hb dX8_pass_39 (by decide) ?_
        refine W.lcmp hx hb dX8_pass_40 ?_
        refine lv_if_lt (tgt := 48) hx hb dX8_pass_41 (by decide) (fun hc_23 => ?_) (fun hc_23 => ?_)
        · have hv := hv.1 ((lg_cmp_lt _ _).mp hc_23)
          refine lv_iconst (v := 0) hx hb dX8_pass_48 (by decide) ?_
          refine lv_istore (lv' := [(4, .int 0), (3, .int x3_3), (2, .int x2_2), (0, .ref m0), (1, .int x)]) hx hb dX8_pass_49 hl (by decide) rfl (fun ls hl => ?_)
          refine lv_iload hx hb dX8_pass_51 (lv_at hl 0 rfl) ?_
          refine lv_if_eq (tgt := 77) hx hb dX8_pass_53 (by decide) (fun hc_24 => ?_) (fun hc_24 => absurd (by decide) hc_24)
          refine lv_aload_n hx hb dX8_pass_77 rfl (lv_at hl 3 rfl) ?_
          refine va_get (D := G.1) (ci := 8) (v := .ref m1) (C := RX8) (T := TX8) (N := 29) hx hb hts hinX8 hown hKK.1 hP 0 rfl rfl 0 (by decide) kl7 (fun _ h9 => h9) rfl dX8_pass_78 ?_
          refine lv_iload_n hx hb dX8_pass_81 rfl (lv_at hl 4 rfl) ?_
          refine lv_bipush (v := 50) hx hb dX8_pass_82 (by decide) ?_
          refine lv_iadd hx hb dX8_pass_84 ?_
          refine lv_iload_n hx hb dX8_pass_85 rfl (lv_at hl 1 rfl) ?_
          refine lv_iadd hx hb dX8_pass_86 ?_
          refine lv_dup2_11 hx hb dX8_pass_87 rfl rfl ?_
          obtain ⟨hin, hv⟩ := hv
          refine va_lald hx hb hKK.1 hP 1 2 rfl rfl hin dX8_pass_88 ?_
          refine lv_aload_n hx hb dX8_pass_89 rfl (lv_at hl 3 rfl) ?_
          refine va_get (D := G.1) (ci := 8) (v := .int fi) (C := RX8) (T := TX8) (N := 29) hx hb hts hinX8 hown hKK.1 hP 0 rfl rfl 11 (by decide) kl146 (fun _ h9 => h9) rfl dX8_pass_90 ?_
          refine lv_i2l hx hb dX8_pass_93 rfl ?_
          refine lv_ladd hx hb dX8_pass_94 ?_
          obtain ⟨hin, hv⟩ := hv
          refine va_last hx hb hKK.1 hP hD hS 1 2 rfl rfl hin dX8_pass_95 (fun H locs hP hD hS => ?_)
          have hP : va_P G.1 vwCl [(m0, .inr (8, [.ref m1, .ref m2, .ref m3, .ref m4, .ref m5, .ref m6, .ref m7, .ref m8, .ref m9, .int fu, .int fd, .int fi, .int nu, .int nw, .int nf, .int bf, .int bn, .ref m10, .int ts, .int ap, .int fs, .int ln, .int fo, .int fa, .ref m11, .ref m12, .ref m13, .ref m14, .int wr])), aJ G m1 560 (vp_updL fm1_1 (((x + 50) + x3_3).toNatClampNeg) ((fm1_1 ((x + 50) + x3_3).toNatClampNeg) + fi.toInt64)), aZ G m2 2 ik, aI G m3 20 zs, aI G m4 20 cl, aI G m5 20 hs, aI G m6 20 ks, aI G m7 20 wa, aI G m8 20 ne, aI G m9 4 mn, aI G m10 400 tx, aI G m11 6 th, aI G m12 6 od, aI G m13 30 bk, aI G m14 30 bh] H := hP
          have hD : va_D A [(m0, .inr (8, [.ref m1, .ref m2, .ref m3, .ref m4, .ref m5, .ref m6, .ref m7, .ref m8, .ref m9, .int fu, .int fd, .int fi, .int nu, .int nw, .int nf, .int bf, .int bn, .ref m10, .int ts, .int ap, .int fs, .int ln, .int fo, .int fa, .ref m11, .ref m12, .ref m13, .ref m14, .int wr])), aJ G m1 560 (vp_updL fm1_1 (((x + 50) + x3_3).toNatClampNeg) ((fm1_1 ((x + 50) + x3_3).toNatClampNeg) + fi.toInt64)), aZ G m2 2 ik, aI G m3 20 zs, aI G m4 20 cl, aI G m5 20 hs, aI G m6 20 ks, aI G m7 20 wa, aI G m8 20 ne, aI G m9 4 mn, aI G m10 400 tx, aI G m11 6 th, aI G m12 6 od, aI G m13 30 bk, aI G m14 30 bh] := hD
          refine lv_aload_n hx hb dX8_pass_96 rfl (lv_at hl 3 rfl) ?_
          refine va_get (D := G.1) (ci := 8) (v := .ref m6) (C := RX8) (T := TX8) (N := 29) hx hb hts hinX8 hown hKK.1 hP 0 rfl rfl 5 (by decide) kl27 (fun _ h9 => h9) rfl dX8_pass_97 ?_
          refine lv_iload_n hx hb dX8_pass_100 rfl (lv_at hl 1 rfl) ?_
          obtain ⟨hin, hv⟩ := hv
          refine va_iald hx hb hKK.1 hP 6 0 rfl rfl hin dX8_pass_101 ?_
          refine lv_iconst (v := 4) hx hb dX8_pass_102 (by decide) ?_
          refine lv_icmp_ne (tgt := 116) hx hb dX8_pass_103 (by decide) (fun hc_25 => ?_) (fun hc_25 => ?_)
          · have hv := hv.1 hc_25
            refine lv_iload hx hb dX8_pass_116 (lv_at hl 0 rfl) ?_
            refine lv_if_eq (tgt := 129) hx hb dX8_pass_118 (by decide) (fun hc_26 => ?_) (fun hc_26 => absurd (by decide) hc_26)
            refine lv_aload_n hx hb dX8_pass_129 rfl (lv_at hl 3 rfl) ?_
            refine va_get (D := G.1) (ci := 8) (v := .int fu) (C := RX8) (T := TX8) (N := 29) hx hb hts hinX8 hown hKK.1 hP 0 rfl rfl 9 (by decide) kl39 (fun _ h9 => h9) rfl dX8_pass_130 ?_
            refine lv_i2l hx hb dX8_pass_133 rfl ?_
            refine lv_aload_n hx hb dX8_pass_134 rfl (lv_at hl 3 rfl) ?_
            refine va_get (D := G.1) (ci := 8) (v := .ref m1) (C := RX8) (T := TX8) (N := 29) hx hb hts hinX8 hown hKK.1 hP 0 rfl rfl 0 (by decide) kl7 (fun _ h9 => h9) rfl dX8_pass_135 ?_
            refine lv_iload_n hx hb dX8_pass_138 rfl (lv_at hl 4 rfl) ?_
            refine lv_bipush (v := 10) hx hb dX8_pass_139 (by decide) ?_
            refine lv_iadd hx hb dX8_pass_141 ?_
            refine lv_iload_n hx hb dX8_pass_142 rfl (lv_at hl 1 rfl) ?_
            refine lv_iadd hx hb dX8_pass_143 ?_
            obtain ⟨hin, hv⟩ := hv
            refine va_lald hx hb hKK.1 hP 1 2 rfl rfl hin dX8_pass_144 ?_
            refine x_calllR (x_runS (As := [.long fu.toInt64, .long ((vp_updL fm1_1 (((x + 50) + x3_3).toNatClampNeg) ((fm1_1 ((x + 50) + x3_3).toNatClampNeg) + fi.toInt64)) ((x + 10) + x3_3).toNatClampNeg)]) (rest := []) (n := 2) ⟨hx, hb, hml, hown, hts⟩ (k_X8_less l G  _ fu.toInt64 ((vp_updL fm1_1 (((x + 50) + x3_3).toNatClampNeg) ((fm1_1 ((x + 50) + x3_3).toNatClampNeg) + fi.toInt64)) ((x + 10) + x3_3).toNatClampNeg)) gX8_pass_X8_less rfl (by decide +kernel) ⟨Nat.le_trans (Nat.le_of_ble_eq_true rfl) hRf, Nat.le_trans (Nat.le_of_ble_eq_true rfl) hRl⟩ hKK hSS hS hA hP hD [] (by decide) rfl rfl hl.1 rfl (Nat.le_of_ble_eq_true rfl) dX8_pass_145) hP hD hS hA [] rfl (fun r_27 _ H locs hw hP hS => ?_)
            replace hw := hw.symm; subst hw
            refine lv_lstore (lv' := [(5, .long (if fu.toInt64 < ((vp_updL fm1_1 (((x + 50) + x3_3).toNatClampNeg) ((fm1_1 ((x + 50) + x3_3).toNatClampNeg) + fi.toInt64)) ((x + 10) + x3_3).toNatClampNeg) then fu.toInt64 else ((vp_updL fm1_1 (((x + 50) + x3_3).toNatClampNeg) ((fm1_1 ((x + 50) + x3_3).toNatClampNeg) + fi.toInt64)) ((x + 10) + x3_3).toNatClampNeg))), (4, .int 0), (3, .int x3_3), (2, .int x2_2), (0, .ref m0), (1, .int x)]) hx hb dX8_pass_148 hl (by decide) rfl (fun ls hl => ?_)
            refine lv_aload_n hx hb dX8_pass_150 rfl (lv_at hl 4 rfl) ?_
            refine va_get (D := G.1) (ci := 8) (v := .ref m1) (C := RX8) (T := TX8) (N := 29) hx hb hts hinX8 hown hKK.1 hP 0 rfl rfl 0 (by decide) kl7 (fun _ h9 => h9) rfl dX8_pass_151 ?_
            refine lv_iload_n hx hb dX8_pass_154 rfl (lv_at hl 5 rfl) ?_
            refine lv_bipush (v := 10) hx hb dX8_pass_155 (by decide) ?_
            refine lv_iadd hx hb dX8_pass_157 ?_
            refine lv_iload_n hx hb dX8_pass_158 rfl (lv_at hl 2 rfl) ?_
            refine lv_iadd hx hb dX8_pass_159 ?_
            refine lv_dup2_11 hx hb dX8_pass_160 rfl rfl ?_
            obtain ⟨hin, hv⟩ := hv
            refine va_lald hx hb hKK.1 hP 1 2 rfl rfl hin dX8_pass_161 ?_
            refine lv_lload hx hb dX8_pass_162 (lv_at hl 0 rfl) ?_
            refine lv_lsub hx hb dX8_pass_164 ?_
            obtain ⟨hin, hv⟩ := hv
            refine va_last hx hb hKK.1 hP hD hS 1 2 rfl rfl hin dX8_pass_165 (fun H locs hP hD hS => ?_)
            have hP : va_P G.1 vwCl [(m0, .inr (8, [.ref m1, .ref m2, .ref m3, .ref m4, .ref m5, .ref m6, .ref m7, .ref m8, .ref m9, .int fu, .int fd, .int fi, .int nu, .int nw, .int nf, .int bf, .int bn, .ref m10, .int ts, .int ap, .int fs, .int ln, .int fo, .int fa, .ref m11, .ref m12, .ref m13, .ref m14, .int wr])), aJ G m1 560 (vp_updL (vp_updL fm1_1 (((x + 50) + x3_3).toNatClampNeg) ((fm1_1 ((x + 50) + x3_3).toNatClampNeg) + fi.toInt64)) (((x + 10) + x3_3).toNatClampNeg) (((vp_updL fm1_1 (((x + 50) + x3_3).toNatClampNeg) ((fm1_1 ((x + 50) + x3_3).toNatClampNeg) + fi.toInt64)) ((x + 10) + x3_3).toNatClampNeg) - (if fu.toInt64 < ((vp_updL fm1_1 (((x + 50) + x3_3).toNatClampNeg) ((fm1_1 ((x + 50) + x3_3).toNatClampNeg) + fi.toInt64)) ((x + 10) + x3_3).toNatClampNeg) then fu.toInt64 else ((vp_updL fm1_1 (((x + 50) + x3_3).toNatClampNeg) ((fm1_1 ((x + 50) + x3_3).toNatClampNeg) + fi.toInt64)) ((x + 10) + x3_3).toNatClampNeg)))), aZ G m2 2 ik, aI G m3 20 zs, aI G m4 20 cl, aI G m5 20 hs, aI G m6 20 ks, aI G m7 20 wa, aI G m8 20 ne, aI G m9 4 mn, aI G m10 400 tx, aI G m11 6 th, aI G m12 6 od, aI G m13 30 bk, aI G m14 30 bh] H := hP
            have hD : va_D A [(m0, .inr (8, [.ref m1, .ref m2, .ref m3, .ref m4, .ref m5, .ref m6, .ref m7, .ref m8, .ref m9, .int fu, .int fd, .int fi, .int nu, .int nw, .int nf, .int bf, .int bn, .ref m10, .int ts, .int ap, .int fs, .int ln, .int fo, .int fa, .ref m11, .ref m12, .ref m13, .ref m14, .int wr])), aJ G m1 560 (vp_updL (vp_updL fm1_1 (((x + 50) + x3_3).toNatClampNeg) ((fm1_1 ((x + 50) + x3_3).toNatClampNeg) + fi.toInt64)) (((x + 10) + x3_3).toNatClampNeg) (((vp_updL fm1_1 (((x + 50) + x3_3).toNatClampNeg) ((fm1_1 ((x + 50) + x3_3).toNatClampNeg) + fi.toInt64)) ((x + 10) + x3_3).toNatClampNeg) - (if fu.toInt64 < ((vp_updL fm1_1 (((x + 50) + x3_3).toNatClampNeg) ((fm1_1 ((x + 50) + x3_3).toNatClampNeg) + fi.toInt64)) ((x + 10) + x3_3).toNatClampNeg) then fu.toInt64 else ((vp_updL fm1_1 (((x + 50) + x3_3).toNatClampNeg) ((fm1_1 ((x + 50) + x3_3).toNatClampNeg) + fi.toInt64)) ((x + 10) + x3_3).toNatClampNeg)))), aZ G m2 2 ik, aI G m3 20 zs, aI G m4 20 cl, aI G m5 20 hs, aI G m6 20 ks, aI G m7 20 wa, aI G m8 20 ne, aI G m9 4 mn, aI G m10 400 tx, aI G m11 6 th, aI G m12 6 od, aI G m13 30 bk, aI G m14 30 bh] := hD
            refine lv_aload_n hx hb dX8_pass_166 rfl (lv_at hl 4 rfl) ?_
            refine va_get (D := G.1) (ci := 8) (v := .ref m1) (C := RX8) (T := TX8) (N := 29) hx hb hts hinX8 hown hKK.1 hP 0 rfl rfl 0 (by decide) kl7 (fun _ h9 => h9) rfl dX8_pass_167 ?_
            refine lv_iload_n hx hb dX8_pass_170 rfl (lv_at hl 5 rfl) ?_
            refine lv_sipush (v := 134) hx hb dX8_pass_171 (by decide) ?_
            refine lv_iadd hx hb dX8_pass_174 ?_
            refine lv_dup2_11 hx hb dX8_pass_175 rfl rfl ?_
            obtain ⟨hin, hv⟩ := hv
            refine va_lald hx hb hKK.1 hP 1 2 rfl rfl hin dX8_pass_176 ?_
            refine lv_lload hx hb dX8_pass_177 (lv_at hl 0 rfl) ?_
            refine lv_ladd hx hb dX8_pass_179 ?_
            obtain ⟨hin, hv⟩ := hv
            refine va_last hx hb hKK.1 hP hD hS 1 2 rfl rfl hin dX8_pass_180 (fun H locs hP hD hS => ?_)
            have hP : va_P G.1 vwCl [(m0, .inr (8, [.ref m1, .ref m2, .ref m3, .ref m4, .ref m5, .ref m6, .ref m7, .ref m8, .ref m9, .int fu, .int fd, .int fi, .int nu, .int nw, .int nf, .int bf, .int bn, .ref m10, .int ts, .int ap, .int fs, .int ln, .int fo, .int fa, .ref m11, .ref m12, .ref m13, .ref m14, .int wr])), aJ G m1 560 (vp_updL (vp_updL (vp_updL fm1_1 (((x + 50) + x3_3).toNatClampNeg) ((fm1_1 ((x + 50) + x3_3).toNatClampNeg) + fi.toInt64)) (((x + 10) + x3_3).toNatClampNeg) (((vp_updL fm1_1 (((x + 50) + x3_3).toNatClampNeg) ((fm1_1 ((x + 50) + x3_3).toNatClampNeg) + fi.toInt64)) ((x + 10) + x3_3).toNatClampNeg) - (if fu.toInt64 < ((vp_updL fm1_1 (((x + 50) + x3_3).toNatClampNeg) ((fm1_1 ((x + 50) + x3_3).toNatClampNeg) + fi.toInt64)) ((x + 10) + x3_3).toNatClampNeg) then fu.toInt64 else ((vp_updL fm1_1 (((x + 50) + x3_3).toNatClampNeg) ((fm1_1 ((x + 50) + x3_3).toNatClampNeg) + fi.toInt64)) ((x + 10) + x3_3).toNatClampNeg)))) ((x + 134).toNatClampNeg) (((vp_updL (vp_updL fm1_1 (((x + 50) + x3_3).toNatClampNeg) ((fm1_1 ((x + 50) + x3_3).toNatClampNeg) + fi.toInt64)) (((x + 10) + x3_3).toNatClampNeg) (((vp_updL fm1_1 (((x + 50) + x3_3).toNatClampNeg) ((fm1_1 ((x + 50) + x3_3).toNatClampNeg) + fi.toInt64)) ((x + 10) + x3_3).toNatClampNeg) - (if fu.toInt64 < ((vp_updL fm1_1 (((x + 50) + x3_3).toNatClampNeg) ((fm1_1 ((x + 50) + x3_3).toNatClampNeg) + fi.toInt64)) ((x + 10) + x3_3).toNatClampNeg) then fu.toInt64 else ((vp_updL fm1_1 (((x + 50) + x3_3).toNatClampNeg) ((fm1_1 ((x + 50) + x3_3).toNatClampNeg) + fi.toInt64)) ((x + 10) + x3_3).toNatClampNeg)))) (x + 134).toNatClampNeg) + (if fu.toInt64 < ((vp_updL fm1_1 (((x + 50) + x3_3).toNatClampNeg) ((fm1_1 ((x + 50) + x3_3).toNatClampNeg) + fi.toInt64)) ((x + 10) + x3_3).toNatClampNeg) then fu.toInt64 else ((vp_updL fm1_1 (((x + 50) + x3_3).toNatClampNeg) ((fm1_1 ((x + 50) + x3_3).toNatClampNeg) + fi.toInt64)) ((x + 10) + x3_3).toNatClampNeg)))), aZ G m2 2 ik, aI G m3 20 zs, aI G m4 20 cl, aI G m5 20 hs, aI G m6 20 ks, aI G m7 20 wa, aI G m8 20 ne, aI G m9 4 mn, aI G m10 400 tx, aI G m11 6 th, aI G m12 6 od, aI G m13 30 bk, aI G m14 30 bh] H := hP
            have hD : va_D A [(m0, .inr (8, [.ref m1, .ref m2, .ref m3, .ref m4, .ref m5, .ref m6, .ref m7, .ref m8, .ref m9, .int fu, .int fd, .int fi, .int nu, .int nw, .int nf, .int bf, .int bn, .ref m10, .int ts, .int ap, .int fs, .int ln, .int fo, .int fa, .ref m11, .ref m12, .ref m13, .ref m14, .int wr])), aJ G m1 560 (vp_updL (vp_updL (vp_updL fm1_1 (((x + 50) + x3_3).toNatClampNeg) ((fm1_1 ((x + 50) + x3_3).toNatClampNeg) + fi.toInt64)) (((x + 10) + x3_3).toNatClampNeg) (((vp_updL fm1_1 (((x + 50) + x3_3).toNatClampNeg) ((fm1_1 ((x + 50) + x3_3).toNatClampNeg) + fi.toInt64)) ((x + 10) + x3_3).toNatClampNeg) - (if fu.toInt64 < ((vp_updL fm1_1 (((x + 50) + x3_3).toNatClampNeg) ((fm1_1 ((x + 50) + x3_3).toNatClampNeg) + fi.toInt64)) ((x + 10) + x3_3).toNatClampNeg) then fu.toInt64 else ((vp_updL fm1_1 (((x + 50) + x3_3).toNatClampNeg) ((fm1_1 ((x + 50) + x3_3).toNatClampNeg) + fi.toInt64)) ((x + 10) + x3_3).toNatClampNeg)))) ((x + 134).toNatClampNeg) (((vp_updL (vp_updL fm1_1 (((x + 50) + x3_3).toNatClampNeg) ((fm1_1 ((x + 50) + x3_3).toNatClampNeg) + fi.toInt64)) (((x + 10) + x3_3).toNatClampNeg) (((vp_updL fm1_1 (((x + 50) + x3_3).toNatClampNeg) ((fm1_1 ((x + 50) + x3_3).toNatClampNeg) + fi.toInt64)) ((x + 10) + x3_3).toNatClampNeg) - (if fu.toInt64 < ((vp_updL fm1_1 (((x + 50) + x3_3).toNatClampNeg) ((fm1_1 ((x + 50) + x3_3).toNatClampNeg) + fi.toInt64)) ((x + 10) + x3_3).toNatClampNeg) then fu.toInt64 else ((vp_updL fm1_1 (((x + 50) + x3_3).toNatClampNeg) ((fm1_1 ((x + 50) + x3_3).toNatClampNeg) + fi.toInt64)) ((x + 10) + x3_3).toNatClampNeg)))) (x + 134).toNatClampNeg) + (if fu.toInt64 < ((vp_updL fm1_1 (((x + 50) + x3_3).toNatClampNeg) ((fm1_1 ((x + 50) + x3_3).toNatClampNeg) + fi.toInt64)) ((x + 10) + x3_3).toNatClampNeg) then fu.toInt64 else ((vp_updL fm1_1 (((x + 50) + x3_3).toNatClampNeg) ((fm1_1 ((x + 50) + x3_3).toNatClampNeg) + fi.toInt64)) ((x + 10) + x3_3).toNatClampNeg)))), aZ G m2 2 ik, aI G m3 20 zs, aI G m4 20 cl, aI G m5 20 hs, aI G m6 20 ks, aI G m7 20 wa, aI G m8 20 ne, aI G m9 4 mn, aI G m10 400 tx, aI G m11 6 th, aI G m12 6 od, aI G m13 30 bk, aI G m14 30 bh] := hD
            refine lv_aload_n hx hb dX8_pass_181 rfl (lv_at hl 4 rfl) ?_
            refine va_get (D := G.1) (ci := 8) (v := .ref m1) (C := RX8) (T := TX8) (N := 29) hx hb hts hinX8 hown hKK.1 hP 0 rfl rfl 0 (by decide) kl7 (fun _ h9 => h9) rfl dX8_pass_182 ?_
            refine lv_iload_n hx hb dX8_pass_185 rfl (lv_at hl 5 rfl) ?_
            refine lv_bipush (v := 30) hx hb dX8_pass_186 (by decide) ?_
            refine lv_iadd hx hb dX8_pass_188 ?_
            refine lv_iload_n hx hb dX8_pass_189 rfl (lv_at hl 2 rfl) ?_
            refine lv_iadd hx hb dX8_pass_190 ?_
            refine lv_dup2_11 hx hb dX8_pass_191 rfl rfl ?_
            obtain ⟨hin, hv⟩ := hv
            refine va_lald hx hb hKK.1 hP 1 2 rfl rfl hin dX8_pass_192 ?_
            refine lv_aload_n hx hb dX8_pass_193 rfl (lv_at hl 4 rfl) ?_
            refine lv_iload_n hx hb dX8_pass_194 rfl (lv_at hl 5 rfl) ?_
            refine lv_iload_n hx hb dX8_pass_195 rfl (lv_at hl 2 rfl) ?_
            obtain ⟨hp, hv⟩ := hv
            refine x_calliR (x_runV (As := [.int x, .int x3_3]) (rest := [.long ((vp_updL (vp_updL (vp_updL fm1_1 (((x + 50) + x3_3).toNatClampNeg) ((fm1_1 ((x + 50) + x3_3).toNatClampNeg) + fi.toInt64)) (((x + 10) + x3_3).toNatClampNeg) (((vp_updL fm1_1 (((x + 50) + x3_3).toNatClampNeg) ((fm1_1 ((x + 50) + x3_3).toNatClampNeg) + fi.toInt64)) ((x + 10) + x3_3).toNatClampNeg) - (if fu.toInt64 < ((vp_updL fm1_1 (((x + 50) + x3_3).toNatClampNeg) ((fm1_1 ((x + 50) + x3_3).toNatClampNeg) + fi.toInt64)) ((x + 10) + x3_3).toNatClampNeg) then fu.toInt64 else ((vp_updL fm1_1 (((x + 50) + x3_3).toNatClampNeg) ((fm1_1 ((x + 50) + x3_3).toNatClampNeg) + fi.toInt64)) ((x + 10) + x3_3).toNatClampNeg)))) ((x + 134).toNatClampNeg) (((vp_updL (vp_updL fm1_1 (((x + 50) + x3_3).toNatClampNeg) ((fm1_1 ((x + 50) + x3_3).toNatClampNeg) + fi.toInt64)) (((x + 10) + x3_3).toNatClampNeg) (((vp_updL fm1_1 (((x + 50) + x3_3).toNatClampNeg) ((fm1_1 ((x + 50) + x3_3).toNatClampNeg) + fi.toInt64)) ((x + 10) + x3_3).toNatClampNeg) - (if fu.toInt64 < ((vp_updL fm1_1 (((x + 50) + x3_3).toNatClampNeg) ((fm1_1 ((x + 50) + x3_3).toNatClampNeg) + fi.toInt64)) ((x + 10) + x3_3).toNatClampNeg) then fu.toInt64 else ((vp_updL fm1_1 (((x + 50) + x3_3).toNatClampNeg) ((fm1_1 ((x + 50) + x3_3).toNatClampNeg) + fi.toInt64)) ((x + 10) + x3_3).toNatClampNeg)))) (x + 134).toNatClampNeg) + (if fu.toInt64 < ((vp_updL fm1_1 (((x + 50) + x3_3).toNatClampNeg) ((fm1_1 ((x + 50) + x3_3).toNatClampNeg) + fi.toInt64)) ((x + 10) + x3_3).toNatClampNeg) then fu.toInt64 else ((vp_updL fm1_1 (((x + 50) + x3_3).toNatClampNeg) ((fm1_1 ((x + 50) + x3_3).toNatClampNeg) + fi.toInt64)) ((x + 10) + x3_3).toNatClampNeg)))) ((x + 30) + x3_3).toNatClampNeg), .int ((x + 30) + x3_3), .ref m1]) (n := 2) (C := RX8) (ci := 8) ⟨hx, hb, hml, hown, hts⟩ (k_X8_isCold l G m0 m1 m2 m3 m4 m5 m6 m7 m8 m9 m10 m11 m12 m13 m14 _ (vp_updL (vp_updL (vp_updL fm1_1 (((x + 50) + x3_3).toNatClampNeg) ((fm1_1 ((x + 50) + x3_3).toNatClampNeg) + fi.toInt64)) (((x + 10) + x3_3).toNatClampNeg) (((vp_updL fm1_1 (((x + 50) + x3_3).toNatClampNeg) ((fm1_1 ((x + 50) + x3_3).toNatClampNeg) + fi.toInt64)) ((x + 10) + x3_3).toNatClampNeg) - (if fu.toInt64 < ((vp_updL fm1_1 (((x + 50) + x3_3).toNatClampNeg) ((fm1_1 ((x + 50) + x3_3).toNatClampNeg) + fi.toInt64)) ((x + 10) + x3_3).toNatClampNeg) then fu.toInt64 else ((vp_updL fm1_1 (((x + 50) + x3_3).toNatClampNeg) ((fm1_1 ((x + 50) + x3_3).toNatClampNeg) + fi.toInt64)) ((x + 10) + x3_3).toNatClampNeg)))) ((x + 134).toNatClampNeg) (((vp_updL (vp_updL fm1_1 (((x + 50) + x3_3).toNatClampNeg) ((fm1_1 ((x + 50) + x3_3).toNatClampNeg) + fi.toInt64)) (((x + 10) + x3_3).toNatClampNeg) (((vp_updL fm1_1 (((x + 50) + x3_3).toNatClampNeg) ((fm1_1 ((x + 50) + x3_3).toNatClampNeg) + fi.toInt64)) ((x + 10) + x3_3).toNatClampNeg) - (if fu.toInt64 < ((vp_updL fm1_1 (((x + 50) + x3_3).toNatClampNeg) ((fm1_1 ((x + 50) + x3_3).toNatClampNeg) + fi.toInt64)) ((x + 10) + x3_3).toNatClampNeg) then fu.toInt64 else ((vp_updL fm1_1 (((x + 50) + x3_3).toNatClampNeg) ((fm1_1 ((x + 50) + x3_3).toNatClampNeg) + fi.toInt64)) ((x + 10) + x3_3).toNatClampNeg)))) (x + 134).toNatClampNeg) + (if fu.toInt64 < ((vp_updL fm1_1 (((x + 50) + x3_3).toNatClampNeg) ((fm1_1 ((x + 50) + x3_3).toNatClampNeg) + fi.toInt64)) ((x + 10) + x3_3).toNatClampNeg) then fu.toInt64 else ((vp_updL fm1_1 (((x + 50) + x3_3).toNatClampNeg) ((fm1_1 ((x + 50) + x3_3).toNatClampNeg) + fi.toInt64)) ((x + 10) + x3_3).toNatClampNeg)))) ik zs cl hs ks wa ne mn tx th od bk bh fu fd fi nu nw nf bf bn ts ap fs ln fo fa wr x x3_3 hp) gX8_pass_X8_isCold rfl (by decide +kernel) ⟨Nat.le_trans (Nat.le_of_ble_eq_true rfl) hRf, Nat.le_trans (Nat.le_of_ble_eq_true rfl) hRl⟩ hKK hSS hS hA hP hD [0, 1, 2, 3, 4, 5, 6, 7, 8, 9, 10, 11, 12, 13, 14] (by decide) rfl rfl rfl 0 rfl rfl hl.1 rfl (Nat.le_of_ble_eq_true rfl) dX8_pass_196) hP hD hS hA [0, 1, 2, 3, 4, 5, 6, 7, 8, 9, 10, 11, 12, 13, 14] rfl (fun r_28 _ H locs hw hP hS => ?_)
            have hv := hv r_28 hw
            refine x_calliR (x_runS (As := [.int r_28]) (rest := [.long ((vp_updL (vp_updL (vp_updL fm1_1 (((x + 50) + x3_3).toNatClampNeg) ((fm1_1 ((x + 50) + x3_3).toNatClampNeg) + fi.toInt64)) (((x + 10) + x3_3).toNatClampNeg) (((vp_updL fm1_1 (((x + 50) + x3_3).toNatClampNeg) ((fm1_1 ((x + 50) + x3_3).toNatClampNeg) + fi.toInt64)) ((x + 10) + x3_3).toNatClampNeg) - (if fu.toInt64 < ((vp_updL fm1_1 (((x + 50) + x3_3).toNatClampNeg) ((fm1_1 ((x + 50) + x3_3).toNatClampNeg) + fi.toInt64)) ((x + 10) + x3_3).toNatClampNeg) then fu.toInt64 else ((vp_updL fm1_1 (((x + 50) + x3_3).toNatClampNeg) ((fm1_1 ((x + 50) + x3_3).toNatClampNeg) + fi.toInt64)) ((x + 10) + x3_3).toNatClampNeg)))) ((x + 134).toNatClampNeg) (((vp_updL (vp_updL fm1_1 (((x + 50) + x3_3).toNatClampNeg) ((fm1_1 ((x + 50) + x3_3).toNatClampNeg) + fi.toInt64)) (((x + 10) + x3_3).toNatClampNeg) (((vp_updL fm1_1 (((x + 50) + x3_3).toNatClampNeg) ((fm1_1 ((x + 50) + x3_3).toNatClampNeg) + fi.toInt64)) ((x + 10) + x3_3).toNatClampNeg) - (if fu.toInt64 < ((vp_updL fm1_1 (((x + 50) + x3_3).toNatClampNeg) ((fm1_1 ((x + 50) + x3_3).toNatClampNeg) + fi.toInt64)) ((x + 10) + x3_3).toNatClampNeg) then fu.toInt64 else ((vp_updL fm1_1 (((x + 50) + x3_3).toNatClampNeg) ((fm1_1 ((x + 50) + x3_3).toNatClampNeg) + fi.toInt64)) ((x + 10) + x3_3).toNatClampNeg)))) (x + 134).toNatClampNeg) + (if fu.toInt64 < ((vp_updL fm1_1 (((x + 50) + x3_3).toNatClampNeg) ((fm1_1 ((x + 50) + x3_3).toNatClampNeg) + fi.toInt64)) ((x + 10) + x3_3).toNatClampNeg) then fu.toInt64 else ((vp_updL fm1_1 (((x + 50) + x3_3).toNatClampNeg) ((fm1_1 ((x + 50) + x3_3).toNatClampNeg) + fi.toInt64)) ((x + 10) + x3_3).toNatClampNeg)))) ((x + 30) + x3_3).toNatClampNeg), .int ((x + 30) + x3_3), .ref m1]) (n := 1) ⟨hx, hb, hml, hown, hts⟩ (k_X8_one l G  _ r_28) gX8_pass_X8_one rfl (by decide +kernel) ⟨Nat.le_trans (Nat.le_of_ble_eq_true rfl) hRf, Nat.le_trans (Nat.le_of_ble_eq_true rfl) hRl⟩ hKK hSS hS hA hP hD [] (by decide) rfl rfl hl.1 rfl (Nat.le_of_ble_eq_true rfl) dX8_pass_199) hP hD hS hA [] rfl (fun r_29 _ H locs hw hP hS => ?_)
            replace hw := hw.symm; subst hw
            refine lv_i2l hx hb dX8_pass_202 rfl ?_
            refine lv_ladd hx hb dX8_pass_203 ?_
            obtain ⟨hin, hv⟩ := hv
            refine va_last hx hb hKK.1 hP hD hS 1 2 rfl rfl hin dX8_pass_204 (fun H locs hP hD hS => ?_)
            have hP : va_P G.1 vwCl [(m0, .inr (8, [.ref m1, .ref m2, .ref m3, .ref m4, .ref m5, .ref m6, .ref m7, .ref m8, .ref m9, .int fu, .int fd, .int fi, .int nu, .int nw, .int nf, .int bf, .int bn, .ref m10, .int ts, .int ap, .int fs, .int ln, .int fo, .int fa, .ref m11, .ref m12, .ref m13, .ref m14, .int wr])), aJ G m1 560 (vp_updL (vp_updL (vp_updL (vp_updL fm1_1 (((x + 50) + x3_3).toNatClampNeg) ((fm1_1 ((x + 50) + x3_3).toNatClampNeg) + fi.toInt64)) (((x + 10) + x3_3).toNatClampNeg) (((vp_updL fm1_1 (((x + 50) + x3_3).toNatClampNeg) ((fm1_1 ((x + 50) + x3_3).toNatClampNeg) + fi.toInt64)) ((x + 10) + x3_3).toNatClampNeg) - (if fu.toInt64 < ((vp_updL fm1_1 (((x + 50) + x3_3).toNatClampNeg) ((fm1_1 ((x + 50) + x3_3).toNatClampNeg) + fi.toInt64)) ((x + 10) + x3_3).toNatClampNeg) then fu.toInt64 else ((vp_updL fm1_1 (((x + 50) + x3_3).toNatClampNeg) ((fm1_1 ((x + 50) + x3_3).toNatClampNeg) + fi.toInt64)) ((x + 10) + x3_3).toNatClampNeg)))) ((x + 134).toNatClampNeg) (((vp_updL (vp_updL fm1_1 (((x + 50) + x3_3).toNatClampNeg) ((fm1_1 ((x + 50) + x3_3).toNatClampNeg) + fi.toInt64)) (((x + 10) + x3_3).toNatClampNeg) (((vp_updL fm1_1 (((x + 50) + x3_3).toNatClampNeg) ((fm1_1 ((x + 50) + x3_3).toNatClampNeg) + fi.toInt64)) ((x + 10) + x3_3).toNatClampNeg) - (if fu.toInt64 < ((vp_updL fm1_1 (((x + 50) + x3_3).toNatClampNeg) ((fm1_1 ((x + 50) + x3_3).toNatClampNeg) + fi.toInt64)) ((x + 10) + x3_3).toNatClampNeg) then fu.toInt64 else ((vp_updL fm1_1 (((x + 50) + x3_3).toNatClampNeg) ((fm1_1 ((x + 50) + x3_3).toNatClampNeg) + fi.toInt64)) ((x + 10) + x3_3).toNatClampNeg)))) (x + 134).toNatClampNeg) + (if fu.toInt64 < ((vp_updL fm1_1 (((x + 50) + x3_3).toNatClampNeg) ((fm1_1 ((x + 50) + x3_3).toNatClampNeg) + fi.toInt64)) ((x + 10) + x3_3).toNatClampNeg) then fu.toInt64 else ((vp_updL fm1_1 (((x + 50) + x3_3).toNatClampNeg) ((fm1_1 ((x + 50) + x3_3).toNatClampNeg) + fi.toInt64)) ((x + 10) + x3_3).toNatClampNeg)))) (((x + 30) + x3_3).toNatClampNeg) (((vp_updL (vp_updL (vp_updL fm1_1 (((x + 50) + x3_3).toNatClampNeg) ((fm1_1 ((x + 50) + x3_3).toNatClampNeg) + fi.toInt64)) (((x + 10) + x3_3).toNatClampNeg) (((vp_updL fm1_1 (((x + 50) + x3_3).toNatClampNeg) ((fm1_1 ((x + 50) + x3_3).toNatClampNeg) + fi.toInt64)) ((x + 10) + x3_3).toNatClampNeg) - (if fu.toInt64 < ((vp_updL fm1_1 (((x + 50) + x3_3).toNatClampNeg) ((fm1_1 ((x + 50) + x3_3).toNatClampNeg) + fi.toInt64)) ((x + 10) + x3_3).toNatClampNeg) then fu.toInt64 else ((vp_updL fm1_1 (((x + 50) + x3_3).toNatClampNeg) ((fm1_1 ((x + 50) + x3_3).toNatClampNeg) + fi.toInt64)) ((x + 10) + x3_3).toNatClampNeg)))) ((x + 134).toNatClampNeg) (((vp_updL (vp_updL fm1_1 (((x + 50) + x3_3).toNatClampNeg) ((fm1_1 ((x + 50) + x3_3).toNatClampNeg) + fi.toInt64)) (((x + 10) + x3_3).toNatClampNeg) (((vp_updL fm1_1 (((x + 50) + x3_3).toNatClampNeg) ((fm1_1 ((x + 50) + x3_3).toNatClampNeg) + fi.toInt64)) ((x + 10) + x3_3).toNatClampNeg) - (if fu.toInt64 < ((vp_updL fm1_1 (((x + 50) + x3_3).toNatClampNeg) ((fm1_1 ((x + 50) + x3_3).toNatClampNeg) + fi.toInt64)) ((x + 10) + x3_3).toNatClampNeg) then fu.toInt64 else ((vp_updL fm1_1 (((x + 50) + x3_3).toNatClampNeg) ((fm1_1 ((x + 50) + x3_3).toNatClampNeg) + fi.toInt64)) ((x + 10) + x3_3).toNatClampNeg)))) (x + 134).toNatClampNeg) + (if fu.toInt64 < ((vp_updL fm1_1 (((x + 50) + x3_3).toNatClampNeg) ((fm1_1 ((x + 50) + x3_3).toNatClampNeg) + fi.toInt64)) ((x + 10) + x3_3).toNatClampNeg) then fu.toInt64 else ((vp_updL fm1_1 (((x + 50) + x3_3).toNatClampNeg) ((fm1_1 ((x + 50) + x3_3).toNatClampNeg) + fi.toInt64)) ((x + 10) + x3_3).toNatClampNeg)))) ((x + 30) + x3_3).toNatClampNeg) + ((if r_28 = 0 then 0 else 1) : Int32).toInt64)), aZ G m2 2 ik, aI G m3 20 zs, aI G m4 20 cl, aI G m5 20 hs, aI G m6 20 ks, aI G m7 20 wa, aI G m8 20 ne, aI G m9 4 mn, aI G m10 400 tx, aI G m11 6 th, aI G m12 6 od, aI G m13 30 bk, aI G m14 30 bh] H := hP
            have hD : va_D A [(m0, .inr (8, [.ref m1, .ref m2, .ref m3, .ref m4, .ref m5, .ref m6, .ref m7, .ref m8, .ref m9, .int fu, .int fd, .int fi, .int nu, .int nw, .int nf, .int bf, .int bn, .ref m10, .int ts, .int ap, .int fs, .int ln, .int fo, .int fa, .ref m11, .ref m12, .ref m13, .ref m14, .int wr])), aJ G m1 560 (vp_updL (vp_updL (vp_updL (vp_updL fm1_1 (((x + 50) + x3_3).toNatClampNeg) ((fm1_1 ((x + 50) + x3_3).toNatClampNeg) + fi.toInt64)) (((x + 10) + x3_3).toNatClampNeg) (((vp_updL fm1_1 (((x + 50) + x3_3).toNatClampNeg) ((fm1_1 ((x + 50) + x3_3).toNatClampNeg) + fi.toInt64)) ((x + 10) + x3_3).toNatClampNeg) - (if fu.toInt64 < ((vp_updL fm1_1 (((x + 50) + x3_3).toNatClampNeg) ((fm1_1 ((x + 50) + x3_3).toNatClampNeg) + fi.toInt64)) ((x + 10) + x3_3).toNatClampNeg) then fu.toInt64 else ((vp_updL fm1_1 (((x + 50) + x3_3).toNatClampNeg) ((fm1_1 ((x + 50) + x3_3).toNatClampNeg) + fi.toInt64)) ((x + 10) + x3_3).toNatClampNeg)))) ((x + 134).toNatClampNeg) (((vp_updL (vp_updL fm1_1 (((x + 50) + x3_3).toNatClampNeg) ((fm1_1 ((x + 50) + x3_3).toNatClampNeg) + fi.toInt64)) (((x + 10) + x3_3).toNatClampNeg) (((vp_updL fm1_1 (((x + 50) + x3_3).toNatClampNeg) ((fm1_1 ((x + 50) + x3_3).toNatClampNeg) + fi.toInt64)) ((x + 10) + x3_3).toNatClampNeg) - (if fu.toInt64 < ((vp_updL fm1_1 (((x + 50) + x3_3).toNatClampNeg) ((fm1_1 ((x + 50) + x3_3).toNatClampNeg) + fi.toInt64)) ((x + 10) + x3_3).toNatClampNeg) then fu.toInt64 else ((vp_updL fm1_1 (((x + 50) + x3_3).toNatClampNeg) ((fm1_1 ((x + 50) + x3_3).toNatClampNeg) + fi.toInt64)) ((x + 10) + x3_3).toNatClampNeg)))) (x + 134).toNatClampNeg) + (if fu.toInt64 < ((vp_updL fm1_1 (((x + 50) + x3_3).toNatClampNeg) ((fm1_1 ((x + 50) + x3_3).toNatClampNeg) + fi.toInt64)) ((x + 10) + x3_3).toNatClampNeg) then fu.toInt64 else ((vp_updL fm1_1 (((x + 50) + x3_3).toNatClampNeg) ((fm1_1 ((x + 50) + x3_3).toNatClampNeg) + fi.toInt64)) ((x + 10) + x3_3).toNatClampNeg)))) (((x + 30) + x3_3).toNatClampNeg) (((vp_updL (vp_updL (vp_updL fm1_1 (((x + 50) + x3_3).toNatClampNeg) ((fm1_1 ((x + 50) + x3_3).toNatClampNeg) + fi.toInt64)) (((x + 10) + x3_3).toNatClampNeg) (((vp_updL fm1_1 (((x + 50) + x3_3).toNatClampNeg) ((fm1_1 ((x + 50) + x3_3).toNatClampNeg) + fi.toInt64)) ((x + 10) + x3_3).toNatClampNeg) - (if fu.toInt64 < ((vp_updL fm1_1 (((x + 50) + x3_3).toNatClampNeg) ((fm1_1 ((x + 50) + x3_3).toNatClampNeg) + fi.toInt64)) ((x + 10) + x3_3).toNatClampNeg) then fu.toInt64 else ((vp_updL fm1_1 (((x + 50) + x3_3).toNatClampNeg) ((fm1_1 ((x + 50) + x3_3).toNatClampNeg) + fi.toInt64)) ((x + 10) + x3_3).toNatClampNeg)))) ((x + 134).toNatClampNeg) (((vp_updL (vp_updL fm1_1 (((x + 50) + x3_3).toNatClampNeg) ((fm1_1 ((x + 50) + x3_3).toNatClampNeg) + fi.toInt64)) (((x + 10) + x3_3).toNatClampNeg) (((vp_updL fm1_1 (((x + 50) + x3_3).toNatClampNeg) ((fm1_1 ((x + 50) + x3_3).toNatClampNeg) + fi.toInt64)) ((x + 10) + x3_3).toNatClampNeg) - (if fu.toInt64 < ((vp_updL fm1_1 (((x + 50) + x3_3).toNatClampNeg) ((fm1_1 ((x + 50) + x3_3).toNatClampNeg) + fi.toInt64)) ((x + 10) + x3_3).toNatClampNeg) then fu.toInt64 else ((vp_updL fm1_1 (((x + 50) + x3_3).toNatClampNeg) ((fm1_1 ((x + 50) + x3_3).toNatClampNeg) + fi.toInt64)) ((x + 10) + x3_3).toNatClampNeg)))) (x + 134).toNatClampNeg) + (if fu.toInt64 < ((vp_updL fm1_1 (((x + 50) + x3_3).toNatClampNeg) ((fm1_1 ((x + 50) + x3_3).toNatClampNeg) + fi.toInt64)) ((x + 10) + x3_3).toNatClampNeg) then fu.toInt64 else ((vp_updL fm1_1 (((x + 50) + x3_3).toNatClampNeg) ((fm1_1 ((x + 50) + x3_3).toNatClampNeg) + fi.toInt64)) ((x + 10) + x3_3).toNatClampNeg)))) ((x + 30) + x3_3).toNatClampNeg) + ((if r_28 = 0 then 0 else 1) : Int32).toInt64)), aZ G m2 2 ik, aI G m3 20 zs, aI G m4 20 cl, aI G m5 20 hs, aI G m6 20 ks, aI G m7 20 wa, aI G m8 20 ne, aI G m9 4 mn, aI G m10 400 tx, aI G m11 6 th, aI G m12 6 od, aI G m13 30 bk, aI G m14 30 bh] := hD
            refine lv_iload_n hx hb dX8_pass_205 rfl (lv_at hl 3 rfl) ?_
            refine lv_aload_n hx hb dX8_pass_206 rfl (lv_at hl 4 rfl) ?_
            refine lv_iload_n hx hb dX8_pass_207 rfl (lv_at hl 5 rfl) ?_
            refine lv_iload_n hx hb dX8_pass_208 rfl (lv_at hl 2 rfl) ?_
            obtain ⟨hp, hv⟩ := hv
            refine x_calliR (x_runV (As := [.int x, .int x3_3]) (rest := [.int x2_2]) (n := 2) (C := RX8) (ci := 8) ⟨hx, hb, hml, hown, hts⟩ (k_X8_isCold l G m0 m1 m2 m3 m4 m5 m6 m7 m8 m9 m10 m11 m12 m13 m14 _ (vp_updL (vp_updL (vp_updL (vp_updL fm1_1 (((x + 50) + x3_3).toNatClampNeg) ((fm1_1 ((x + 50) + x3_3).toNatClampNeg) + fi.toInt64)) (((x + 10) + x3_3).toNatClampNeg) (((vp_updL fm1_1 (((x + 50) + x3_3).toNatClampNeg) ((fm1_1 ((x + 50) + x3_3).toNatClampNeg) + fi.toInt64)) ((x + 10) + x3_3).toNatClampNeg) - (if fu.toInt64 < ((vp_updL fm1_1 (((x + 50) + x3_3).toNatClampNeg) ((fm1_1 ((x + 50) + x3_3).toNatClampNeg) + fi.toInt64)) ((x + 10) + x3_3).toNatClampNeg) then fu.toInt64 else ((vp_updL fm1_1 (((x + 50) + x3_3).toNatClampNeg) ((fm1_1 ((x + 50) + x3_3).toNatClampNeg) + fi.toInt64)) ((x + 10) + x3_3).toNatClampNeg)))) ((x + 134).toNatClampNeg) (((vp_updL (vp_updL fm1_1 (((x + 50) + x3_3).toNatClampNeg) ((fm1_1 ((x + 50) + x3_3).toNatClampNeg) + fi.toInt64)) (((x + 10) + x3_3).toNatClampNeg) (((vp_updL fm1_1 (((x + 50) + x3_3).toNatClampNeg) ((fm1_1 ((x + 50) + x3_3).toNatClampNeg) + fi.toInt64)) ((x + 10) + x3_3).toNatClampNeg) - (if fu.toInt64 < ((vp_updL fm1_1 (((x + 50) + x3_3).toNatClampNeg) ((fm1_1 ((x + 50) + x3_3).toNatClampNeg) + fi.toInt64)) ((x + 10) + x3_3).toNatClampNeg) then fu.toInt64 else ((vp_updL fm1_1 (((x + 50) + x3_3).toNatClampNeg) ((fm1_1 ((x + 50) + x3_3).toNatClampNeg) + fi.toInt64)) ((x + 10) + x3_3).toNatClampNeg)))) (x + 134).toNatClampNeg) + (if fu.toInt64 < ((vp_updL fm1_1 (((x + 50) + x3_3).toNatClampNeg) ((fm1_1 ((x + 50) + x3_3).toNatClampNeg) + fi.toInt64)) ((x + 10) + x3_3).toNatClampNeg) then fu.toInt64 else ((vp_updL fm1_1 (((x + 50) + x3_3).toNatClampNeg) ((fm1_1 ((x + 50) + x3_3).toNatClampNeg) + fi.toInt64)) ((x + 10) + x3_3).toNatClampNeg)))) (((x + 30) + x3_3).toNatClampNeg) (((vp_updL (vp_updL (vp_updL fm1_1 (((x + 50) + x3_3).toNatClampNeg) ((fm1_1 ((x + 50) + x3_3).toNatClampNeg) + fi.toInt64)) (((x + 10) + x3_3).toNatClampNeg) (((vp_updL fm1_1 (((x + 50) + x3_3).toNatClampNeg) ((fm1_1 ((x + 50) + x3_3).toNatClampNeg) + fi.toInt64)) ((x + 10) + x3_3).toNatClampNeg) - (if fu.toInt64 < ((vp_updL fm1_1 (((x + 50) + x3_3).toNatClampNeg) ((fm1_1 ((x + 50) + x3_3).toNatClampNeg) + fi.toInt64)) ((x + 10) + x3_3).toNatClampNeg) then fu.toInt64 else ((vp_updL fm1_1 (((x + 50) + x3_3).toNatClampNeg) ((fm1_1 ((x + 50) + x3_3).toNatClampNeg) + fi.toInt64)) ((x + 10) + x3_3).toNatClampNeg)))) ((x + 134).toNatClampNeg) (((vp_updL (vp_updL fm1_1 (((x + 50) + x3_3).toNatClampNeg) ((fm1_1 ((x + 50) + x3_3).toNatClampNeg) + fi.toInt64)) (((x + 10) + x3_3).toNatClampNeg) (((vp_updL fm1_1 (((x + 50) + x3_3).toNatClampNeg) ((fm1_1 ((x + 50) + x3_3).toNatClampNeg) + fi.toInt64)) ((x + 10) + x3_3).toNatClampNeg) - (if fu.toInt64 < ((vp_updL fm1_1 (((x + 50) + x3_3).toNatClampNeg) ((fm1_1 ((x + 50) + x3_3).toNatClampNeg) + fi.toInt64)) ((x + 10) + x3_3).toNatClampNeg) then fu.toInt64 else ((vp_updL fm1_1 (((x + 50) + x3_3).toNatClampNeg) ((fm1_1 ((x + 50) + x3_3).toNatClampNeg) + fi.toInt64)) ((x + 10) + x3_3).toNatClampNeg)))) (x + 134).toNatClampNeg) + (if fu.toInt64 < ((vp_updL fm1_1 (((x + 50) + x3_3).toNatClampNeg) ((fm1_1 ((x + 50) + x3_3).toNatClampNeg) + fi.toInt64)) ((x + 10) + x3_3).toNatClampNeg) then fu.toInt64 else ((vp_updL fm1_1 (((x + 50) + x3_3).toNatClampNeg) ((fm1_1 ((x + 50) + x3_3).toNatClampNeg) + fi.toInt64)) ((x + 10) + x3_3).toNatClampNeg)))) ((x + 30) + x3_3).toNatClampNeg) + ((if r_28 = 0 then 0 else 1) : Int32).toInt64)) ik zs cl hs ks wa ne mn tx th od bk bh fu fd fi nu nw nf bf bn ts ap fs ln fo fa wr x x3_3 hp) gX8_pass_X8_isCold rfl (by decide +kernel) ⟨Nat.le_trans (Nat.le_of_ble_eq_true rfl) hRf, Nat.le_trans (Nat.le_of_ble_eq_true rfl) hRl⟩ hKK hSS hS hA hP hD [0, 1, 2, 3, 4, 5, 6, 7, 8, 9, 10, 11, 12, 13, 14] (by decide) rfl rfl rfl 0 rfl rfl hl.1 rfl (Nat.le_of_ble_eq_true rfl) dX8_pass_209) hP hD hS hA [0, 1, 2, 3, 4, 5, 6, 7, 8, 9, 10, 11, 12, 13, 14] rfl (fun r_30 _ H locs hw hP hS => ?_)
            have hv := hv r_30 hw
            refine x_calliR (x_runS (As := [.int r_30]) (rest := [.int x2_2]) (n := 1) ⟨hx, hb, hml, hown, hts⟩ (k_X8_one l G  _ r_30) gX8_pass_X8_one rfl (by decide +kernel) ⟨Nat.le_trans (Nat.le_of_ble_eq_true rfl) hRf, Nat.le_trans (Nat.le_of_ble_eq_true rfl) hRl⟩ hKK hSS hS hA hP hD [] (by decide) rfl rfl hl.1 rfl (Nat.le_of_ble_eq_true rfl) dX8_pass_212) hP hD hS hA [] rfl (fun r_31 _ H locs hw hP hS => ?_)
            replace hw := hw.symm; subst hw
            refine lv_iload_n hx hb dX8_pass_215 rfl (lv_at hl 2 rfl) ?_
            refine lv_ishl hx hb dX8_pass_216 ?_
            refine lv_ior hx hb dX8_pass_217 ?_
            refine lv_istore_n (lv' := [(2, .int (x2_2 ||| ((if r_30 = 0 then 0 else 1) <<< (x3_3 &&& 31)))), (5, .long (if fu.toInt64 < ((vp_updL fm1_1 (((x + 50) + x3_3).toNatClampNeg) ((fm1_1 ((x + 50) + x3_3).toNatClampNeg) + fi.toInt64)) ((x + 10) + x3_3).toNatClampNeg) then fu.toInt64 else ((vp_updL fm1_1 (((x + 50) + x3_3).toNatClampNeg) ((fm1_1 ((x + 50) + x3_3).toNatClampNeg) + fi.toInt64)) ((x + 10) + x3_3).toNatClampNeg))), (4, .int 0), (3, .int x3_3), (0, .ref m0), (1, .int x)]) hx hb dX8_pass_218 rfl hl (by decide) rfl (fun ls hl => ?_)
            refine lv_iinc (v := (x3_3 + 1)) (lv' := [(3, .int (x3_3 + 1)), (2, .int (x2_2 ||| ((if r_30 = 0 then 0 else 1) <<< (x3_3 &&& 31)))), (5, .long (if fu.toInt64 < ((vp_updL fm1_1 (((x + 50) + x3_3).toNatClampNeg) ((fm1_1 ((x + 50) + x3_3).toNatClampNeg) + fi.toInt64)) ((x + 10) + x3_3).toNatClampNeg) then fu.toInt64 else ((vp_updL fm1_1 (((x + 50) + x3_3).toNatClampNeg) ((fm1_1 ((x + 50) + x3_3).toNatClampNeg) + fi.toInt64)) ((x + 10) + x3_3).toNatClampNeg))), (4, .int 0), (0, .ref m0), (1, .int x)]) hx hb dX8_pass_219 hl (k := 3) rfl rfl (by decide) rfl (fun ls hl => ?_)
            refine lv_goto (tgt := 18) hx hb dX8_pass_222 (by decide) ?_
            exact ih_6 _ _ _ _ _ _ (Nat.lt_of_lt_of_le hv.2 (Nat.le_of_lt_succ hI_7)) hv.1 hP hD hS (lv_sub hl [0, 1, 4, 5] rfl)
          · have hv := hv.2 hc_25
            refine lv_aload_n hx hb dX8_pass_106 rfl (lv_at hl 3 rfl) ?_
            refine va_get (D := G.1) (ci := 8) (v := .int fu) (C := RX8) (T := TX8) (N := 29) hx hb hts hinX8 hown hKK.1 hP 0 rfl rfl 9 (by decide) kl39 (fun _ h9 => h9) rfl dX8_pass_107 ?_
            refine lv_iconst (v := 2) hx hb dX8_pass_110 (by decide) ?_
            refine lv_idiv hx hb dX8_pass_111 (by decide) ?_
            refine lv_i2l hx hb dX8_pass_112 rfl ?_
            refine lv_goto (tgt := 134) hx hb dX8_pass_113 (by decide) ?_
            refine lv_aload_n hx hb dX8_pass_134 rfl (lv_at hl 3 rfl) ?_
            refine va_get (D := G.1) (ci := 8) (v := .ref m1) (C := RX8) (T := TX8) (N := 29) hx hb hts hinX8 hown hKK.1 hP 0 rfl rfl 0 (by decide) kl7 (fun _ h9 => h9) rfl dX8_pass_135 ?_
            refine lv_iload_n hx hb dX8_pass_138 rfl (lv_at hl 4 rfl) ?_
            refine lv_bipush (v := 10) hx hb dX8_pass_139 (by decide) ?_
            refine lv_iadd hx hb dX8_pass_141 ?_
            refine lv_iload_n hx hb dX8_pass_142 rfl (lv_at hl 1 rfl) ?_
            refine lv_iadd hx hb dX8_pass_143 ?_
            obtain ⟨hin, hv⟩ := hv
            refine va_lald hx hb hKK.1 hP 1 2 rfl rfl hin dX8_pass_144 ?_
            refine x_calllR (x_runS (As := [.long ((fu / 2).toInt64), .long ((vp_updL fm1_1 (((x + 50) + x3_3).toNatClampNeg) ((fm1_1 ((x + 50) + x3_3).toNatClampNeg) + fi.toInt64)) ((x + 10) + x3_3).toNatClampNeg)]) (rest := []) (n := 2) ⟨hx, hb, hml, hown, hts⟩ (k_X8_less l G  _ ((fu / 2).toInt64) ((vp_updL fm1_1 (((x + 50) + x3_3).toNatClampNeg) ((fm1_1 ((x + 50) + x3_3).toNatClampNeg) + fi.toInt64)) ((x + 10) + x3_3).toNatClampNeg)) gX8_pass_X8_less rfl (by decide +kernel) ⟨Nat.le_trans (Nat.le_of_ble_eq_true rfl) hRf, Nat.le_trans (Nat.le_of_ble_eq_true rfl) hRl⟩ hKK hSS hS hA hP hD [] (by decide) rfl rfl hl.1 rfl (Nat.le_of_ble_eq_true rfl) dX8_pass_145) hP hD hS hA [] rfl (fun r_32 _ H locs hw hP hS => ?_)
            replace hw := hw.symm; subst hw
            refine lv_lstore (lv' := [(5, .long (if ((fu / 2).toInt64) < ((vp_updL fm1_1 (((x + 50) + x3_3).toNatClampNeg) ((fm1_1 ((x + 50) + x3_3).toNatClampNeg) + fi.toInt64)) ((x + 10) + x3_3).toNatClampNeg) then ((fu / 2).toInt64) else ((vp_updL fm1_1 (((x + 50) + x3_3).toNatClampNeg) ((fm1_1 ((x + 50) + x3_3).toNatClampNeg) + fi.toInt64)) ((x + 10) + x3_3).toNatClampNeg))), (4, .int 0), (3, .int x3_3), (2, .int x2_2), (0, .ref m0), (1, .int x)]) hx hb dX8_pass_148 hl (by decide) rfl (fun ls hl => ?_)
            refine lv_aload_n hx hb dX8_pass_150 rfl (lv_at hl 4 rfl) ?_
            refine va_get (D := G.1) (ci := 8) (v := .ref m1) (C := RX8) (T := TX8) (N := 29) hx hb hts hinX8 hown hKK.1 hP 0 rfl rfl 0 (by decide) kl7 (fun _ h9 => h9) rfl dX8_pass_151 ?_
            refine lv_iload_n hx hb dX8_pass_154 rfl (lv_at hl 5 rfl) ?_
            refine lv_bipush (v := 10) hx hb dX8_pass_155 (by decide) ?_
            refine lv_iadd hx hb dX8_pass_157 ?_
            refine lv_iload_n hx hb dX8_pass_158 rfl (lv_at hl 2 rfl) ?_
            refine lv_iadd hx hb dX8_pass_159 ?_
            refine lv_dup2_11 hx hb dX8_pass_160 rfl rfl ?_
            obtain ⟨hin, hv⟩ := hv
            refine va_lald hx hb hKK.1 hP 1 2 rfl rfl hin dX8_pass_161 ?_
            refine lv_lload hx hb dX8_pass_162 (lv_at hl 0 rfl) ?_
            refine lv_lsub hx hb dX8_pass_164 ?_
            obtain ⟨hin, hv⟩ := hv
            refine va_last hx hb hKK.1 hP hD hS 1 2 rfl rfl hin dX8_pass_165 (fun H locs hP hD hS => ?_)
            have hP : va_P G.1 vwCl [(m0, .inr (8, [.ref m1, .ref m2, .ref m3, .ref m4, .ref m5, .ref m6, .ref m7, .ref m8, .ref m9, .int fu, .int fd, .int fi, .int nu, .int nw, .int nf, .int bf, .int bn, .ref m10, .int ts, .int ap, .int fs, .int ln, .int fo, .int fa, .ref m11, .ref m12, .ref m13, .ref m14, .int wr])), aJ G m1 560 (vp_updL (vp_updL fm1_1 (((x + 50) + x3_3).toNatClampNeg) ((fm1_1 ((x + 50) + x3_3).toNatClampNeg) + fi.toInt64)) (((x + 10) + x3_3).toNatClampNeg) (((vp_updL fm1_1 (((x + 50) + x3_3).toNatClampNeg) ((fm1_1 ((x + 50) + x3_3).toNatClampNeg) + fi.toInt64)) ((x + 10) + x3_3).toNatClampNeg) - (if ((fu / 2).toInt64) < ((vp_updL fm1_1 (((x + 50) + x3_3).toNatClampNeg) ((fm1_1 ((x + 50) + x3_3).toNatClampNeg) + fi.toInt64)) ((x + 10) + x3_3).toNatClampNeg) then ((fu / 2).toInt64) else ((vp_updL fm1_1 (((x + 50) + x3_3).toNatClampNeg) ((fm1_1 ((x + 50) + x3_3).toNatClampNeg) + fi.toInt64)) ((x + 10) + x3_3).toNatClampNeg)))), aZ G m2 2 ik, aI G m3 20 zs, aI G m4 20 cl, aI G m5 20 hs, aI G m6 20 ks, aI G m7 20 wa, aI G m8 20 ne, aI G m9 4 mn, aI G m10 400 tx, aI G m11 6 th, aI G m12 6 od, aI G m13 30 bk, aI G m14 30 bh] H := hP
            have hD : va_D A [(m0, .inr (8, [.ref m1, .ref m2, .ref m3, .ref m4, .ref m5, .ref m6, .ref m7, .ref m8, .ref m9, .int fu, .int fd, .int fi, .int nu, .int nw, .int nf, .int bf, .int bn, .ref m10, .int ts, .int ap, .int fs, .int ln, .int fo, .int fa, .ref m11, .ref m12, .ref m13, .ref m14, .int wr])), aJ G m1 560 (vp_updL (vp_updL fm1_1 (((x + 50) + x3_3).toNatClampNeg) ((fm1_1 ((x + 50) + x3_3).toNatClampNeg) + fi.toInt64)) (((x + 10) + x3_3).toNatClampNeg) (((vp_updL fm1_1 (((x + 50) + x3_3).toNatClampNeg) ((fm1_1 ((x + 50) + x3_3).toNatClampNeg) + fi.toInt64)) ((x + 10) + x3_3).toNatClampNeg) - (if ((fu / 2).toInt64) < ((vp_updL fm1_1 (((x + 50) + x3_3).toNatClampNeg) ((fm1_1 ((x + 50) + x3_3).toNatClampNeg) + fi.toInt64)) ((x + 10) + x3_3).toNatClampNeg) then ((fu / 2).toInt64) else ((vp_updL fm1_1 (((x + 50) + x3_3).toNatClampNeg) ((fm1_1 ((x + 50) + x3_3).toNatClampNeg) + fi.toInt64)) ((x + 10) + x3_3).toNatClampNeg)))), aZ G m2 2 ik, aI G m3 20 zs, aI G m4 20 cl, aI G m5 20 hs, aI G m6 20 ks, aI G m7 20 wa, aI G m8 20 ne, aI G m9 4 mn, aI G m10 400 tx, aI G m11 6 th, aI G m12 6 od, aI G m13 30 bk, aI G m14 30 bh] := hD
            refine lv_aload_n hx hb dX8_pass_166 rfl (lv_at hl 4 rfl) ?_
            refine va_get (D := G.1) (ci := 8) (v := .ref m1) (C := RX8) (T := TX8) (N := 29) hx hb hts hinX8 hown hKK.1 hP 0 rfl rfl 0 (by decide) kl7 (fun _ h9 => h9) rfl dX8_pass_167 ?_
            refine lv_iload_n hx hb dX8_pass_170 rfl (lv_at hl 5 rfl) ?_
            refine lv_sipush (v := 134) hx hb dX8_pass_171 (by decide) ?_
            refine lv_iadd hx hb dX8_pass_174 ?_
            refine lv_dup2_11 hx hb dX8_pass_175 rfl rfl ?_
            obtain ⟨hin, hv⟩ := hv
            refine va_lald hx hb hKK.1 hP 1 2 rfl rfl hin dX8_pass_176 ?_
            refine lv_lload hx hb dX8_pass_177 (lv_at hl 0 rfl) ?_
            refine lv_ladd hx hb dX8_pass_179 ?_
            obtain ⟨hin, hv⟩ := hv
            refine va_last hx hb hKK.1 hP hD hS 1 2 rfl rfl hin dX8_pass_180 (fun H locs hP hD hS => ?_)
            have hP : va_P G.1 vwCl [(m0, .inr (8, [.ref m1, .ref m2, .ref m3, .ref m4, .ref m5, .ref m6, .ref m7, .ref m8, .ref m9, .int fu, .int fd, .int fi, .int nu, .int nw, .int nf, .int bf, .int bn, .ref m10, .int ts, .int ap, .int fs, .int ln, .int fo, .int fa, .ref m11, .ref m12, .ref m13, .ref m14, .int wr])), aJ G m1 560 (vp_updL (vp_updL (vp_updL fm1_1 (((x + 50) + x3_3).toNatClampNeg) ((fm1_1 ((x + 50) + x3_3).toNatClampNeg) + fi.toInt64)) (((x + 10) + x3_3).toNatClampNeg) (((vp_updL fm1_1 (((x + 50) + x3_3).toNatClampNeg) ((fm1_1 ((x + 50) + x3_3).toNatClampNeg) + fi.toInt64)) ((x + 10) + x3_3).toNatClampNeg) - (if ((fu / 2).toInt64) < ((vp_updL fm1_1 (((x + 50) + x3_3).toNatClampNeg) ((fm1_1 ((x + 50) + x3_3).toNatClampNeg) + fi.toInt64)) ((x + 10) + x3_3).toNatClampNeg) then ((fu / 2).toInt64) else ((vp_updL fm1_1 (((x + 50) + x3_3).toNatClampNeg) ((fm1_1 ((x + 50) + x3_3).toNatClampNeg) + fi.toInt64)) ((x + 10) + x3_3).toNatClampNeg)))) ((x + 134).toNatClampNeg) (((vp_updL (vp_updL fm1_1 (((x + 50) + x3_3).toNatClampNeg) ((fm1_1 ((x + 50) + x3_3).toNatClampNeg) + fi.toInt64)) (((x + 10) + x3_3).toNatClampNeg) (((vp_updL fm1_1 (((x + 50) + x3_3).toNatClampNeg) ((fm1_1 ((x + 50) + x3_3).toNatClampNeg) + fi.toInt64)) ((x + 10) + x3_3).toNatClampNeg) - (if ((fu / 2).toInt64) < ((vp_updL fm1_1 (((x + 50) + x3_3).toNatClampNeg) ((fm1_1 ((x + 50) + x3_3).toNatClampNeg) + fi.toInt64)) ((x + 10) + x3_3).toNatClampNeg) then ((fu / 2).toInt64) else ((vp_updL fm1_1 (((x + 50) + x3_3).toNatClampNeg) ((fm1_1 ((x + 50) + x3_3).toNatClampNeg) + fi.toInt64)) ((x + 10) + x3_3).toNatClampNeg)))) (x + 134).toNatClampNeg) + (if ((fu / 2).toInt64) < ((vp_updL fm1_1 (((x + 50) + x3_3).toNatClampNeg) ((fm1_1 ((x + 50) + x3_3).toNatClampNeg) + fi.toInt64)) ((x + 10) + x3_3).toNatClampNeg) then ((fu / 2).toInt64) else ((vp_updL fm1_1 (((x + 50) + x3_3).toNatClampNeg) ((fm1_1 ((x + 50) + x3_3).toNatClampNeg) + fi.toInt64)) ((x + 10) + x3_3).toNatClampNeg)))), aZ G m2 2 ik, aI G m3 20 zs, aI G m4 20 cl, aI G m5 20 hs, aI G m6 20 ks, aI G m7 20 wa, aI G m8 20 ne, aI G m9 4 mn, aI G m10 400 tx, aI G m11 6 th, aI G m12 6 od, aI G m13 30 bk, aI G m14 30 bh] H := hP
            have hD : va_D A [(m0, .inr (8, [.ref m1, .ref m2, .ref m3, .ref m4, .ref m5, .ref m6, .ref m7, .ref m8, .ref m9, .int fu, .int fd, .int fi, .int nu, .int nw, .int nf, .int bf, .int bn, .ref m10, .int ts, .int ap, .int fs, .int ln, .int fo, .int fa, .ref m11, .ref m12, .ref m13, .ref m14, .int wr])), aJ G m1 560 (vp_updL (vp_updL (vp_updL fm1_1 (((x + 50) + x3_3).toNatClampNeg) ((fm1_1 ((x + 50) + x3_3).toNatClampNeg) + fi.toInt64)) (((x + 10) + x3_3).toNatClampNeg) (((vp_updL fm1_1 (((x + 50) + x3_3).toNatClampNeg) ((fm1_1 ((x + 50) + x3_3).toNatClampNeg) + fi.toInt64)) ((x + 10) + x3_3).toNatClampNeg) - (if ((fu / 2).toInt64) < ((vp_updL fm1_1 (((x + 50) + x3_3).toNatClampNeg) ((fm1_1 ((x + 50) + x3_3).toNatClampNeg) + fi.toInt64)) ((x + 10) + x3_3).toNatClampNeg) then ((fu / 2).toInt64) else ((vp_updL fm1_1 (((x + 50) + x3_3).toNatClampNeg) ((fm1_1 ((x + 50) + x3_3).toNatClampNeg) + fi.toInt64)) ((x + 10) + x3_3).toNatClampNeg)))) ((x + 134).toNatClampNeg) (((vp_updL (vp_updL fm1_1 (((x + 50) + x3_3).toNatClampNeg) ((fm1_1 ((x + 50) + x3_3).toNatClampNeg) + fi.toInt64)) (((x + 10) + x3_3).toNatClampNeg) (((vp_updL fm1_1 (((x + 50) + x3_3).toNatClampNeg) ((fm1_1 ((x + 50) + x3_3).toNatClampNeg) + fi.toInt64)) ((x + 10) + x3_3).toNatClampNeg) - (if ((fu / 2).toInt64) < ((vp_updL fm1_1 (((x + 50) + x3_3).toNatClampNeg) ((fm1_1 ((x + 50) + x3_3).toNatClampNeg) + fi.toInt64)) ((x + 10) + x3_3).toNatClampNeg) then ((fu / 2).toInt64) else ((vp_updL fm1_1 (((x + 50) + x3_3).toNatClampNeg) ((fm1_1 ((x + 50) + x3_3).toNatClampNeg) + fi.toInt64)) ((x + 10) + x3_3).toNatClampNeg)))) (x + 134).toNatClampNeg) + (if ((fu / 2).toInt64) < ((vp_updL fm1_1 (((x + 50) + x3_3).toNatClampNeg) ((fm1_1 ((x + 50) + x3_3).toNatClampNeg) + fi.toInt64)) ((x + 10) + x3_3).toNatClampNeg) then ((fu / 2).toInt64) else ((vp_updL fm1_1 (((x + 50) + x3_3).toNatClampNeg) ((fm1_1 ((x + 50) + x3_3).toNatClampNeg) + fi.toInt64)) ((x + 10) + x3_3).toNatClampNeg)))), aZ G m2 2 ik, aI G m3 20 zs, aI G m4 20 cl, aI G m5 20 hs, aI G m6 20 ks, aI G m7 20 wa, aI G m8 20 ne, aI G m9 4 mn, aI G m10 400 tx, aI G m11 6 th, aI G m12 6 od, aI G m13 30 bk, aI G m14 30 bh] := hD
            refine lv_aload_n hx hb dX8_pass_181 rfl (lv_at hl 4 rfl) ?_
            refine va_get (D := G.1) (ci := 8) (v := .ref m1) (C := RX8) (T := TX8) (N := 29) hx hb hts hinX8 hown hKK.1 hP 0 rfl rfl 0 (by decide) kl7 (fun _ h9 => h9) rfl dX8_pass_182 ?_
            refine lv_iload_n hx hb dX8_pass_185 rfl (lv_at hl 5 rfl) ?_
            refine lv_bipush (v := 30) hx hb dX8_pass_186 (by decide) ?_
            refine lv_iadd hx hb dX8_pass_188 ?_
            refine lv_iload_n hx hb dX8_pass_189 rfl (lv_at hl 2 rfl) ?_
            refine lv_iadd hx hb dX8_pass_190 ?_
            refine lv_dup2_11 hx hb dX8_pass_191 rfl rfl ?_
            obtain ⟨hin, hv⟩ := hv
            refine va_lald hx hb hKK.1 hP 1 2 rfl rfl hin dX8_pass_192 ?_
            refine lv_aload_n hx hb dX8_pass_193 rfl (lv_at hl 4 rfl) ?_
            refine lv_iload_n hx hb dX8_pass_194 rfl (lv_at hl 5 rfl) ?_
            refine lv_iload_n hx hb dX8_pass_195 rfl (lv_at hl 2 rfl) ?_
            obtain ⟨hp, hv⟩ := hv
            refine x_calliR (x_runV (As := [.int x, .int x3_3]) (rest := [.long ((vp_updL (vp_updL (vp_updL fm1_1 (((x + 50) + x3_3).toNatClampNeg) ((fm1_1 ((x + 50) + x3_3).toNatClampNeg) + fi.toInt64)) (((x + 10) + x3_3).toNatClampNeg) (((vp_updL fm1_1 (((x + 50) + x3_3).toNatClampNeg) ((fm1_1 ((x + 50) + x3_3).toNatClampNeg) + fi.toInt64)) ((x + 10) + x3_3).toNatClampNeg) - (if ((fu / 2).toInt64) < ((vp_updL fm1_1 (((x + 50) + x3_3).toNatClampNeg) ((fm1_1 ((x + 50) + x3_3).toNatClampNeg) + fi.toInt64)) ((x + 10) + x3_3).toNatClampNeg) then ((fu / 2).toInt64) else ((vp_updL fm1_1 (((x + 50) + x3_3).toNatClampNeg) ((fm1_1 ((x + 50) + x3_3).toNatClampNeg) + fi.toInt64)) ((x + 10) + x3_3).toNatClampNeg)))) ((x + 134).toNatClampNeg) (((vp_updL (vp_updL fm1_1 (((x + 50) + x3_3).toNatClampNeg) ((fm1_1 ((x + 50) + x3_3).toNatClampNeg) + fi.toInt64)) (((x + 10) + x3_3).toNatClampNeg) (((vp_updL fm1_1 (((x + 50) + x3_3).toNatClampNeg) ((fm1_1 ((x + 50) + x3_3).toNatClampNeg) + fi.toInt64)) ((x + 10) + x3_3).toNatClampNeg) - (if ((fu / 2).toInt64) < ((vp_updL fm1_1 (((x + 50) + x3_3).toNatClampNeg) ((fm1_1 ((x + 50) + x3_3).toNatClampNeg) + fi.toInt64)) ((x + 10) + x3_3).toNatClampNeg) then ((fu / 2).toInt64) else ((vp_updL fm1_1 (((x + 50) + x3_3).toNatClampNeg) ((fm1_1 ((x + 50) + x3_3).toNatClampNeg) + fi.toInt64)) ((x + 10) + x3_3).toNatClampNeg)))) (x + 134).toNatClampNeg) + (if ((fu / 2).toInt64) < ((vp_updL fm1_1 (((x + 50) + x3_3).toNatClampNeg) ((fm1_1 ((x + 50) + x3_3).toNatClampNeg) + fi.toInt64)) ((x + 10) + x3_3).toNatClampNeg) then ((fu / 2).toInt64) else ((vp_updL fm1_1 (((x + 50) + x3_3).toNatClampNeg) ((fm1_1 ((x + 50) + x3_3).toNatClampNeg) + fi.toInt64)) ((x + 10) + x3_3).toNatClampNeg)))) ((x + 30) + x3_3).toNatClampNeg), .int ((x + 30) + x3_3), .ref m1]) (n := 2) (C := RX8) (ci := 8) ⟨hx, hb, hml, hown, hts⟩ (k_X8_isCold l G m0 m1 m2 m3 m4 m5 m6 m7 m8 m9 m10 m11 m12 m13 m14 _ (vp_updL (vp_updL (vp_updL fm1_1 (((x + 50) + x3_3).toNatClampNeg) ((fm1_1 ((x + 50) + x3_3).toNatClampNeg) + fi.toInt64)) (((x + 10) + x3_3).toNatClampNeg) (((vp_updL fm1_1 (((x + 50) + x3_3).toNatClampNeg) ((fm1_1 ((x + 50) + x3_3).toNatClampNeg) + fi.toInt64)) ((x + 10) + x3_3).toNatClampNeg) - (if ((fu / 2).toInt64) < ((vp_updL fm1_1 (((x + 50) + x3_3).toNatClampNeg) ((fm1_1 ((x + 50) + x3_3).toNatClampNeg) + fi.toInt64)) ((x + 10) + x3_3).toNatClampNeg) then ((fu / 2).toInt64) else ((vp_updL fm1_1 (((x + 50) + x3_3).toNatClampNeg) ((fm1_1 ((x + 50) + x3_3).toNatClampNeg) + fi.toInt64)) ((x + 10) + x3_3).toNatClampNeg)))) ((x + 134).toNatClampNeg) (((vp_updL (vp_updL fm1_1 (((x + 50) + x3_3).toNatClampNeg) ((fm1_1 ((x + 50) + x3_3).toNatClampNeg) + fi.toInt64)) (((x + 10) + x3_3).toNatClampNeg) (((vp_updL fm1_1 (((x + 50) + x3_3).toNatClampNeg) ((fm1_1 ((x + 50) + x3_3).toNatClampNeg) + fi.toInt64)) ((x + 10) + x3_3).toNatClampNeg) - (if ((fu / 2).toInt64) < ((vp_updL fm1_1 (((x + 50) + x3_3).toNatClampNeg) ((fm1_1 ((x + 50) + x3_3).toNatClampNeg) + fi.toInt64)) ((x + 10) + x3_3).toNatClampNeg) then ((fu / 2).toInt64) else ((vp_updL fm1_1 (((x + 50) + x3_3).toNatClampNeg) ((fm1_1 ((x + 50) + x3_3).toNatClampNeg) + fi.toInt64)) ((x + 10) + x3_3).toNatClampNeg)))) (x + 134).toNatClampNeg) + (if ((fu / 2).toInt64) < ((vp_updL fm1_1 (((x + 50) + x3_3).toNatClampNeg) ((fm1_1 ((x + 50) + x3_3).toNatClampNeg) + fi.toInt64)) ((x + 10) + x3_3).toNatClampNeg) then ((fu / 2).toInt64) else ((vp_updL fm1_1 (((x + 50) + x3_3).toNatClampNeg) ((fm1_1 ((x + 50) + x3_3).toNatClampNeg) + fi.toInt64)) ((x + 10) + x3_3).toNatClampNeg)))) ik zs cl hs ks wa ne mn tx th od bk bh fu fd fi nu nw nf bf bn ts ap fs ln fo fa wr x x3_3 hp) gX8_pass_X8_isCold rfl (by decide +kernel) ⟨Nat.le_trans (Nat.le_of_ble_eq_true rfl) hRf, Nat.le_trans (Nat.le_of_ble_eq_true rfl) hRl⟩ hKK hSS hS hA hP hD [0, 1, 2, 3, 4, 5, 6, 7, 8, 9, 10, 11, 12, 13, 14] (by decide) rfl rfl rfl 0 rfl rfl hl.1 rfl (Nat.le_of_ble_eq_true rfl) dX8_pass_196) hP hD hS hA [0, 1, 2, 3, 4, 5, 6, 7, 8, 9, 10, 11, 12, 13, 14] rfl (fun r_33 _ H locs hw hP hS => ?_)
            have hv := hv r_33 hw
            refine x_calliR (x_runS (As := [.int r_33]) (rest := [.long ((vp_updL (vp_updL (vp_updL fm1_1 (((x + 50) + x3_3).toNatClampNeg) ((fm1_1 ((x + 50) + x3_3).toNatClampNeg) + fi.toInt64)) (((x + 10) + x3_3).toNatClampNeg) (((vp_updL fm1_1 (((x + 50) + x3_3).toNatClampNeg) ((fm1_1 ((x + 50) + x3_3).toNatClampNeg) + fi.toInt64)) ((x + 10) + x3_3).toNatClampNeg) - (if ((fu / 2).toInt64) < ((vp_updL fm1_1 (((x + 50) + x3_3).toNatClampNeg) ((fm1_1 ((x + 50) + x3_3).toNatClampNeg) + fi.toInt64)) ((x + 10) + x3_3).toNatClampNeg) then ((fu / 2).toInt64) else ((vp_updL fm1_1 (((x + 50) + x3_3).toNatClampNeg) ((fm1_1 ((x + 50) + x3_3).toNatClampNeg) + fi.toInt64)) ((x + 10) + x3_3).toNatClampNeg)))) ((x + 134).toNatClampNeg) (((vp_updL (vp_updL fm1_1 (((x + 50) + x3_3).toNatClampNeg) ((fm1_1 ((x + 50) + x3_3).toNatClampNeg) + fi.toInt64)) (((x + 10) + x3_3).toNatClampNeg) (((vp_updL fm1_1 (((x + 50) + x3_3).toNatClampNeg) ((fm1_1 ((x + 50) + x3_3).toNatClampNeg) + fi.toInt64)) ((x + 10) + x3_3).toNatClampNeg) - (if ((fu / 2).toInt64) < ((vp_updL fm1_1 (((x + 50) + x3_3).toNatClampNeg) ((fm1_1 ((x + 50) + x3_3).toNatClampNeg) + fi.toInt64)) ((x + 10) + x3_3).toNatClampNeg) then ((fu / 2).toInt64) else ((vp_updL fm1_1 (((x + 50) + x3_3).toNatClampNeg) ((fm1_1 ((x + 50) + x3_3).toNatClampNeg) + fi.toInt64)) ((x + 10) + x3_3).toNatClampNeg)))) (x + 134).toNatClampNeg) + (if ((fu / 2).toInt64) < ((vp_updL fm1_1 (((x + 50) + x3_3).toNatClampNeg) ((fm1_1 ((x + 50) + x3_3).toNatClampNeg) + fi.toInt64)) ((x + 10) + x3_3).toNatClampNeg) then ((fu / 2).toInt64) else ((vp_updL fm1_1 (((x + 50) + x3_3).toNatClampNeg) ((fm1_1 ((x + 50) + x3_3).toNatClampNeg) + fi.toInt64)) ((x + 10) + x3_3).toNatClampNeg)))) ((x + 30) + x3_3).toNatClampNeg), .int ((x + 30) + x3_3), .ref m1]) (n := 1) ⟨hx, hb, hml, hown, hts⟩ (k_X8_one l G  _ r_33) gX8_pass_X8_one rfl (by decide +kernel) ⟨Nat.le_trans (Nat.le_of_ble_eq_true rfl) hRf, Nat.le_trans (Nat.le_of_ble_eq_true rfl) hRl⟩ hKK hSS hS hA hP hD [] (by decide) rfl rfl hl.1 rfl (Nat.le_of_ble_eq_true rfl) dX8_pass_199) hP hD hS hA [] rfl (fun r_34 _ H locs hw hP hS => ?_)
            replace hw := hw.symm; subst hw
            refine lv_i2l hx hb dX8_pass_202 rfl ?_
            refine lv_ladd hx hb dX8_pass_203 ?_
            obtain ⟨hin, hv⟩ := hv
            refine va_last hx hb hKK.1 hP hD hS 1 2 rfl rfl hin dX8_pass_204 (fun H locs hP hD hS => ?_)
            have hP : va_P G.1 vwCl [(m0, .inr (8, [.ref m1, .ref m2, .ref m3, .ref m4, .ref m5, .ref m6, .ref m7, .ref m8, .ref m9, .int fu, .int fd, .int fi, .int nu, .int nw, .int nf, .int bf, .int bn, .ref m10, .int ts, .int ap, .int fs, .int ln, .int fo, .int fa, .ref m11, .ref m12, .ref m13, .ref m14, .int wr])), aJ G m1 560 (vp_updL (vp_updL (vp_updL (vp_updL fm1_1 (((x + 50) + x3_3).toNatClampNeg) ((fm1_1 ((x + 50) + x3_3).toNatClampNeg) + fi.toInt64)) (((x + 10) + x3_3).toNatClampNeg) (((vp_updL fm1_1 (((x + 50) + x3_3).toNatClampNeg) ((fm1_1 ((x + 50) + x3_3).toNatClampNeg) + fi.toInt64)) ((x + 10) + x3_3).toNatClampNeg) - (if ((fu / 2).toInt64) < ((vp_updL fm1_1 (((x + 50) + x3_3).toNatClampNeg) ((fm1_1 ((x + 50) + x3_3).toNatClampNeg) + fi.toInt64)) ((x + 10) + x3_3).toNatClampNeg) then ((fu / 2).toInt64) else ((vp_updL fm1_1 (((x + 50) + x3_3).toNatClampNeg) ((fm1_1 ((x + 50) + x3_3).toNatClampNeg) + fi.toInt64)) ((x + 10) + x3_3).toNatClampNeg)))) ((x + 134).toNatClampNeg) (((vp_updL (vp_updL fm1_1 (((x + 50) + x3_3).toNatClampNeg) ((fm1_1 ((x + 50) + x3_3).toNatClampNeg) + fi.toInt64)) (((x + 10) + x3_3).toNatClampNeg) (((vp_updL fm1_1 (((x + 50) + x3_3).toNatClampNeg) ((fm1_1 ((x + 50) + x3_3).toNatClampNeg) + fi.toInt64)) ((x + 10) + x3_3).toNatClampNeg) - (if ((fu / 2).toInt64) < ((vp_updL fm1_1 (((x + 50) + x3_3).toNatClampNeg) ((fm1_1 ((x + 50) + x3_3).toNatClampNeg) + fi.toInt64)) ((x + 10) + x3_3).toNatClampNeg) then ((fu / 2).toInt64) else ((vp_updL fm1_1 (((x + 50) + x3_3).toNatClampNeg) ((fm1_1 ((x + 50) + x3_3).toNatClampNeg) + fi.toInt64)) ((x + 10) + x3_3).toNatClampNeg)))) (x + 134).toNatClampNeg) + (if ((fu / 2).toInt64) < ((vp_updL fm1_1 (((x + 50) + x3_3).toNatClampNeg) ((fm1_1 ((x + 50) + x3_3).toNatClampNeg) + fi.toInt64)) ((x + 10) + x3_3).toNatClampNeg) then ((fu / 2).toInt64) else ((vp_updL fm1_1 (((x + 50) + x3_3).toNatClampNeg) ((fm1_1 ((x + 50) + x3_3).toNatClampNeg) + fi.toInt64)) ((x + 10) + x3_3).toNatClampNeg)))) (((x + 30) + x3_3).toNatClampNeg) (((vp_updL (vp_updL (vp_updL fm1_1 (((x + 50) + x3_3).toNatClampNeg) ((fm1_1 ((x + 50) + x3_3).toNatClampNeg) + fi.toInt64)) (((x + 10) + x3_3).toNatClampNeg) (((vp_updL fm1_1 (((x + 50) + x3_3).toNatClampNeg) ((fm1_1 ((x + 50) + x3_3).toNatClampNeg) + fi.toInt64)) ((x + 10) + x3_3).toNatClampNeg) - (if ((fu / 2).toInt64) < ((vp_updL fm1_1 (((x + 50) + x3_3).toNatClampNeg) ((fm1_1 ((x + 50) + x3_3).toNatClampNeg) + fi.toInt64)) ((x + 10) + x3_3).toNatClampNeg) then ((fu / 2).toInt64) else ((vp_updL fm1_1 (((x + 50) + x3_3).toNatClampNeg) ((fm1_1 ((x + 50) + x3_3).toNatClampNeg) + fi.toInt64)) ((x + 10) + x3_3).toNatClampNeg)))) ((x + 134).toNatClampNeg) (((vp_updL (vp_updL fm1_1 (((x + 50) + x3_3).toNatClampNeg) ((fm1_1 ((x + 50) + x3_3).toNatClampNeg) + fi.toInt64)) (((x + 10) + x3_3).toNatClampNeg) (((vp_updL fm1_1 (((x + 50) + x3_3).toNatClampNeg) ((fm1_1 ((x + 50) + x3_3).toNatClampNeg) + fi.toInt64)) ((x + 10) + x3_3).toNatClampNeg) - (if ((fu / 2).toInt64) < ((vp_updL fm1_1 (((x + 50) + x3_3).toNatClampNeg) ((fm1_1 ((x + 50) + x3_3).toNatClampNeg) + fi.toInt64)) ((x + 10) + x3_3).toNatClampNeg) then ((fu / 2).toInt64) else ((vp_updL fm1_1 (((x + 50) + x3_3).toNatClampNeg) ((fm1_1 ((x + 50) + x3_3).toNatClampNeg) + fi.toInt64)) ((x + 10) + x3_3).toNatClampNeg)))) (x + 134).toNatClampNeg) + (if ((fu / 2).toInt64) < ((vp_updL fm1_1 (((x + 50) + x3_3).toNatClampNeg) ((fm1_1 ((x + 50) + x3_3).toNatClampNeg) + fi.toInt64)) ((x + 10) + x3_3).toNatClampNeg) then ((fu / 2).toInt64) else ((vp_updL fm1_1 (((x + 50) + x3_3).toNatClampNeg) ((fm1_1 ((x + 50) + x3_3).toNatClampNeg) + fi.toInt64)) ((x + 10) + x3_3).toNatClampNeg)))) ((x + 30) + x3_3).toNatClampNeg) + ((if r_33 = 0 then 0 else 1) : Int32).toInt64)), aZ G m2 2 ik, aI G m3 20 zs, aI G m4 20 cl, aI G m5 20 hs, aI G m6 20 ks, aI G m7 20 wa, aI G m8 20 ne, aI G m9 4 mn, aI G m10 400 tx, aI G m11 6 th, aI G m12 6 od, aI G m13 30 bk, aI G m14 30 bh] H := hP
            have hD : va_D A [(m0, .inr (8, [.ref m1, .ref m2, .ref m3, .ref m4, .ref m5, .ref m6, .ref m7, .ref m8, .ref m9, .int fu, .int fd, .int fi, .int nu, .int nw, .int nf, .int bf, .int bn, .ref m10, .int ts, .int ap, .int fs, .int ln, .int fo, .int fa, .ref m11, .ref m12, .ref m13, .ref m14, .int wr])), aJ G m1 560 (vp_updL (vp_updL (vp_updL (vp_updL fm1_1 (((x + 50) + x3_3).toNatClampNeg) ((fm1_1 ((x + 50) + x3_3).toNatClampNeg) + fi.toInt64)) (((x + 10) + x3_3).toNatClampNeg) (((vp_updL fm1_1 (((x + 50) + x3_3).toNatClampNeg) ((fm1_1 ((x + 50) + x3_3).toNatClampNeg) + fi.toInt64)) ((x + 10) + x3_3).toNatClampNeg) - (if ((fu / 2).toInt64) < ((vp_updL fm1_1 (((x + 50) + x3_3).toNatClampNeg) ((fm1_1 ((x + 50) + x3_3).toNatClampNeg) + fi.toInt64)) ((x + 10) + x3_3).toNatClampNeg) then ((fu / 2).toInt64) else ((vp_updL fm1_1 (((x + 50) + x3_3).toNatClampNeg) ((fm1_1 ((x + 50) + x3_3).toNatClampNeg) + fi.toInt64)) ((x + 10) + x3_3).toNatClampNeg)))) ((x + 134).toNatClampNeg) (((vp_updL (vp_updL fm1_1 (((x + 50) + x3_3).toNatClampNeg) ((fm1_1 ((x + 50) + x3_3).toNatClampNeg) + fi.toInt64)) (((x + 10) + x3_3).toNatClampNeg) (((vp_updL fm1_1 (((x + 50) + x3_3).toNatClampNeg) ((fm1_1 ((x + 50) + x3_3).toNatClampNeg) + fi.toInt64)) ((x + 10) + x3_3).toNatClampNeg) - (if ((fu / 2).toInt64) < ((vp_updL fm1_1 (((x + 50) + x3_3).toNatClampNeg) ((fm1_1 ((x + 50) + x3_3).toNatClampNeg) + fi.toInt64)) ((x + 10) + x3_3).toNatClampNeg) then ((fu / 2).toInt64) else ((vp_updL fm1_1 (((x + 50) + x3_3).toNatClampNeg) ((fm1_1 ((x + 50) + x3_3).toNatClampNeg) + fi.toInt64)) ((x + 10) + x3_3).toNatClampNeg)))) (x + 134).toNatClampNeg) + (if ((fu / 2).toInt64) < ((vp_updL fm1_1 (((x + 50) + x3_3).toNatClampNeg) ((fm1_1 ((x + 50) + x3_3).toNatClampNeg) + fi.toInt64)) ((x + 10) + x3_3).toNatClampNeg) then ((fu / 2).toInt64) else ((vp_updL fm1_1 (((x + 50) + x3_3).toNatClampNeg) ((fm1_1 ((x + 50) + x3_3).toNatClampNeg) + fi.toInt64)) ((x + 10) + x3_3).toNatClampNeg)))) (((x + 30) + x3_3).toNatClampNeg) (((vp_updL (vp_updL (vp_updL fm1_1 (((x + 50) + x3_3).toNatClampNeg) ((fm1_1 ((x + 50) + x3_3).toNatClampNeg) + fi.toInt64)) (((x + 10) + x3_3).toNatClampNeg) (((vp_updL fm1_1 (((x + 50) + x3_3).toNatClampNeg) ((fm1_1 ((x + 50) + x3_3).toNatClampNeg) + fi.toInt64)) ((x + 10) + x3_3).toNatClampNeg) - (if ((fu / 2).toInt64) < ((vp_updL fm1_1 (((x + 50) + x3_3).toNatClampNeg) ((fm1_1 ((x + 50) + x3_3).toNatClampNeg) + fi.toInt64)) ((x + 10) + x3_3).toNatClampNeg) then ((fu / 2).toInt64) else ((vp_updL fm1_1 (((x + 50) + x3_3).toNatClampNeg) ((fm1_1 ((x + 50) + x3_3).toNatClampNeg) + fi.toInt64)) ((x + 10) + x3_3).toNatClampNeg)))) ((x + 134).toNatClampNeg) (((vp_updL (vp_updL fm1_1 (((x + 50) + x3_3).toNatClampNeg) ((fm1_1 ((x + 50) + x3_3).toNatClampNeg) + fi.toInt64)) (((x + 10) + x3_3).toNatClampNeg) (((vp_updL fm1_1 (((x + 50) + x3_3).toNatClampNeg) ((fm1_1 ((x + 50) + x3_3).toNatClampNeg) + fi.toInt64)) ((x + 10) + x3_3).toNatClampNeg) - (if ((fu / 2).toInt64) < ((vp_updL fm1_1 (((x + 50) + x3_3).toNatClampNeg) ((fm1_1 ((x + 50) + x3_3).toNatClampNeg) + fi.toInt64)) ((x + 10) + x3_3).toNatClampNeg) then ((fu / 2).toInt64) else ((vp_updL fm1_1 (((x + 50) + x3_3).toNatClampNeg) ((fm1_1 ((x + 50) + x3_3).toNatClampNeg) + fi.toInt64)) ((x + 10) + x3_3).toNatClampNeg)))) (x + 134).toNatClampNeg) + (if ((fu / 2).toInt64) < ((vp_updL fm1_1 (((x + 50) + x3_3).toNatClampNeg) ((fm1_1 ((x + 50) + x3_3).toNatClampNeg) + fi.toInt64)) ((x + 10) + x3_3).toNatClampNeg) then ((fu / 2).toInt64) else ((vp_updL fm1_1 (((x + 50) + x3_3).toNatClampNeg) ((fm1_1 ((x + 50) + x3_3).toNatClampNeg) + fi.toInt64)) ((x + 10) + x3_3).toNatClampNeg)))) ((x + 30) + x3_3).toNatClampNeg) + ((if r_33 = 0 then 0 else 1) : Int32).toInt64)), aZ G m2 2 ik, aI G m3 20 zs, aI G m4 20 cl, aI G m5 20 hs, aI G m6 20 ks, aI G m7 20 wa, aI G m8 20 ne, aI G m9 4 mn, aI G m10 400 tx, aI G m11 6 th, aI G m12 6 od, aI G m13 30 bk, aI G m14 30 bh] := hD
            refine lv_iload_n hx hb dX8_pass_205 rfl (lv_at hl 3 rfl) ?_
            refine lv_aload_n hx hb dX8_pass_206 rfl (lv_at hl 4 rfl) ?_
            refine lv_iload_n hx hb dX8_pass_207 rfl (lv_at hl 5 rfl) ?_
            refine lv_iload_n hx hb dX8_pass_208 rfl (lv_at hl 2 rfl) ?_
            obtain ⟨hp, hv⟩ := hv
            refine x_calliR (x_runV (As := [.int x, .int x3_3]) (rest := [.int x2_2]) (n := 2) (C := RX8) (ci := 8) ⟨hx, hb, hml, hown, hts⟩ (k_X8_isCold l G m0 m1 m2 m3 m4 m5 m6 m7 m8 m9 m10 m11 m12 m13 m14 _ (vp_updL (vp_updL (vp_updL (vp_updL fm1_1 (((x + 50) + x3_3).toNatClampNeg) ((fm1_1 ((x + 50) + x3_3).toNatClampNeg) + fi.toInt64)) (((x + 10) + x3_3).toNatClampNeg) (((vp_updL fm1_1 (((x + 50) + x3_3).toNatClampNeg) ((fm1_1 ((x + 50) + x3_3).toNatClampNeg) + fi.toInt64)) ((x + 10) + x3_3).toNatClampNeg) - (if ((fu / 2).toInt64) < ((vp_updL fm1_1 (((x + 50) + x3_3).toNatClampNeg) ((fm1_1 ((x + 50) + x3_3).toNatClampNeg) + fi.toInt64)) ((x + 10) + x3_3).toNatClampNeg) then ((fu / 2).toInt64) else ((vp_updL fm1_1 (((x + 50) + x3_3).toNatClampNeg) ((fm1_1 ((x + 50) + x3_3).toNatClampNeg) + fi.toInt64)) ((x + 10) + x3_3).toNatClampNeg)))) ((x + 134).toNatClampNeg) (((vp_updL (vp_updL fm1_1 (((x + 50) + x3_3).toNatClampNeg) ((fm1_1 ((x + 50) + x3_3).toNatClampNeg) + fi.toInt64)) (((x + 10) + x3_3).toNatClampNeg) (((vp_updL fm1_1 (((x + 50) + x3_3).toNatClampNeg) ((fm1_1 ((x + 50) + x3_3).toNatClampNeg) + fi.toInt64)) ((x + 10) + x3_3).toNatClampNeg) - (if ((fu / 2).toInt64) < ((vp_updL fm1_1 (((x + 50) + x3_3).toNatClampNeg) ((fm1_1 ((x + 50) + x3_3).toNatClampNeg) + fi.toInt64)) ((x + 10) + x3_3).toNatClampNeg) then ((fu / 2).toInt64) else ((vp_updL fm1_1 (((x + 50) + x3_3).toNatClampNeg) ((fm1_1 ((x + 50) + x3_3).toNatClampNeg) + fi.toInt64)) ((x + 10) + x3_3).toNatClampNeg)))) (x + 134).toNatClampNeg) + (if ((fu / 2).toInt64) < ((vp_updL fm1_1 (((x + 50) + x3_3).toNatClampNeg) ((fm1_1 ((x + 50) + x3_3).toNatClampNeg) + fi.toInt64)) ((x + 10) + x3_3).toNatClampNeg) then ((fu / 2).toInt64) else ((vp_updL fm1_1 (((x + 50) + x3_3).toNatClampNeg) ((fm1_1 ((x + 50) + x3_3).toNatClampNeg) + fi.toInt64)) ((x + 10) + x3_3).toNatClampNeg)))) (((x + 30) + x3_3).toNatClampNeg) (((vp_updL (vp_updL (vp_updL fm1_1 (((x + 50) + x3_3).toNatClampNeg) ((fm1_1 ((x + 50) + x3_3).toNatClampNeg) + fi.toInt64)) (((x + 10) + x3_3).toNatClampNeg) (((vp_updL fm1_1 (((x + 50) + x3_3).toNatClampNeg) ((fm1_1 ((x + 50) + x3_3).toNatClampNeg) + fi.toInt64)) ((x + 10) + x3_3).toNatClampNeg) - (if ((fu / 2).toInt64) < ((vp_updL fm1_1 (((x + 50) + x3_3).toNatClampNeg) ((fm1_1 ((x + 50) + x3_3).toNatClampNeg) + fi.toInt64)) ((x + 10) + x3_3).toNatClampNeg) then ((fu / 2).toInt64) else ((vp_updL fm1_1 (((x + 50) + x3_3).toNatClampNeg) ((fm1_1 ((x + 50) + x3_3).toNatClampNeg) + fi.toInt64)) ((x + 10) + x3_3).toNatClampNeg)))) ((x + 134).toNatClampNeg) (((vp_updL (vp_updL fm1_1 (((x + 50) + x3_3).toNatClampNeg) ((fm1_1 ((x + 50) + x3_3).toNatClampNeg) + fi.toInt64)) (((x + 10) + x3_3).toNatClampNeg) (((vp_updL fm1_1 (((x + 50) + x3_3).toNatClampNeg) ((fm1_1 ((x + 50) + x3_3).toNatClampNeg) + fi.toInt64)) ((x + 10) + x3_3).toNatClampNeg) - (if ((fu / 2).toInt64) < ((vp_updL fm1_1 (((x + 50) + x3_3).toNatClampNeg) ((fm1_1 ((x + 50) + x3_3).toNatClampNeg) + fi.toInt64)) ((x + 10) + x3_3).toNatClampNeg) then ((fu / 2).toInt64) else ((vp_updL fm1_1 (((x + 50) + x3_3).toNatClampNeg) ((fm1_1 ((x + 50) + x3_3).toNatClampNeg) + fi.toInt64)) ((x + 10) + x3_3).toNatClampNeg)))) (x + 134).toNatClampNeg) + (if ((fu / 2).toInt64) < ((vp_updL fm1_1 (((x + 50) + x3_3).toNatClampNeg) ((fm1_1 ((x + 50) + x3_3).toNatClampNeg) + fi.toInt64)) ((x + 10) + x3_3).toNatClampNeg) then ((fu / 2).toInt64) else ((vp_updL fm1_1 (((x + 50) + x3_3).toNatClampNeg) ((fm1_1 ((x + 50) + x3_3).toNatClampNeg) + fi.toInt64)) ((x + 10) + x3_3).toNatClampNeg)))) ((x + 30) + x3_3).toNatClampNeg) + ((if r_33 = 0 then 0 else 1) : Int32).toInt64)) ik zs cl hs ks wa ne mn tx th od bk bh fu fd fi nu nw nf bf bn ts ap fs ln fo fa wr x x3_3 hp) gX8_pass_X8_isCold rfl (by decide +kernel) ⟨Nat.le_trans (Nat.le_of_ble_eq_true rfl) hRf, Nat.le_trans (Nat.le_of_ble_eq_true rfl) hRl⟩ hKK hSS hS hA hP hD [0, 1, 2, 3, 4, 5, 6, 7, 8, 9, 10, 11, 12, 13, 14] (by decide) rfl rfl rfl 0 rfl rfl hl.1 rfl (Nat.le_of_ble_eq_true rfl) dX8_pass_209) hP hD hS hA [0, 1, 2, 3, 4, 5, 6, 7, 8, 9, 10, 11, 12, 13, 14] rfl (fun r_35 _ H locs hw hP hS => ?_)
            have hv := hv r_35 hw
            refine x_calliR (x_runS (As := [.int r_35]) (rest := [.int x2_2]) (n := 1) ⟨hx, hb, hml, hown, hts⟩ (k_X8_one l G  _ r_35) gX8_pass_X8_one rfl (by decide +kernel) ⟨Nat.le_trans (Nat.le_of_ble_eq_true rfl) hRf, Nat.le_trans (Nat.le_of_ble_eq_true rfl) hRl⟩ hKK hSS hS hA hP hD [] (by decide) rfl rfl hl.1 rfl (Nat.le_of_ble_eq_true rfl) dX8_pass_212) hP hD hS hA [] rfl (fun r_36 _ H locs hw hP hS => ?_)
            replace hw := hw.symm; subst hw
            refine lv_iload_n hx hb dX8_pass_215 rfl (lv_at hl 2 rfl) ?_
            refine lv_ishl hx hb dX8_pass_216 ?_
            refine lv_ior hx hb dX8_pass_217 ?_
            refine lv_istore_n (lv' := [(2, .int (x2_2 ||| ((if r_35 = 0 then 0 else 1) <<< (x3_3 &&& 31)))), (5, .long (if ((fu / 2).toInt64) < ((vp_updL fm1_1 (((x + 50) + x3_3).toNatClampNeg) ((fm1_1 ((x + 50) + x3_3).toNatClampNeg) + fi.toInt64)) ((x + 10) + x3_3).toNatClampNeg) then ((fu / 2).toInt64) else ((vp_updL fm1_1 (((x + 50) + x3_3).toNatClampNeg) ((fm1_1 ((x + 50) + x3_3).toNatClampNeg) + fi.toInt64)) ((x + 10) + x3_3).toNatClampNeg))), (4, .int 0), (3, .int x3_3), (0, .ref m0), (1, .int x)]) hx hb dX8_pass_218 rfl hl (by decide) rfl (fun ls hl => ?_)
            refine lv_iinc (v := (x3_3 + 1)) (lv' := [(3, .int (x3_3 + 1)), (2, .int (x2_2 ||| ((if r_35 = 0 then 0 else 1) <<< (x3_3 &&& 31)))), (5, .long (if ((fu / 2).toInt64) < ((vp_updL fm1_1 (((x + 50) + x3_3).toNatClampNeg) ((fm1_1 ((x + 50) + x3_3).toNatClampNeg) + fi.toInt64)) ((x + 10) + x3_3).toNatClampNeg) then ((fu / 2).toInt64) else ((vp_updL fm1_1 (((x + 50) + x3_3).toNatClampNeg) ((fm1_1 ((x + 50) + x3_3).toNatClampNeg) + fi.toInt64)) ((x + 10) + x3_3).toNatClampNeg))), (4, .int 0), (0, .ref m0), (1, .int x)]) hx hb dX8_pass_219 hl (k := 3) rfl rfl (by decide) rfl (fun ls hl => ?_)
            refine lv_goto (tgt := 18) hx hb dX8_pass_222 (by decide) ?_
            exact ih_6 _ _ _ _ _ _ (Nat.lt_of_lt_of_le hv.2 (Nat.le_of_lt_succ hI_7)) hv.1 hP hD hS (lv_sub hl [0, 1, 4, 5] rfl)
        · have hv := hv.2 (fun h => hc_23 ((lg_cmp_lt _ _).mpr h))
          refine lv_iconst (v := 1) hx hb dX8_pass_44 (by decide) ?_
          refine lv_goto (tgt := 49) hx hb dX8_pass_45 (by decide) ?_
          refine lv_istore (lv' := [(4, .int 1), (3, .int x3_3), (2, .int x2_2), (0, .ref m0), (1, .int x)]) hx hb dX8_pass_49 hl (by decide) rfl (fun ls hl => ?_)
          refine lv_iload hx hb dX8_pass_51 (lv_at hl 0 rfl) ?_
          refine lv_if_eq (tgt := 77) hx hb dX8_pass_53 (by decide) (fun hc_37 => absurd hc_37 (by decide)) (fun hc_37 => ?_)
          refine lv_aload_n hx hb dX8_pass_56 rfl (lv_at hl 3 rfl) ?_
          refine lv_iload_n hx hb dX8_pass_57 rfl (lv_at hl 4 rfl) ?_
          refine lv_iload_n hx hb dX8_pass_58 rfl (lv_at hl 1 rfl) ?_
          refine lv_aload_n hx hb dX8_pass_59 rfl (lv_at hl 3 rfl) ?_
          refine va_get (D := G.1) (ci := 8) (v := .ref m1) (C := RX8) (T := TX8) (N := 29) hx hb hts hinX8 hown hKK.1 hP 0 rfl rfl 0 (by decide) kl7 (fun _ h9 => h9) rfl dX8_pass_60 ?_
          refine lv_iload_n hx hb dX8_pass_63 rfl (lv_at hl 4 rfl) ?_
          refine lv_bipush (v := 20) hx hb dX8_pass_64 (by decide) ?_
          refine lv_iadd hx hb dX8_pass_66 ?_
          refine lv_iload_n hx hb dX8_pass_67 rfl (lv_at hl 1 rfl) ?_
          refine lv_iadd hx hb dX8_pass_68 ?_
          obtain ⟨hin, hv⟩ := hv
          refine va_lald hx hb hKK.1 hP 1 2 rfl rfl hin dX8_pass_69 ?_
          refine lv_l2i hx hb dX8_pass_70 rfl ?_
          obtain ⟨hp, hv⟩ := hv
          refine x_callv (wr := []) (w' := fun (u : (Nat → Int64)) => [(m0, .inr (8, [.ref m1, .ref m2, .ref m3, .ref m4, .ref m5, .ref m6, .ref m7, .ref m8, .ref m9, .int fu, .int fd, .int fi, .int nu, .int nw, .int nf, .int bf, .int bn, .ref m10, .int ts, .int ap, .int fs, .int ln, .int fo, .int fa, .ref m11, .ref m12, .ref m13, .ref m14, .int wr])), aJ G m1 560 u, aZ G m2 2 ik, aI G m3 20 zs, aI G m4 20 cl, aI G m5 20 hs, aI G m6 20 ks, aI G m7 20 wa, aI G m8 20 ne, aI G m9 4 mn, aI G m10 400 tx, aI G m11 6 th, aI G m12 6 od, aI G m13 30 bk, aI G m14 30 bh]) (x_runV (As := [.int x, .int x3_3, .int ((fm1_1 ((x + 20) + x3_3).toNatClampNeg).toInt32)]) (rest := []) (n := 3) (C := RX8) (ci := 8) ⟨hx, hb, hml, hown, hts⟩ (k_X8_sitOn l G m0 m1 m2 m3 m4 m5 m6 m7 m8 m9 m10 m11 m12 m13 m14 _ fm1_1 ik zs cl hs ks wa ne mn tx th od bk bh fu fd fi nu nw nf bf bn ts ap fs ln fo fa wr x x3_3 ((fm1_1 ((x + 20) + x3_3).toNatClampNeg).toInt32) hp) gX8_pass_X8_sitOn rfl (by decide +kernel) ⟨Nat.le_trans (Nat.le_of_ble_eq_true rfl) hRf, Nat.le_trans (Nat.le_of_ble_eq_true rfl) hRl⟩ hKK hSS hS hA hP hD [0, 1, 2, 3, 4, 5, 6, 7, 8, 9, 10, 11, 12, 13, 14] (by decide) rfl rfl rfl 0 rfl rfl hl.1 rfl (Nat.le_of_ble_eq_true rfl) dX8_pass_71) hP hD hS hA [0, 1, 2, 3, 4, 5, 6, 7, 8, 9, 10, 11, 12, 13, 14] [] [0, 1, 2, 3, 4, 5, 6, 7, 8, 9, 10, 11, 12, 13, 14] rfl rfl (by decide) (by decide) (by decide) (fun _ => rfl) (fun  u H locs hw hP hD hS => ?_)
          obtain ⟨mw2_39, rfl⟩ : ∃ z, z = u := ⟨_, rfl⟩
          have hP : va_P G.1 vwCl [(m0, .inr (8, [.ref m1, .ref m2, .ref m3, .ref m4, .ref m5, .ref m6, .ref m7, .ref m8, .ref m9, .int fu, .int fd, .int fi, .int nu, .int nw, .int nf, .int bf, .int bn, .ref m10, .int ts, .int ap, .int fs, .int ln, .int fo, .int fa, .ref m11, .ref m12, .ref m13, .ref m14, .int wr])), aJ G m1 560 mw2_39, aZ G m2 2 ik, aI G m3 20 zs, aI G m4 20 cl, aI G m5 20 hs, aI G m6 20 ks, aI G m7 20 wa, aI G m8 20 ne, aI G m9 4 mn, aI G m10 400 tx, aI G m11 6 th, aI G m12 6 od, aI G m13 30 bk, aI G m14 30 bh] H := hP
          have hD : va_D A [(m0, .inr (8, [.ref m1, .ref m2, .ref m3, .ref m4, .ref m5, .ref m6, .ref m7, .ref m8, .ref m9, .int fu, .int fd, .int fi, .int nu, .int nw, .int nf, .int bf, .int bn, .ref m10, .int ts, .int ap, .int fs, .int ln, .int fo, .int fa, .ref m11, .ref m12, .ref m13, .ref m14, .int wr])), aJ G m1 560 mw2_39, aZ G m2 2 ik, aI G m3 20 zs, aI G m4 20 cl, aI G m5 20 hs, aI G m6 20 ks, aI G m7 20 wa, aI G m8 20 ne, aI G m9 4 mn, aI G m10 400 tx, aI G m11 6 th, aI G m12 6 od, aI G m13 30 bk, aI G m14 30 bh] := hD
          have hv := hv mw2_39 hw
          refine lv_goto (tgt := 96) hx hb dX8_pass_74 (by decide) ?_
          refine lv_aload_n hx hb dX8_pass_96 rfl (lv_at hl 3 rfl) ?_
          refine va_get (D := G.1) (ci := 8) (v := .ref m6) (C := RX8) (T := TX8) (N := 29) hx hb hts hinX8 hown hKK.1 hP 0 rfl rfl 5 (by decide) kl27 (fun _ h9 => h9) rfl dX8_pass_97 ?_
          refine lv_iload_n hx hb dX8_pass_100 rfl (lv_at hl 1 rfl) ?_
          obtain ⟨hin, hv⟩ := hv
          refine va_iald hx hb hKK.1 hP 6 0 rfl rfl hin dX8_pass_101 ?_
          refine lv_iconst (v := 4) hx hb dX8_pass_102 (by decide) ?_
          refine lv_icmp_ne (tgt := 116) hx hb dX8_pass_103 (by decide) (fun hc_40 => ?_) (fun hc_40 => ?_)
          · have hv := hv.1 hc_40
            refine lv_iload hx hb dX8_pass_116 (lv_at hl 0 rfl) ?_
            refine lv_if_eq (tgt := 129) hx hb dX8_pass_118 (by decide) (fun hc_41 => absurd hc_41 (by decide)) (fun hc_41 => ?_)
            refine lv_aload_n hx hb dX8_pass_121 rfl (lv_at hl 3 rfl) ?_
            refine va_get (D := G.1) (ci := 8) (v := .int fd) (C := RX8) (T := TX8) (N := 29) hx hb hts hinX8 hown hKK.1 hP 0 rfl rfl 10 (by decide) kl43 (fun _ h9 => h9) rfl dX8_pass_122 ?_
            refine lv_i2l hx hb dX8_pass_125 rfl ?_
            refine lv_goto (tgt := 134) hx hb dX8_pass_126 (by decide) ?_
            refine lv_aload_n hx hb dX8_pass_134 rfl (lv_at hl 3 rfl) ?_
            refine va_get (D := G.1) (ci := 8) (v := .ref m1) (C := RX8) (T := TX8) (N := 29) hx hb hts hinX8 hown hKK.1 hP 0 rfl rfl 0 (by decide) kl7 (fun _ h9 => h9) rfl dX8_pass_135 ?_
            refine lv_iload_n hx hb dX8_pass_138 rfl (lv_at hl 4 rfl) ?_
            refine lv_bipush (v := 10) hx hb dX8_pass_139 (by decide) ?_
            refine lv_iadd hx hb dX8_pass_141 ?_
            refine lv_iload_n hx hb dX8_pass_142 rfl (lv_at hl 1 rfl) ?_
            refine lv_iadd hx hb dX8_pass_143 ?_
            obtain ⟨hin, hv⟩ := hv
            refine va_lald hx hb hKK.1 hP 1 2 rfl rfl hin dX8_pass_144 ?_
            refine x_calllR (x_runS (As := [.long fd.toInt64, .long (mw2_39 ((x + 10) + x3_3).toNatClampNeg)]) (rest := []) (n := 2) ⟨hx, hb, hml, hown, hts⟩ (k_X8_less l G  _ fd.toInt64 (mw2_39 ((x + 10) + x3_3).toNatClampNeg)) gX8_pass_X8_less rfl (by decide +kernel) ⟨Nat.le_trans (Nat.le_of_ble_eq_true rfl) hRf, Nat.le_trans (Nat.le_of_ble_eq_true rfl) hRl⟩ hKK hSS hS hA hP hD [] (by decide) rfl rfl hl.1 rfl (Nat.le_of_ble_eq_true rfl) dX8_pass_145) hP hD hS hA [] rfl (fun r_42 _ H locs hw hP hS => ?_)
            replace hw := hw.symm; subst hw
            refine lv_lstore (lv' := [(5, .long (if fd.toInt64 < (mw2_39 ((x + 10) + x3_3).toNatClampNeg) then fd.toInt64 else (mw2_39 ((x + 10) + x3_3).toNatClampNeg))), (4, .int 1), (3, .int x3_3), (2, .int x2_2), (0, .ref m0), (1, .int x)]) hx hb dX8_pass_148 hl (by decide) rfl (fun ls hl => ?_)
            refine lv_aload_n hx hb dX8_pass_150 rfl (lv_at hl 4 rfl) ?_
            refine va_get (D := G.1) (ci := 8) (v := .ref m1) (C := RX8) (T := TX8) (N := 29) hx hb hts hinX8 hown hKK.1 hP 0 rfl rfl 0 (by decide) kl7 (fun _ h9 => h9) rfl dX8_pass_151 ?_
            refine lv_iload_n hx hb dX8_pass_154 rfl (lv_at hl 5 rfl) ?_
            refine lv_bipush (v := 10) hx hb dX8_pass_155 (by decide) ?_
            refine lv_iadd hx hb dX8_pass_157 ?_
            refine lv_iload_n hx hb dX8_pass_158 rfl (lv_at hl 2 rfl) ?_
            refine lv_iadd hx hb dX8_pass_159 ?_
            refine lv_dup2_11 hx hb dX8_pass_160 rfl rfl ?_
            obtain ⟨hin, hv⟩ := hv
            refine va_lald hx hb hKK.1 hP 1 2 rfl rfl hin dX8_pass_161 ?_
            refine lv_lload hx hb dX8_pass_162 (lv_at hl 0 rfl) ?_
            refine lv_lsub hx hb dX8_pass_164 ?_
            obtain ⟨hin, hv⟩ := hv
            refine va_last hx hb hKK.1 hP hD hS 1 2 rfl rfl hin dX8_pass_165 (fun H locs hP hD hS => ?_)
            have hP : va_P G.1 vwCl [(m0, .inr (8, [.ref m1, .ref m2, .ref m3, .ref m4, .ref m5, .ref m6, .ref m7, .ref m8, .ref m9, .int fu, .int fd, .int fi, .int nu, .int nw, .int nf, .int bf, .int bn, .ref m10, .int ts, .int ap, .int fs, .int ln, .int fo, .int fa, .ref m11, .ref m12, .ref m13, .ref m14, .int wr])), aJ G m1 560 (vp_updL mw2_39 (((x + 10) + x3_3).toNatClampNeg) ((mw2_39 ((x + 10) + x3_3).toNatClampNeg) - (if fd.toInt64 < (mw2_39 ((x + 10) + x3_3).toNatClampNeg) then fd.toInt64 else (mw2_39 ((x + 10) + x3_3).toNatClampNeg)))), aZ G m2 2 ik, aI G m3 20 zs, aI G m4 20 cl, aI G m5 20 hs, aI G m6 20 ks, aI G m7 20 wa, aI G m8 20 ne, aI G m9 4 mn, aI G m10 400 tx, aI G m11 6 th, aI G m12 6 od, aI G m13 30 bk, aI G m14 30 bh] H := hP
            have hD : va_D A [(m0, .inr (8, [.ref m1, .ref m2, .ref m3, .ref m4, .ref m5, .ref m6, .ref m7, .ref m8, .ref m9, .int fu, .int fd, .int fi, .int nu, .int nw, .int nf, .int bf, .int bn, .ref m10, .int ts, .int ap, .int fs, .int ln, .int fo, .int fa, .ref m11, .ref m12, .ref m13, .ref m14, .int wr])), aJ G m1 560 (vp_updL mw2_39 (((x + 10) + x3_3).toNatClampNeg) ((mw2_39 ((x + 10) + x3_3).toNatClampNeg) - (if fd.toInt64 < (mw2_39 ((x + 10) + x3_3).toNatClampNeg) then fd.toInt64 else (mw2_39 ((x + 10) + x3_3).toNatClampNeg)))), aZ G m2 2 ik, aI G m3 20 zs, aI G m4 20 cl, aI G m5 20 hs, aI G m6 20 ks, aI G m7 20 wa, aI G m8 20 ne, aI G m9 4 mn, aI G m10 400 tx, aI G m11 6 th, aI G m12 6 od, aI G m13 30 bk, aI G m14 30 bh] := hD
            refine lv_aload_n hx hb dX8_pass_166 rfl (lv_at hl 4 rfl) ?_
            refine va_get (D := G.1) (ci := 8) (v := .ref m1) (C := RX8) (T := TX8) (N := 29) hx hb hts hinX8 hown hKK.1 hP 0 rfl rfl 0 (by decide) kl7 (fun _ h9 => h9) rfl dX8_pass_167 ?_
            refine lv_iload_n hx hb dX8_pass_170 rfl (lv_at hl 5 rfl) ?_
            refine lv_sipush (v := 134) hx hb dX8_pass_171 (by decide) ?_
            refine lv_iadd hx hb dX8_pass_174 ?_
            refine lv_dup2_11 hx hb dX8_pass_175 rfl rfl ?_
            obtain ⟨hin, hv⟩ := hv
            refine va_lald hx hb hKK.1 hP 1 2 rfl rfl hin dX8_pass_176 ?_
            refine lv_lload hx hb dX8_pass_177 (lv_at hl 0 rfl) ?_
            refine lv_ladd hx hb dX8_pass_179 ?_
            obtain ⟨hin, hv⟩ := hv
            refine va_last hx hb hKK.1 hP hD hS 1 2 rfl rfl hin dX8_pass_180 (fun H locs hP hD hS => ?_)
            have hP : va_P G.1 vwCl [(m0, .inr (8, [.ref m1, .ref m2, .ref m3, .ref m4, .ref m5, .ref m6, .ref m7, .ref m8, .ref m9, .int fu, .int fd, .int fi, .int nu, .int nw, .int nf, .int bf, .int bn, .ref m10, .int ts, .int ap, .int fs, .int ln, .int fo, .int fa, .ref m11, .ref m12, .ref m13, .ref m14, .int wr])), aJ G m1 560 (vp_updL (vp_updL mw2_39 (((x + 10) + x3_3).toNatClampNeg) ((mw2_39 ((x + 10) + x3_3).toNatClampNeg) - (if fd.toInt64 < (mw2_39 ((x + 10) + x3_3).toNatClampNeg) then fd.toInt64 else (mw2_39 ((x + 10) + x3_3).toNatClampNeg)))) ((x + 134).toNatClampNeg) (((vp_updL mw2_39 (((x + 10) + x3_3).toNatClampNeg) ((mw2_39 ((x + 10) + x3_3).toNatClampNeg) - (if fd.toInt64 < (mw2_39 ((x + 10) + x3_3).toNatClampNeg) then fd.toInt64 else (mw2_39 ((x + 10) + x3_3).toNatClampNeg)))) (x + 134).toNatClampNeg) + (if fd.toInt64 < (mw2_39 ((x + 10) + x3_3).toNatClampNeg) then fd.toInt64 else (mw2_39 ((x + 10) + x3_3).toNatClampNeg)))), aZ G m2 2 ik, aI G m3 20 zs, aI G m4 20 cl, aI G m5 20 hs, aI G m6 20 ks, aI G m7 20 wa, aI G m8 20 ne, aI G m9 4 mn, aI G m10 400 tx, aI G m11 6 th, aI G m12 6 od, aI G m13 30 bk, aI G m14 30 bh] H := hP
            have hD : va_D A [(m0, .inr (8, [.ref m1, .ref m2, .ref m3, .ref m4, .ref m5, .ref m6, .ref m7, .ref m8, .ref m9, .int fu, .int fd, .int fi, .int nu, .int nw, .int nf, .int bf, .int bn, .ref m10, .int ts, .int ap, .int fs, .int ln, .int fo, .int fa, .ref m11, .ref m12, .ref m13, .ref m14, .int wr])), aJ G m1 560 (vp_updL (vp_updL mw2_39 (((x + 10) + x3_3).toNatClampNeg) ((mw2_39 ((x + 10) + x3_3).toNatClampNeg) - (if fd.toInt64 < (mw2_39 ((x + 10) + x3_3).toNatClampNeg) then fd.toInt64 else (mw2_39 ((x + 10) + x3_3).toNatClampNeg)))) ((x + 134).toNatClampNeg) (((vp_updL mw2_39 (((x + 10) + x3_3).toNatClampNeg) ((mw2_39 ((x + 10) + x3_3).toNatClampNeg) - (if fd.toInt64 < (mw2_39 ((x + 10) + x3_3).toNatClampNeg) then fd.toInt64 else (mw2_39 ((x + 10) + x3_3).toNatClampNeg)))) (x + 134).toNatClampNeg) + (if fd.toInt64 < (mw2_39 ((x + 10) + x3_3).toNatClampNeg) then fd.toInt64 else (mw2_39 ((x + 10) + x3_3).toNatClampNeg)))), aZ G m2 2 ik, aI G m3 20 zs, aI G m4 20 cl, aI G m5 20 hs, aI G m6 20 ks, aI G m7 20 wa, aI G m8 20 ne, aI G m9 4 mn, aI G m10 400 tx, aI G m11 6 th, aI G m12 6 od, aI G m13 30 bk, aI G m14 30 bh] := hD
            refine lv_aload_n hx hb dX8_pass_181 rfl (lv_at hl 4 rfl) ?_
            refine va_get (D := G.1) (ci := 8) (v := .ref m1) (C := RX8) (T := TX8) (N := 29) hx hb hts hinX8 hown hKK.1 hP 0 rfl rfl 0 (by decide) kl7 (fun _ h9 => h9) rfl dX8_pass_182 ?_
            refine lv_iload_n hx hb dX8_pass_185 rfl (lv_at hl 5 rfl) ?_
            refine lv_bipush (v := 30) hx hb dX8_pass_186 (by decide) ?_
            refine lv_iadd hx hb dX8_pass_188 ?_
            refine lv_iload_n hx hb dX8_pass_189 rfl (lv_at hl 2 rfl) ?_
            refine lv_iadd hx hb dX8_pass_190 ?_
            refine lv_dup2_11 hx hb dX8_pass_191 rfl rfl ?_
            obtain ⟨hin, hv⟩ := hv
            refine va_lald hx hb hKK.1 hP 1 2 rfl rfl hin dX8_pass_192 ?_
            refine lv_aload_n hx hb dX8_pass_193 rfl (lv_at hl 4 rfl) ?_
            refine lv_iload_n hx hb dX8_pass_194 rfl (lv_at hl 5 rfl) ?_
            refine lv_iload_n hx hb dX8_pass_195 rfl (lv_at hl 2 rfl) ?_
            obtain ⟨hp, hv⟩ := hv
            refine x_calliR (x_runV (As := [.int x, .int x3_3]) (rest := [.long ((vp_updL (vp_updL mw2_39 (((x + 10) + x3_3).toNatClampNeg) ((mw2_39 ((x + 10) + x3_3).toNatClampNeg) - (if fd.toInt64 < (mw2_39 ((x + 10) + x3_3).toNatClampNeg) then fd.toInt64 else (mw2_39 ((x + 10) + x3_3).toNatClampNeg)))) ((x + 134).toNatClampNeg) (((vp_updL mw2_39 (((x + 10) + x3_3).toNatClampNeg) ((mw2_39 ((x + 10) + x3_3).toNatClampNeg) - (if fd.toInt64 < (mw2_39 ((x + 10) + x3_3).toNatClampNeg) then fd.toInt64 else (mw2_39 ((x + 10) + x3_3).toNatClampNeg)))) (x + 134).toNatClampNeg) + (if fd.toInt64 < (mw2_39 ((x + 10) + x3_3).toNatClampNeg) then fd.toInt64 else (mw2_39 ((x + 10) + x3_3).toNatClampNeg)))) ((x + 30) + x3_3).toNatClampNeg), .int ((x + 30) + x3_3), .ref m1]) (n := 2) (C := RX8) (ci := 8) ⟨hx, hb, hml, hown, hts⟩ (k_X8_isCold l G m0 m1 m2 m3 m4 m5 m6 m7 m8 m9 m10 m11 m12 m13 m14 _ (vp_updL (vp_updL mw2_39 (((x + 10) + x3_3).toNatClampNeg) ((mw2_39 ((x + 10) + x3_3).toNatClampNeg) - (if fd.toInt64 < (mw2_39 ((x + 10) + x3_3).toNatClampNeg) then fd.toInt64 else (mw2_39 ((x + 10) + x3_3).toNatClampNeg)))) ((x + 134).toNatClampNeg) (((vp_updL mw2_39 (((x + 10) + x3_3).toNatClampNeg) ((mw2_39 ((x + 10) + x3_3).toNatClampNeg) - (if fd.toInt64 < (mw2_39 ((x + 10) + x3_3).toNatClampNeg) then fd.toInt64 else (mw2_39 ((x + 10) + x3_3).toNatClampNeg)))) (x + 134).toNatClampNeg) + (if fd.toInt64 < (mw2_39 ((x + 10) + x3_3).toNatClampNeg) then fd.toInt64 else (mw2_39 ((x + 10) + x3_3).toNatClampNeg)))) ik zs cl hs ks wa ne mn tx th od bk bh fu fd fi nu nw nf bf bn ts ap fs ln fo fa wr x x3_3 hp) gX8_pass_X8_isCold rfl (by decide +kernel) ⟨Nat.le_trans (Nat.le_of_ble_eq_true rfl) hRf, Nat.le_trans (Nat.le_of_ble_eq_true rfl) hRl⟩ hKK hSS hS hA hP hD [0, 1, 2, 3, 4, 5, 6, 7, 8, 9, 10, 11, 12, 13, 14] (by decide) rfl rfl rfl 0 rfl rfl hl.1 rfl (Nat.le_of_ble_eq_true rfl) dX8_pass_196) hP hD hS hA [0, 1, 2, 3, 4, 5, 6, 7, 8, 9, 10, 11, 12, 13, 14] rfl (fun r_43 _ H locs hw hP hS => ?_)
            have hv := hv r_43 hw
            refine x_calliR (x_runS (As := [.int r_43]) (rest := [.long ((vp_updL (vp_updL mw2_39 (((x + 10) + x3_3).toNatClampNeg) ((mw2_39 ((x + 10) + x3_3).toNatClampNeg) - (if fd.toInt64 < (mw2_39 ((x + 10) + x3_3).toNatClampNeg) then fd.toInt64 else (mw2_39 ((x + 10) + x3_3).toNatClampNeg)))) ((x + 134).toNatClampNeg) (((vp_updL mw2_39 (((x + 10) + x3_3).toNatClampNeg) ((mw2_39 ((x + 10) + x3_3).toNatClampNeg) - (if fd.toInt64 < (mw2_39 ((x + 10) + x3_3).toNatClampNeg) then fd.toInt64 else (mw2_39 ((x + 10) + x3_3).toNatClampNeg)))) (x + 134).toNatClampNeg) + (if fd.toInt64 < (mw2_39 ((x + 10) + x3_3).toNatClampNeg) then fd.toInt64 else (mw2_39 ((x + 10) + x3_3).toNatClampNeg)))) ((x + 30) + x3_3).toNatClampNeg), .int ((x + 30) + x3_3), .ref m1]) (n := 1) ⟨hx, hb, hml, hown, hts⟩ (k_X8_one l G  _ r_43) gX8_pass_X8_one rfl (by decide +kernel) ⟨Nat.le_trans (Nat.le_of_ble_eq_true rfl) hRf, Nat.le_trans (Nat.le_of_ble_eq_true rfl) hRl⟩ hKK hSS hS hA hP hD [] (by decide) rfl rfl hl.1 rfl (Nat.le_of_ble_eq_true rfl) dX8_pass_199) hP hD hS hA [] rfl (fun r_44 _ H locs hw hP hS => ?_)
            replace hw := hw.symm; subst hw
            refine lv_i2l hx hb dX8_pass_202 rfl ?_
            refine lv_ladd hx hb dX8_pass_203 ?_
            obtain ⟨hin, hv⟩ := hv
            refine va_last hx hb hKK.1 hP hD hS 1 2 rfl rfl hin dX8_pass_204 (fun H locs hP hD hS => ?_)
            have hP : va_P G.1 vwCl [(m0, .inr (8, [.ref m1, .ref m2, .ref m3, .ref m4, .ref m5, .ref m6, .ref m7, .ref m8, .ref m9, .int fu, .int fd, .int fi, .int nu, .int nw, .int nf, .int bf, .int bn, .ref m10, .int ts, .int ap, .int fs, .int ln, .int fo, .int fa, .ref m11, .ref m12, .ref m13, .ref m14, .int wr])), aJ G m1 560 (vp_updL (vp_updL (vp_updL mw2_39 (((x + 10) + x3_3).toNatClampNeg) ((mw2_39 ((x + 10) + x3_3).toNatClampNeg) - (if fd.toInt64 < (mw2_39 ((x + 10) + x3_3).toNatClampNeg) then fd.toInt64 else (mw2_39 ((x + 10) + x3_3).toNatClampNeg)))) ((x + 134).toNatClampNeg) (((vp_updL mw2_39 (((x + 10) + x3_3).toNatClampNeg) ((mw2_39 ((x + 10) + x3_3).toNatClampNeg) - (if fd.toInt64 < (mw2_39 ((x + 10) + x3_3).toNatClampNeg) then fd.toInt64 else (mw2_39 ((x + 10) + x3_3).toNatClampNeg)))) (x + 134).toNatClampNeg) + (if fd.toInt64 < (mw2_39 ((x + 10) + x3_3).toNatClampNeg) then fd.toInt64 else (mw2_39 ((x + 10) + x3_3).toNatClampNeg)))) (((x + 30) + x3_3).toNatClampNeg) (((vp_updL (vp_updL mw2_39 (((x + 10) + x3_3).toNatClampNeg) ((mw2_39 ((x + 10) + x3_3).toNatClampNeg) - (if fd.toInt64 < (mw2_39 ((x + 10) + x3_3).toNatClampNeg) then fd.toInt64 else (mw2_39 ((x + 10) + x3_3).toNatClampNeg)))) ((x + 134).toNatClampNeg) (((vp_updL mw2_39 (((x + 10) + x3_3).toNatClampNeg) ((mw2_39 ((x + 10) + x3_3).toNatClampNeg) - (if fd.toInt64 < (mw2_39 ((x + 10) + x3_3).toNatClampNeg) then fd.toInt64 else (mw2_39 ((x + 10) + x3_3).toNatClampNeg)))) (x + 134).toNatClampNeg) + (if fd.toInt64 < (mw2_39 ((x + 10) + x3_3).toNatClampNeg) then fd.toInt64 else (mw2_39 ((x + 10) + x3_3).toNatClampNeg)))) ((x + 30) + x3_3).toNatClampNeg) + ((if r_43 = 0 then 0 else 1) : Int32).toInt64)), aZ G m2 2 ik, aI G m3 20 zs, aI G m4 20 cl, aI G m5 20 hs, aI G m6 20 ks, aI G m7 20 wa, aI G m8 20 ne, aI G m9 4 mn, aI G m10 400 tx, aI G m11 6 th, aI G m12 6 od, aI G m13 30 bk, aI G m14 30 bh] H := hP
            have hD : va_D A [(m0, .inr (8, [.ref m1, .ref m2, .ref m3, .ref m4, .ref m5, .ref m6, .ref m7, .ref m8, .ref m9, .int fu, .int fd, .int fi, .int nu, .int nw, .int nf, .int bf, .int bn, .ref m10, .int ts, .int ap, .int fs, .int ln, .int fo, .int fa, .ref m11, .ref m12, .ref m13, .ref m14, .int wr])), aJ G m1 560 (vp_updL (vp_updL (vp_updL mw2_39 (((x + 10) + x3_3).toNatClampNeg) ((mw2_39 ((x + 10) + x3_3).toNatClampNeg) - (if fd.toInt64 < (mw2_39 ((x + 10) + x3_3).toNatClampNeg) then fd.toInt64 else (mw2_39 ((x + 10) + x3_3).toNatClampNeg)))) ((x + 134).toNatClampNeg) (((vp_updL mw2_39 (((x + 10) + x3_3).toNatClampNeg) ((mw2_39 ((x + 10) + x3_3).toNatClampNeg) - (if fd.toInt64 < (mw2_39 ((x + 10) + x3_3).toNatClampNeg) then fd.toInt64 else (mw2_39 ((x + 10) + x3_3).toNatClampNeg)))) (x + 134).toNatClampNeg) + (if fd.toInt64 < (mw2_39 ((x + 10) + x3_3).toNatClampNeg) then fd.toInt64 else (mw2_39 ((x + 10) + x3_3).toNatClampNeg)))) (((x + 30) + x3_3).toNatClampNeg) (((vp_updL (vp_updL mw2_39 (((x + 10) + x3_3).toNatClampNeg) ((mw2_39 ((x + 10) + x3_3).toNatClampNeg) - (if fd.toInt64 < (mw2_39 ((x + 10) + x3_3).toNatClampNeg) then fd.toInt64 else (mw2_39 ((x + 10) + x3_3).toNatClampNeg)))) ((x + 134).toNatClampNeg) (((vp_updL mw2_39 (((x + 10) + x3_3).toNatClampNeg) ((mw2_39 ((x + 10) + x3_3).toNatClampNeg) - (if fd.toInt64 < (mw2_39 ((x + 10) + x3_3).toNatClampNeg) then fd.toInt64 else (mw2_39 ((x + 10) + x3_3).toNatClampNeg)))) (x + 134).toNatClampNeg) + (if fd.toInt64 < (mw2_39 ((x + 10) + x3_3).toNatClampNeg) then fd.toInt64 else (mw2_39 ((x + 10) + x3_3).toNatClampNeg)))) ((x + 30) + x3_3).toNatClampNeg) + ((if r_43 = 0 then 0 else 1) : Int32).toInt64)), aZ G m2 2 ik, aI G m3 20 zs, aI G m4 20 cl, aI G m5 20 hs, aI G m6 20 ks, aI G m7 20 wa, aI G m8 20 ne, aI G m9 4 mn, aI G m10 400 tx, aI G m11 6 th, aI G m12 6 od, aI G m13 30 bk, aI G m14 30 bh] := hD
            refine lv_iload_n hx hb dX8_pass_205 rfl (lv_at hl 3 rfl) ?_
            refine lv_aload_n hx hb dX8_pass_206 rfl (lv_at hl 4 rfl) ?_
            refine lv_iload_n hx hb dX8_pass_207 rfl (lv_at hl 5 rfl) ?_
            refine lv_iload_n hx hb dX8_pass_208 rfl (lv_at hl 2 rfl) ?_
            obtain ⟨hp, hv⟩ := hv
            refine x_calliR (x_runV (As := [.int x, .int x3_3]) (rest := [.int x2_2]) (n := 2) (C := RX8) (ci := 8) ⟨hx, hb, hml, hown, hts⟩ (k_X8_isCold l G m0 m1 m2 m3 m4 m5 m6 m7 m8 m9 m10 m11 m12 m13 m14 _ (vp_updL (vp_updL (vp_updL mw2_39 (((x + 10) + x3_3).toNatClampNeg) ((mw2_39 ((x + 10) + x3_3).toNatClampNeg) - (if fd.toInt64 < (mw2_39 ((x + 10) + x3_3).toNatClampNeg) then fd.toInt64 else (mw2_39 ((x + 10) + x3_3).toNatClampNeg)))) ((x + 134).toNatClampNeg) (((vp_updL mw2_39 (((x + 10) + x3_3).toNatClampNeg) ((mw2_39 ((x + 10) + x3_3).toNatClampNeg) - (if fd.toInt64 < (mw2_39 ((x + 10) + x3_3).toNatClampNeg) then fd.toInt64 else (mw2_39 ((x + 10) + x3_3).toNatClampNeg)))) (x + 134).toNatClampNeg) + (if fd.toInt64 < (mw2_39 ((x + 10) + x3_3).toNatClampNeg) then fd.toInt64 else (mw2_39 ((x + 10) + x3_3).toNatClampNeg)))) (((x + 30) + x3_3).toNatClampNeg) (((vp_updL (vp_updL mw2_39 (((x + 10) + x3_3).toNatClampNeg) ((mw2_39 ((x + 10) + x3_3).toNatClampNeg) - (if fd.toInt64 < (mw2_39 ((x + 10) + x3_3).toNatClampNeg) then fd.toInt64 else (mw2_39 ((x + 10) + x3_3).toNatClampNeg)))) ((x + 134).toNatClampNeg) (((vp_updL mw2_39 (((x + 10) + x3_3).toNatClampNeg) ((mw2_39 ((x + 10) + x3_3).toNatClampNeg) - (if fd.toInt64 < (mw2_39 ((x + 10) + x3_3).toNatClampNeg) then fd.toInt64 else (mw2_39 ((x + 10) + x3_3).toNatClampNeg)))) (x + 134).toNatClampNeg) + (if fd.toInt64 < (mw2_39 ((x + 10) + x3_3).toNatClampNeg) then fd.toInt64 else (mw2_39 ((x + 10) + x3_3).toNatClampNeg)))) ((x + 30) + x3_3).toNatClampNeg) + ((if r_43 = 0 then 0 else 1) : Int32).toInt64)) ik zs cl hs ks wa ne mn tx th od bk bh fu fd fi nu nw nf bf bn ts ap fs ln fo fa wr x x3_3 hp) gX8_pass_X8_isCold rfl (by decide +kernel) ⟨Nat.le_trans (Nat.le_of_ble_eq_true rfl) hRf, Nat.le_trans (Nat.le_of_ble_eq_true rfl) hRl⟩ hKK hSS hS hA hP hD [0, 1, 2, 3, 4, 5, 6, 7, 8, 9, 10, 11, 12, 13, 14] (by decide) rfl rfl rfl 0 rfl rfl hl.1 rfl (Nat.le_of_ble_eq_true rfl) dX8_pass_209) hP hD hS hA [0, 1, 2, 3, 4, 5, 6, 7, 8, 9, 10, 11, 12, 13, 14] rfl (fun r_45 _ H locs hw hP hS => ?_)
            have hv := hv r_45 hw
            refine x_calliR (x_runS (As := [.int r_45]) (rest := [.int x2_2]) (n := 1) ⟨hx, hb, hml, hown, hts⟩ (k_X8_one l G  _ r_45) gX8_pass_X8_one rfl (by decide +kernel) ⟨Nat.le_trans (Nat.le_of_ble_eq_true rfl) hRf, Nat.le_trans (Nat.le_of_ble_eq_true rfl) hRl⟩ hKK hSS hS hA hP hD [] (by decide) rfl rfl hl.1 rfl (Nat.le_of_ble_eq_true rfl) dX8_pass_212) hP hD hS hA [] rfl (fun r_46 _ H locs hw hP hS => ?_)
            replace hw := hw.symm; subst hw
            refine lv_iload_n hx hb dX8_pass_215 rfl (lv_at hl 2 rfl) ?_
            refine lv_ishl hx hb dX8_pass_216 ?_
            refine lv_ior hx hb dX8_pass_217 ?_
            refine lv_istore_n (lv' := [(2, .int (x2_2 ||| ((if r_45 = 0 then 0 else 1) <<< (x3_3 &&& 31)))), (5, .long (if fd.toInt64 < (mw2_39 ((x + 10) + x3_3).toNatClampNeg) then fd.toInt64 else (mw2_39 ((x + 10) + x3_3).toNatClampNeg))), (4, .int 1), (3, .int x3_3), (0, .ref m0), (1, .int x)]) hx hb dX8_pass_218 rfl hl (by decide) rfl (fun ls hl => ?_)
            refine lv_iinc (v := (x3_3 + 1)) (lv' := [(3, .int (x3_3 + 1)), (2, .int (x2_2 ||| ((if r_45 = 0 then 0 else 1) <<< (x3_3 &&& 31)))), (5, .long (if fd.toInt64 < (mw2_39 ((x + 10) + x3_3).toNatClampNeg) then fd.toInt64 else (mw2_39 ((x + 10) + x3_3).toNatClampNeg))), (4, .int 1), (0, .ref m0), (1, .int x)]) hx hb dX8_pass_219 hl (k := 3) rfl rfl (by decide) rfl (fun ls hl => ?_)
            refine lv_goto (tgt := 18) hx hb dX8_pass_222 (by decide) ?_
            exact ih_6 _ _ _ _ _ _ (Nat.lt_of_lt_of_le hv.2 (Nat.le_of_lt_succ hI_7)) hv.1 hP hD hS (lv_sub hl [0, 1, 4, 5] rfl)
          · have hv := hv.2 hc_40
            refine lv_aload_n hx hb dX8_pass_106 rfl (lv_at hl 3 rfl) ?_
            refine va_get (D := G.1) (ci := 8) (v := .int fu) (C := RX8) (T := TX8) (N := 29) hx hb hts hinX8 hown hKK.1 hP 0 rfl rfl 9 (by decide) kl39 (fun _ h9 => h9) rfl dX8_pass_107 ?_
            refine lv_iconst (v := 2) hx hb dX8_pass_110 (by decide) ?_
            refine lv_idiv hx hb dX8_pass_111 (by decide) ?_
            refine lv_i2l hx hb dX8_pass_112 rfl ?_
            refine lv_goto (tgt := 134) hx hb dX8_pass_113 (by decide) ?_
            refine lv_aload_n hx hb dX8_pass_134 rfl (lv_at hl 3 rfl) ?_
            refine va_get (D := G.1) (ci := 8) (v := .ref m1) (C := RX8) (T := TX8) (N := 29) hx hb hts hinX8 hown hKK.1 hP 0 rfl rfl 0 (by decide) kl7 (fun _ h9 => h9) rfl dX8_pass_135 ?_
            refine lv_iload_n hx hb dX8_pass_138 rfl (lv_at hl 4 rfl) ?_
            refine lv_bipush (v := 10) hx hb dX8_pass_139 (by decide) ?_
            refine lv_iadd hx hb dX8_pass_141 ?_
            refine lv_iload_n hx hb dX8_pass_142 rfl (lv_at hl 1 rfl) ?_
            refine lv_iadd hx hb dX8_pass_143 ?_
            obtain ⟨hin, hv⟩ := hv
            refine va_lald hx hb hKK.1 hP 1 2 rfl rfl hin dX8_pass_144 ?_
            refine x_calllR (x_runS (As := [.long ((fu / 2).toInt64), .long (mw2_39 ((x + 10) + x3_3).toNatClampNeg)]) (rest := []) (n := 2) ⟨hx, hb, hml, hown, hts⟩ (k_X8_less l G  _ ((fu / 2).toInt64) (mw2_39 ((x + 10) + x3_3).toNatClampNeg)) gX8_pass_X8_less rfl (by decide +kernel) ⟨Nat.le_trans (Nat.le_of_ble_eq_true rfl) hRf, Nat.le_trans (Nat.le_of_ble_eq_true rfl) hRl⟩ hKK hSS hS hA hP hD [] (by decide) rfl rfl hl.1 rfl (Nat.le_of_ble_eq_true rfl) dX8_pass_145) hP hD hS hA [] rfl (fun r_47 _ H locs hw hP hS => ?_)
            replace hw := hw.symm; subst hw
            refine lv_lstore (lv' := [(5, .long (if ((fu / 2).toInt64) < (mw2_39 ((x + 10) + x3_3).toNatClampNeg) then ((fu / 2).toInt64) else (mw2_39 ((x + 10) + x3_3).toNatClampNeg))), (4, .int 1), (3, .int x3_3), (2, .int x2_2), (0, .ref m0), (1, .int x)]) hx hb dX8_pass_148 hl (by decide) rfl (fun ls hl => ?_)
            refine lv_aload_n hx hb dX8_pass_150 rfl (lv_at hl 4 rfl) ?_
            refine va_get (D := G.1) (ci := 8) (v := .ref m1) (C := RX8) (T := TX8) (N := 29) hx hb hts hinX8 hown hKK.1 hP 0 rfl rfl 0 (by decide) kl7 (fun _ h9 => h9) rfl dX8_pass_151 ?_
            refine lv_iload_n hx hb dX8_pass_154 rfl (lv_at hl 5 rfl) ?_
            refine lv_bipush (v := 10) hx hb dX8_pass_155 (by decide) ?_
            refine lv_iadd hx hb dX8_pass_157 ?_
            refine lv_iload_n hx hb dX8_pass_158 rfl (lv_at hl 2 rfl) ?_
            refine lv_iadd hx hb dX8_pass_159 ?_
            refine lv_dup2_11 hx hb dX8_pass_160 rfl rfl ?_
            obtain ⟨hin, hv⟩ := hv
            refine va_lald hx hb hKK.1 hP 1 2 rfl rfl hin dX8_pass_161 ?_
            refine lv_lload hx hb dX8_pass_162 (lv_at hl 0 rfl) ?_
            refine lv_lsub hx hb dX8_pass_164 ?_
            obtain ⟨hin, hv⟩ := hv
            refine va_last hx hb hKK.1 hP hD hS 1 2 rfl rfl hin dX8_pass_165 (fun H locs hP hD hS => ?_)
            have hP : va_P G.1 vwCl [(m0, .inr (8, [.ref m1, .ref m2, .ref m3, .ref m4, .ref m5, .ref m6, .ref m7, .ref m8, .ref m9, .int fu, .int fd, .int fi, .int nu, .int nw, .int nf, .int bf, .int bn, .ref m10, .int ts, .int ap, .int fs, .int ln, .int fo, .int fa, .ref m11, .ref m12, .ref m13, .ref m14, .int wr])), aJ G m1 560 (vp_updL mw2_39 (((x + 10) + x3_3).toNatClampNeg) ((mw2_39 ((x + 10) + x3_3).toNatClampNeg) - (if ((fu / 2).toInt64) < (mw2_39 ((x + 10) + x3_3).toNatClampNeg) then ((fu / 2).toInt64) else (mw2_39 ((x + 10) + x3_3).toNatClampNeg)))), aZ G m2 2 ik, aI G m3 20 zs, aI G m4 20 cl, aI G m5 20 hs, aI G m6 20 ks, aI G m7 20 wa, aI G m8 20 ne, aI G m9 4 mn, aI G m10 400 tx, aI G m11 6 th, aI G m12 6 od, aI G m13 30 bk, aI G m14 30 bh] H := hP
            have hD : va_D A [(m0, .inr (8, [.ref m1, .ref m2, .ref m3, .ref m4, .ref m5, .ref m6, .ref m7, .ref m8, .ref m9, .int fu, .int fd, .int fi, .int nu, .int nw, .int nf, .int bf, .int bn, .ref m10, .int ts, .int ap, .int fs, .int ln, .int fo, .int fa, .ref m11, .ref m12, .ref m13, .ref m14, .int wr])), aJ G m1 560 (vp_updL mw2_39 (((x + 10) + x3_3).toNatClampNeg) ((mw2_39 ((x + 10) + x3_3).toNatClampNeg) - (if ((fu / 2).toInt64) < (mw2_39 ((x + 10) + x3_3).toNatClampNeg) then ((fu / 2).toInt64) else (mw2_39 ((x + 10) + x3_3).toNatClampNeg)))), aZ G m2 2 ik, aI G m3 20 zs, aI G m4 20 cl, aI G m5 20 hs, aI G m6 20 ks, aI G m7 20 wa, aI G m8 20 ne, aI G m9 4 mn, aI G m10 400 tx, aI G m11 6 th, aI G m12 6 od, aI G m13 30 bk, aI G m14 30 bh] := hD
            refine lv_aload_n hx hb dX8_pass_166 rfl (lv_at hl 4 rfl) ?_
            refine va_get (D := G.1) (ci := 8) (v := .ref m1) (C := RX8) (T := TX8) (N := 29) hx hb hts hinX8 hown hKK.1 hP 0 rfl rfl 0 (by decide) kl7 (fun _ h9 => h9) rfl dX8_pass_167 ?_
            refine lv_iload_n hx hb dX8_pass_170 rfl (lv_at hl 5 rfl) ?_
            refine lv_sipush (v := 134) hx hb dX8_pass_171 (by decide) ?_
            refine lv_iadd hx hb dX8_pass_174 ?_
            refine lv_dup2_11 hx hb dX8_pass_175 rfl rfl ?_
            obtain ⟨hin, hv⟩ := hv
            refine va_lald hx hb hKK.1 hP 1 2 rfl rfl hin dX8_pass_176 ?_
            refine lv_lload hx hb dX8_pass_177 (lv_at hl 0 rfl) ?_
            refine lv_ladd hx hb dX8_pass_179 ?_
            obtain ⟨hin, hv⟩ := hv
            refine va_last hx hb hKK.1 hP hD hS 1 2 rfl rfl hin dX8_pass_180 (fun H locs hP hD hS => ?_)
            have hP : va_P G.1 vwCl [(m0, .inr (8, [.ref m1, .ref m2, .ref m3, .ref m4, .ref m5, .ref m6, .ref m7, .ref m8, .ref m9, .int fu, .int fd, .int fi, .int nu, .int nw, .int nf, .int bf, .int bn, .ref m10, .int ts, .int ap, .int fs, .int ln, .int fo, .int fa, .ref m11, .ref m12, .ref m13, .ref m14, .int wr])), aJ G m1 560 (vp_updL (vp_updL mw2_39 (((x + 10) + x3_3).toNatClampNeg) ((mw2_39 ((x + 10) + x3_3).toNatClampNeg) - (if ((fu / 2).toInt64) < (mw2_39 ((x + 10) + x3_3).toNatClampNeg) then ((fu / 2).toInt64) else (mw2_39 ((x + 10) + x3_3).toNatClampNeg)))) ((x + 134).toNatClampNeg) (((vp_updL mw2_39 (((x + 10) + x3_3).toNatClampNeg) ((mw2_39 ((x + 10) + x3_3).toNatClampNeg) - (if ((fu / 2).toInt64) < (mw2_39 ((x + 10) + x3_3).toNatClampNeg) then ((fu / 2).toInt64) else (mw2_39 ((x + 10) + x3_3).toNatClampNeg)))) (x + 134).toNatClampNeg) + (if ((fu / 2).toInt64) < (mw2_39 ((x + 10) + x3_3).toNatClampNeg) then ((fu / 2).toInt64) else (mw2_39 ((x + 10) + x3_3).toNatClampNeg)))), aZ G m2 2 ik, aI G m3 20 zs, aI G m4 20 cl, aI G m5 20 hs, aI G m6 20 ks, aI G m7 20 wa, aI G m8 20 ne, aI G m9 4 mn, aI G m10 400 tx, aI G m11 6 th, aI G m12 6 od, aI G m13 30 bk, aI G m14 30 bh] H := hP
            have hD : va_D A [(m0, .inr (8, [.ref m1, .ref m2, .ref m3, .ref m4, .ref m5, .ref m6, .ref m7, .ref m8, .ref m9, .int fu, .int fd, .int fi, .int nu, .int nw, .int nf, .int bf, .int bn, .ref m10, .int ts, .int ap, .int fs, .int ln, .int fo, .int fa, .ref m11, .ref m12, .ref m13, .ref m14, .int wr])), aJ G m1 560 (vp_updL (vp_updL mw2_39 (((x + 10) + x3_3).toNatClampNeg) ((mw2_39 ((x + 10) + x3_3).toNatClampNeg) - (if ((fu / 2).toInt64) < (mw2_39 ((x + 10) + x3_3).toNatClampNeg) then ((fu / 2).toInt64) else (mw2_39 ((x + 10) + x3_3).toNatClampNeg)))) ((x + 134).toNatClampNeg) (((vp_updL mw2_39 (((x + 10) + x3_3).toNatClampNeg) ((mw2_39 ((x + 10) + x3_3).toNatClampNeg) - (if ((fu / 2).toInt64) < (mw2_39 ((x + 10) + x3_3).toNatClampNeg) then ((fu / 2).toInt64) else (mw2_39 ((x + 10) + x3_3).toNatClampNeg)))) (x + 134).toNatClampNeg) + (if ((fu / 2).toInt64) < (mw2_39 ((x + 10) + x3_3).toNatClampNeg) then ((fu / 2).toInt64) else (mw2_39 ((x + 10) + x3_3).toNatClampNeg)))), aZ G m2 2 ik, aI G m3 20 zs, aI G m4 20 cl, aI G m5 20 hs, aI G m6 20 ks, aI G m7 20 wa, aI G m8 20 ne, aI G m9 4 mn, aI G m10 400 tx, aI G m11 6 th, aI G m12 6 od, aI G m13 30 bk, aI G m14 30 bh] := hD
            refine lv_aload_n hx hb dX8_pass_181 rfl (lv_at hl 4 rfl) ?_
            refine va_get (D := G.1) (ci := 8) (v := .ref m1) (C := RX8) (T := TX8) (N := 29) hx hb hts hinX8 hown hKK.1 hP 0 rfl rfl 0 (by decide) kl7 (fun _ h9 => h9) rfl dX8_pass_182 ?_
            refine lv_iload_n hx hb dX8_pass_185 rfl (lv_at hl 5 rfl) ?_
            refine lv_bipush (v := 30) hx hb dX8_pass_186 (by decide) ?_
            refine lv_iadd hx hb dX8_pass_188 ?_
            refine lv_iload_n hx hb dX8_pass_189 rfl (lv_at hl 2 rfl) ?_
            refine lv_iadd hx hb dX8_pass_190 ?_
            refine lv_dup2_11 hx hb dX8_pass_191 rfl rfl ?_
            obtain ⟨hin, hv⟩ := hv
            refine va_lald hx hb hKK.1 hP 1 2 rfl rfl hin dX8_pass_192 ?_
            refine lv_aload_n hx hb dX8_pass_193 rfl (lv_at hl 4 rfl) ?_
            refine lv_iload_n hx hb dX8_pass_194 rfl (lv_at hl 5 rfl) ?_
            refine lv_iload_n hx hb dX8_pass_195 rfl (lv_at hl 2 rfl) ?_
            obtain ⟨hp, hv⟩ := hv
            refine x_calliR (x_runV (As := [.int x, .int x3_3]) (rest := [.long ((vp_updL (vp_updL mw2_39 (((x + 10) + x3_3).toNatClampNeg) ((mw2_39 ((x + 10) + x3_3).toNatClampNeg) - (if ((fu / 2).toInt64) < (mw2_39 ((x + 10) + x3_3).toNatClampNeg) then ((fu / 2).toInt64) else (mw2_39 ((x + 10) + x3_3).toNatClampNeg)))) ((x + 134).toNatClampNeg) (((vp_updL mw2_39 (((x + 10) + x3_3).toNatClampNeg) ((mw2_39 ((x + 10) + x3_3).toNatClampNeg) - (if ((fu / 2).toInt64) < (mw2_39 ((x + 10) + x3_3).toNatClampNeg) then ((fu / 2).toInt64) else (mw2_39 ((x + 10) + x3_3).toNatClampNeg)))) (x + 134).toNatClampNeg) + (if ((fu / 2).toInt64) < (mw2_39 ((x + 10) + x3_3).toNatClampNeg) then ((fu / 2).toInt64) else (mw2_39 ((x + 10) + x3_3).toNatClampNeg)))) ((x + 30) + x3_3).toNatClampNeg), .int ((x + 30) + x3_3), .ref m1]) (n := 2) (C := RX8) (ci := 8) ⟨hx, hb, hml, hown, hts⟩ (k_X8_isCold l G m0 m1 m2 m3 m4 m5 m6 m7 m8 m9 m10 m11 m12 m13 m14 _ (vp_updL (vp_updL mw2_39 (((x + 10) + x3_3).toNatClampNeg) ((mw2_39 ((x + 10) + x3_3).toNatClampNeg) - (if ((fu / 2).toInt64) < (mw2_39 ((x + 10) + x3_3).toNatClampNeg) then ((fu / 2).toInt64) else (mw2_39 ((x + 10) + x3_3).toNatClampNeg)))) ((x + 134).toNatClampNeg) (((vp_updL mw2_39 (((x + 10) + x3_3).toNatClampNeg) ((mw2_39 ((x + 10) + x3_3).toNatClampNeg) - (if ((fu / 2).toInt64) < (mw2_39 ((x + 10) + x3_3).toNatClampNeg) then ((fu / 2).toInt64) else (mw2_39 ((x + 10) + x3_3).toNatClampNeg)))) (x + 134).toNatClampNeg) + (if ((fu / 2).toInt64) < (mw2_39 ((x + 10) + x3_3).toNatClampNeg) then ((fu / 2).toInt64) else (mw2_39 ((x + 10) + x3_3).toNatClampNeg)))) ik zs cl hs ks wa ne mn tx th od bk bh fu fd fi nu nw nf bf bn ts ap fs ln fo fa wr x x3_3 hp) gX8_pass_X8_isCold rfl (by decide +kernel) ⟨Nat.le_trans (Nat.le_of_ble_eq_true rfl) hRf, Nat.le_trans (Nat.le_of_ble_eq_true rfl) hRl⟩ hKK hSS hS hA hP hD [0, 1, 2, 3, 4, 5, 6, 7, 8, 9, 10, 11, 12, 13, 14] (by decide) rfl rfl rfl 0 rfl rfl hl.1 rfl (Nat.le_of_ble_eq_true rfl) dX8_pass_196) hP hD hS hA [0, 1, 2, 3, 4, 5, 6, 7, 8, 9, 10, 11, 12, 13, 14] rfl (fun r_48 _ H locs hw hP hS => ?_)
            have hv := hv r_48 hw
            refine x_calliR (x_runS (As := [.int r_48]) (rest := [.long ((vp_updL (vp_updL mw2_39 (((x + 10) + x3_3).toNatClampNeg) ((mw2_39 ((x + 10) + x3_3).toNatClampNeg) - (if ((fu / 2).toInt64) < (mw2_39 ((x + 10) + x3_3).toNatClampNeg) then ((fu / 2).toInt64) else (mw2_39 ((x + 10) + x3_3).toNatClampNeg)))) ((x + 134).toNatClampNeg) (((vp_updL mw2_39 (((x + 10) + x3_3).toNatClampNeg) ((mw2_39 ((x + 10) + x3_3).toNatClampNeg) - (if ((fu / 2).toInt64) < (mw2_39 ((x + 10) + x3_3).toNatClampNeg) then ((fu / 2).toInt64) else (mw2_39 ((x + 10) + x3_3).toNatClampNeg)))) (x + 134).toNatClampNeg) + (if ((fu / 2).toInt64) < (mw2_39 ((x + 10) + x3_3).toNatClampNeg) then ((fu / 2).toInt64) else (mw2_39 ((x + 10) + x3_3).toNatClampNeg)))) ((x + 30) + x3_3).toNatClampNeg), .int ((x + 30) + x3_3), .ref m1]) (n := 1) ⟨hx, hb, hml, hown, hts⟩ (k_X8_one l G  _ r_48) gX8_pass_X8_one rfl (by decide +kernel) ⟨Nat.le_trans (Nat.le_of_ble_eq_true rfl) hRf, Nat.le_trans (Nat.le_of_ble_eq_true rfl) hRl⟩ hKK hSS hS hA hP hD [] (by decide) rfl rfl hl.1 rfl (Nat.le_of_ble_eq_true rfl) dX8_pass_199) hP hD hS hA [] rfl (fun r_49 _ H locs hw hP hS => ?_)
            replace hw := hw.symm; subst hw
            refine lv_i2l hx hb dX8_pass_202 rfl ?_
            refine lv_ladd hx hb dX8_pass_203 ?_
            obtain ⟨hin, hv⟩ := hv
            refine va_last hx hb hKK.1 hP hD hS 1 2 rfl rfl hin dX8_pass_204 (fun H locs hP hD hS => ?_)
            have hP : va_P G.1 vwCl [(m0, .inr (8, [.ref m1, .ref m2, .ref m3, .ref m4, .ref m5, .ref m6, .ref m7, .ref m8, .ref m9, .int fu, .int fd, .int fi, .int nu, .int nw, .int nf, .int bf, .int bn, .ref m10, .int ts, .int ap, .int fs, .int ln, .int fo, .int fa, .ref m11, .ref m12, .ref m13, .ref m14, .int wr])), aJ G m1 560 (vp_updL (vp_updL (vp_updL mw2_39 (((x + 10) + x3_3).toNatClampNeg) ((mw2_39 ((x + 10) + x3_3).toNatClampNeg) - (if ((fu / 2).toInt64) < (mw2_39 ((x + 10) + x3_3).toNatClampNeg) then ((fu / 2).toInt64) else (mw2_39 ((x + 10) + x3_3).toNatClampNeg)))) ((x + 134).toNatClampNeg) (((vp_updL mw2_39 (((x + 10) + x3_3).toNatClampNeg) ((mw2_39 ((x + 10) + x3_3).toNatClampNeg) - (if ((fu / 2).toInt64) < (mw2_39 ((x + 10) + x3_3).toNatClampNeg) then ((fu / 2).toInt64) else (mw2_39 ((x + 10) + x3_3).toNatClampNeg)))) (x + 134).toNatClampNeg) + (if ((fu / 2).toInt64) < (mw2_39 ((x + 10) + x3_3).toNatClampNeg) then ((fu / 2).toInt64) else (mw2_39 ((x + 10) + x3_3).toNatClampNeg)))) (((x + 30) + x3_3).toNatClampNeg) (((vp_updL (vp_updL mw2_39 (((x + 10) + x3_3).toNatClampNeg) ((mw2_39 ((x + 10) + x3_3).toNatClampNeg) - (if ((fu / 2).toInt64) < (mw2_39 ((x + 10) + x3_3).toNatClampNeg) then ((fu / 2).toInt64) else (mw2_39 ((x + 10) + x3_3).toNatClampNeg)))) ((x + 134).toNatClampNeg) (((vp_updL mw2_39 (((x + 10) + x3_3).toNatClampNeg) ((mw2_39 ((x + 10) + x3_3).toNatClampNeg) - (if ((fu / 2).toInt64) < (mw2_39 ((x + 10) + x3_3).toNatClampNeg) then ((fu / 2).toInt64) else (mw2_39 ((x + 10) + x3_3).toNatClampNeg)))) (x + 134).toNatClampNeg) + (if ((fu / 2).toInt64) < (mw2_39 ((x + 10) + x3_3).toNatClampNeg) then ((fu / 2).toInt64) else (mw2_39 ((x + 10) + x3_3).toNatClampNeg)))) ((x + 30) + x3_3).toNatClampNeg) + ((if r_48 = 0 then 0 else 1) : Int32).toInt64)), aZ G m2 2 ik, aI G m3 20 zs, aI G m4 20 cl, aI G m5 20 hs, aI G m6 20 ks, aI G m7 20 wa, aI G m8 20 ne, aI G m9 4 mn, aI G m10 400 tx, aI G m11 6 th, aI G m12 6 od, aI G m13 30 bk, aI G m14 30 bh] H := hP
            have hD : va_D A [(m0, .inr (8, [.ref m1, .ref m2, .ref m3, .ref m4, .ref m5, .ref m6, .ref m7, .ref m8, .ref m9, .int fu, .int fd, .int fi, .int nu, .int nw, .int nf, .int bf, .int bn, .ref m10, .int ts, .int ap, .int fs, .int ln, .int fo, .int fa, .ref m11, .ref m12, .ref m13, .ref m14, .int wr])), aJ G m1 560 (vp_updL (vp_updL (vp_updL mw2_39 (((x + 10) + x3_3).toNatClampNeg) ((mw2_39 ((x + 10) + x3_3).toNatClampNeg) - (if ((fu / 2).toInt64) < (mw2_39 ((x + 10) + x3_3).toNatClampNeg) then ((fu / 2).toInt64) else (mw2_39 ((x + 10) + x3_3).toNatClampNeg)))) ((x + 134).toNatClampNeg) (((vp_updL mw2_39 (((x + 10) + x3_3).toNatClampNeg) ((mw2_39 ((x + 10) + x3_3).toNatClampNeg) - (if ((fu / 2).toInt64) < (mw2_39 ((x + 10) + x3_3).toNatClampNeg) then ((fu / 2).toInt64) else (mw2_39 ((x + 10) + x3_3).toNatClampNeg)))) (x + 134).toNatClampNeg) + (if ((fu / 2).toInt64) < (mw2_39 ((x + 10) + x3_3).toNatClampNeg) then ((fu / 2).toInt64) else (mw2_39 ((x + 10) + x3_3).toNatClampNeg)))) (((x + 30) + x3_3).toNatClampNeg) (((vp_updL (vp_updL mw2_39 (((x + 10) + x3_3).toNatClampNeg) ((mw2_39 ((x + 10) + x3_3).toNatClampNeg) - (if ((fu / 2).toInt64) < (mw2_39 ((x + 10) + x3_3).toNatClampNeg) then ((fu / 2).toInt64) else (mw2_39 ((x + 10) + x3_3).toNatClampNeg)))) ((x + 134).toNatClampNeg) (((vp_updL mw2_39 (((x + 10) + x3_3).toNatClampNeg) ((mw2_39 ((x + 10) + x3_3).toNatClampNeg) - (if ((fu / 2).toInt64) < (mw2_39 ((x + 10) + x3_3).toNatClampNeg) then ((fu / 2).toInt64) else (mw2_39 ((x + 10) + x3_3).toNatClampNeg)))) (x + 134).toNatClampNeg) + (if ((fu / 2).toInt64) < (mw2_39 ((x + 10) + x3_3).toNatClampNeg) then ((fu / 2).toInt64) else (mw2_39 ((x + 10) + x3_3).toNatClampNeg)))) ((x + 30) + x3_3).toNatClampNeg) + ((if r_48 = 0 then 0 else 1) : Int32).toInt64)), aZ G m2 2 ik, aI G m3 20 zs, aI G m4 20 cl, aI G m5 20 hs, aI G m6 20 ks, aI G m7 20 wa, aI G m8 20 ne, aI G m9 4 mn, aI G m10 400 tx, aI G m11 6 th, aI G m12 6 od, aI G m13 30 bk, aI G m14 30 bh] := hD
            refine lv_iload_n hx hb dX8_pass_205 rfl (lv_at hl 3 rfl) ?_
            refine lv_aload_n hx hb dX8_pass_206 rfl (lv_at hl 4 rfl) ?_
            refine lv_iload_n hx hb dX8_pass_207 rfl (lv_at hl 5 rfl) ?_
            refine lv_iload_n hx hb dX8_pass_208 rfl (lv_at hl 2 rfl) ?_
            obtain ⟨hp, hv⟩ := hv
            refine x_calliR (x_runV (As := [.int x, .int x3_3]) (rest := [.int x2_2]) (n := 2) (C := RX8) (ci := 8) ⟨hx, hb, hml, hown, hts⟩ (k_X8_isCold l G m0 m1 m2 m3 m4 m5 m6 m7 m8 m9 m10 m11 m12 m13 m14 _ (vp_updL (vp_updL (vp_updL mw2_39 (((x + 10) + x3_3).toNatClampNeg) ((mw2_39 ((x + 10) + x3_3).toNatClampNeg) - (if ((fu / 2).toInt64) < (mw2_39 ((x + 10) + x3_3).toNatClampNeg) then ((fu / 2).toInt64) else (mw2_39 ((x + 10) + x3_3).toNatClampNeg)))) ((x + 134).toNatClampNeg) (((vp_updL mw2_39 (((x + 10) + x3_3).toNatClampNeg) ((mw2_39 ((x + 10) + x3_3).toNatClampNeg) - (if ((fu / 2).toInt64) < (mw2_39 ((x + 10) + x3_3).toNatClampNeg) then ((fu / 2).toInt64) else (mw2_39 ((x + 10) + x3_3).toNatClampNeg)))) (x + 134).toNatClampNeg) + (if ((fu / 2).toInt64) < (mw2_39 ((x + 10) + x3_3).toNatClampNeg) then ((fu / 2).toInt64) else (mw2_39 ((x + 10) + x3_3).toNatClampNeg)))) (((x + 30) + x3_3).toNatClampNeg) (((vp_updL (vp_updL mw2_39 (((x + 10) + x3_3).toNatClampNeg) ((mw2_39 ((x + 10) + x3_3).toNatClampNeg) - (if ((fu / 2).toInt64) < (mw2_39 ((x + 10) + x3_3).toNatClampNeg) then ((fu / 2).toInt64) else (mw2_39 ((x + 10) + x3_3).toNatClampNeg)))) ((x + 134).toNatClampNeg) (((vp_updL mw2_39 (((x + 10) + x3_3).toNatClampNeg) ((mw2_39 ((x + 10) + x3_3).toNatClampNeg) - (if ((fu / 2).toInt64) < (mw2_39 ((x + 10) + x3_3).toNatClampNeg) then ((fu / 2).toInt64) else (mw2_39 ((x + 10) + x3_3).toNatClampNeg)))) (x + 134).toNatClampNeg) + (if ((fu / 2).toInt64) < (mw2_39 ((x + 10) + x3_3).toNatClampNeg) then ((fu / 2).toInt64) else (mw2_39 ((x + 10) + x3_3).toNatClampNeg)))) ((x + 30) + x3_3).toNatClampNeg) + ((if r_48 = 0 then 0 else 1) : Int32).toInt64)) ik zs cl hs ks wa ne mn tx th od bk bh fu fd fi nu nw nf bf bn ts ap fs ln fo fa wr x x3_3 hp) gX8_pass_X8_isCold rfl (by decide +kernel) ⟨Nat.le_trans (Nat.le_of_ble_eq_true rfl) hRf, Nat.le_trans (Nat.le_of_ble_eq_true rfl) hRl⟩ hKK hSS hS hA hP hD [0, 1, 2, 3, 4, 5, 6, 7, 8, 9, 10, 11, 12, 13, 14] (by decide) rfl rfl rfl 0 rfl rfl hl.1 rfl (Nat.le_of_ble_eq_true rfl) dX8_pass_209) hP hD hS hA [0, 1, 2, 3, 4, 5, 6, 7, 8, 9, 10, 11, 12, 13, 14] rfl (fun r_50 _ H locs hw hP hS => ?_)
            have hv := hv r_50 hw
            refine x_calliR (x_runS (As := [.int r_50]) (rest := [.int x2_2]) (n := 1) ⟨hx, hb, hml, hown, hts⟩ (k_X8_one l G  _ r_50) gX8_pass_X8_one rfl (by decide +kernel) ⟨Nat.le_trans (Nat.le_of_ble_eq_true rfl) hRf, Nat.le_trans (Nat.le_of_ble_eq_true rfl) hRl⟩ hKK hSS hS hA hP hD [] (by decide) rfl rfl hl.1 rfl (Nat.le_of_ble_eq_true rfl) dX8_pass_212) hP hD hS hA [] rfl (fun r_51 _ H locs hw hP hS => ?_)
            replace hw := hw.symm; subst hw
            refine lv_iload_n hx hb dX8_pass_215 rfl (lv_at hl 2 rfl) ?_
            refine lv_ishl hx hb dX8_pass_216 ?_
            refine lv_ior hx hb dX8_pass_217 ?_
            refine lv_istore_n (lv' := [(2, .int (x2_2 ||| ((if r_50 = 0 then 0 else 1) <<< (x3_3 &&& 31)))), (5, .long (if ((fu / 2).toInt64) < (mw2_39 ((x + 10) + x3_3).toNatClampNeg) then ((fu / 2).toInt64) else (mw2_39 ((x + 10) + x3_3).toNatClampNeg))), (4, .int 1), (3, .int x3_3), (0, .ref m0), (1, .int x)]) hx hb dX8_pass_218 rfl hl (by decide) rfl (fun ls hl => ?_)
            refine lv_iinc (v := (x3_3 + 1)) (lv' := [(3, .int (x3_3 + 1)), (2, .int (x2_2 ||| ((if r_50 = 0 then 0 else 1) <<< (x3_3 &&& 31)))), (5, .long (if ((fu / 2).toInt64) < (mw2_39 ((x + 10) + x3_3).toNatClampNeg) then ((fu / 2).toInt64) else (mw2_39 ((x + 10) + x3_3).toNatClampNeg))), (4, .int 1), (0, .ref m0), (1, .int x)]) hx hb dX8_pass_219 hl (k := 3) rfl rfl (by decide) rfl (fun ls hl => ?_)
            refine lv_goto (tgt := 18) hx hb dX8_pass_222 (by decide) ?_
            exact ih_6 _ _ _ _ _ _ (Nat.lt_of_lt_of_le hv.2 (Nat.le_of_lt_succ hI_7)) hv.1 hP hD hS (lv_sub hl [0, 1, 4, 5] rfl)
  exact Lm_54 _ _ _ _ _ _ _ (Nat.lt_succ_self _) hi0 hP hD hS hl
theorem k_X8_pass (l : Launch) (G : Gt) (m0 m1 m2 m3 m4 m5 m6 m7 m8 m9 m10 m11 m12 m13 m14 : Nat) (sz : Nat) (mw : Nat → Int64) (ik : Nat → Int32) (zs : Nat → Int32) (cl : Nat → Int32) (hs : Nat → Int32) (ks : Nat → Int32) (wa : Nat → Int32) (ne : Nat → Int32) (mn : Nat → Int32) (tx : Nat → Int32) (th : Nat → Int32) (od : Nat → Int32) (bk : Nat → Int32) (bh : Nat → Int32) (fu : Int32) (fd : Int32) (fi : Int32) (nu : Int32) (nw : Int32) (nf : Int32) (bf : Int32) (bn : Int32) (ts : Int32) (ap : Int32) (fs : Int32) (ln : Int32) (fo : Int32) (fa : Int32) (wr : Int32) (x : Int32) (hp : True) : MetI l yX8_pass wsX8_pass 3 75 G [.ref m0, .int x] [(m0, .inr (8, [.ref m1, .ref m2, .ref m3, .ref m4, .ref m5, .ref m6, .ref m7, .ref m8, .ref m9, .int fu, .int fd, .int fi, .int nu, .int nw, .int nf, .int bf, .int bn, .ref m10, .int ts, .int ap, .int fs, .int ln, .int fo, .int fa, .ref m11, .ref m12, .ref m13, .ref m14, .int wr])), aJ G m1 560 mw, aZ G m2 2 ik, aI G m3 20 zs, aI G m4 20 cl, aI G m5 20 hs, aI G m6 20 ks, aI G m7 20 wa, aI G m8 20 ne, aI G m9 4 mn, aI G m10 400 tx, aI G m11 6 th, aI G m12 6 od, aI G m13 30 bk, aI G m14 30 bh] sz (fun (r : Int32) (u : (Nat → Int64)) => True) (fun (u : (Nat → Int64)) => [(m0, .inr (8, [.ref m1, .ref m2, .ref m3, .ref m4, .ref m5, .ref m6, .ref m7, .ref m8, .ref m9, .int fu, .int fd, .int fi, .int nu, .int nw, .int nf, .int bf, .int bn, .ref m10, .int ts, .int ap, .int fs, .int ln, .int fo, .int fa, .ref m11, .ref m12, .ref m13, .ref m14, .int wr])), aJ G m1 560 u, aZ G m2 2 ik, aI G m3 20 zs, aI G m4 20 cl, aI G m5 20 hs, aI G m6 20 ks, aI G m7 20 wa, aI G m8 20 ne, aI G m9 4 mn, aI G m10 400 tx, aI G m11 6 th, aI G m12 6 od, aI G m13 30 bk, aI G m14 30 bh]) :=
  c_X8_pass l G m0 m1 m2 m3 m4 m5 m6 m7 m8 m9 m10 m11 m12 m13 m14 sz mw ik zs cl hs ks wa ne mn tx th od bk bh fu fd fi nu nw nf bf bn ts ap fs ln fo fa wr x (by
    sorry)
