set_option maxHeartbeats 4000000 in
set_option maxRecDepth 100000 in
theorem c_J6_bitCount_0f7a4 (l : Launch) (G : Gt) (sz : Nat) (x : Int32) (hv : True) : MetI l yJ6_bitCount_0f7a4 wsJ6_bitCount_0f7a4 0 0 G [.int x] [] sz (fun (r : Int32) (_ : Unit) => True) (fun (_ : Unit) => []) := by
  refine x_startI (cc := cJ6_bitCount_0f7a4) (maxL := 1) (ret := (some .int)) (by decide) rfl (Nat.le_of_ble_eq_true rfl) ?_
  intro p e s m args below meth c A R Q ls hRf hRl hQ C hP hD hS hA hSS hl
  obtain ⟨hx, hb, hr, hml, hown, hts, hlocks, hKK⟩ := C
  have hown : s.vm.findClass RJ6 = some m.cls := hown
  have hl : lv_has ls 1 [(0, .int x)] := hl
  have kl265 := hts (.constant RJ6 265 (1431655765)) (by decide +kernel)
  have kl266 := hts (.constant RJ6 266 (858993459)) (by decide +kernel)
  have kl267 := hts (.constant RJ6 267 (252645135)) (by decide +kernel)
  refine lv_iload_n hx hb dJ6_bitCount_0f7a4_0 rfl (lv_at hl 0 rfl) ?_
  refine lv_iload_n hx hb dJ6_bitCount_0f7a4_1 rfl (lv_at hl 0 rfl) ?_
  refine lv_iconst (v := 1) hx hb dJ6_bitCount_0f7a4_2 (by decide) ?_
  refine lv_iushr hx hb dJ6_bitCount_0f7a4_3 rfl ?_
  refine lv_ldcw (v := 1431655765) hx hb hown kl265 dJ6_bitCount_0f7a4_4 ?_
  refine lv_iand hx hb dJ6_bitCount_0f7a4_7 ?_
  refine lv_isub hx hb dJ6_bitCount_0f7a4_8 ?_
  refine lv_istore_n (lv' := [(0, .int (x - (((x).toUInt32 >>> ((1 : Int32).toUInt32 &&& Int32.toUInt32 31)).toInt32 &&& 1431655765)))]) hx hb dJ6_bitCount_0f7a4_9 rfl hl (by decide) rfl (fun ls hl => ?_)
  refine lv_iload_n hx hb dJ6_bitCount_0f7a4_10 rfl (lv_at hl 0 rfl) ?_
  refine lv_ldcw (v := 858993459) hx hb hown kl266 dJ6_bitCount_0f7a4_11 ?_
  refine lv_iand hx hb dJ6_bitCount_0f7a4_14 ?_
  refine lv_iload_n hx hb dJ6_bitCount_0f7a4_15 rfl (lv_at hl 0 rfl) ?_
  refine lv_iconst (v := 2) hx hb dJ6_bitCount_0f7a4_16 (by decide) ?_
  refine lv_iushr hx hb dJ6_bitCount_0f7a4_17 rfl ?_
  refine lv_ldcw (v := 858993459) hx hb hown kl266 dJ6_bitCount_0f7a4_18 ?_
  refine lv_iand hx hb dJ6_bitCount_0f7a4_21 ?_
  refine lv_iadd hx hb dJ6_bitCount_0f7a4_22 ?_
  refine lv_istore_n (lv' := [(0, .int (((x - (((x).toUInt32 >>> ((1 : Int32).toUInt32 &&& Int32.toUInt32 31)).toInt32 &&& 1431655765)) &&& 858993459) + ((((x - (((x).toUInt32 >>> ((1 : Int32).toUInt32 &&& Int32.toUInt32 31)).toInt32 &&& 1431655765))).toUInt32 >>> ((2 : Int32).toUInt32 &&& Int32.toUInt32 31)).toInt32 &&& 858993459)))]) hx hb dJ6_bitCount_0f7a4_23 rfl hl (by decide) rfl (fun ls hl => ?_)
  refine lv_iload_n hx hb dJ6_bitCount_0f7a4_24 rfl (lv_at hl 0 rfl) ?_
  refine lv_iload_n hx hb dJ6_bitCount_0f7a4_25 rfl (lv_at hl 0 rfl) ?_
  refine lv_iconst (v := 4) hx hb dJ6_bitCount_0f7a4_26 (by decide) ?_
  refine lv_iushr hx hb dJ6_bitCount_0f7a4_27 rfl ?_
  refine lv_iadd hx hb dJ6_bitCount_0f7a4_28 ?_
  refine lv_ldcw (v := 252645135) hx hb hown kl267 dJ6_bitCount_0f7a4_29 ?_
  refine lv_iand hx hb dJ6_bitCount_0f7a4_32 ?_
  refine lv_istore_n (lv' := [(0, .int (((((x - (((x).toUInt32 >>> ((1 : Int32).toUInt32 &&& Int32.toUInt32 31)).toInt32 &&& 1431655765)) &&& 858993459) + ((((x - (((x).toUInt32 >>> ((1 : Int32).toUInt32 &&& Int32.toUInt32 31)).toInt32 &&& 1431655765))).toUInt32 >>> ((2 : Int32).toUInt32 &&& Int32.toUInt32 31)).toInt32 &&& 858993459)) + (((((x - (((x).toUInt32 >>> ((1 : Int32).toUInt32 &&& Int32.toUInt32 31)).toInt32 &&& 1431655765)) &&& 858993459) + ((((x - (((x).toUInt32 >>> ((1 : Int32).toUInt32 &&& Int32.toUInt32 31)).toInt32 &&& 1431655765))).toUInt32 >>> ((2 : Int32).toUInt32 &&& Int32.toUInt32 31)).toInt32 &&& 858993459))).toUInt32 >>> ((4 : Int32).toUInt32 &&& Int32.toUInt32 31)).toInt32) &&& 252645135))]) hx hb dJ6_bitCount_0f7a4_33 rfl hl (by decide) rfl (fun ls hl => ?_)
  refine lv_iload_n hx hb dJ6_bitCount_0f7a4_34 rfl (lv_at hl 0 rfl) ?_
  refine lv_iload_n hx hb dJ6_bitCount_0f7a4_35 rfl (lv_at hl 0 rfl) ?_
  refine lv_bipush (v := 8) hx hb dJ6_bitCount_0f7a4_36 (by decide) ?_
  refine lv_iushr hx hb dJ6_bitCount_0f7a4_38 rfl ?_
  refine lv_iadd hx hb dJ6_bitCount_0f7a4_39 ?_
  refine lv_istore_n (lv' := [(0, .int ((((((x - (((x).toUInt32 >>> ((1 : Int32).toUInt32 &&& Int32.toUInt32 31)).toInt32 &&& 1431655765)) &&& 858993459) + ((((x - (((x).toUInt32 >>> ((1 : Int32).toUInt32 &&& Int32.toUInt32 31)).toInt32 &&& 1431655765))).toUInt32 >>> ((2 : Int32).toUInt32 &&& Int32.toUInt32 31)).toInt32 &&& 858993459)) + (((((x - (((x).toUInt32 >>> ((1 : Int32).toUInt32 &&& Int32.toUInt32 31)).toInt32 &&& 1431655765)) &&& 858993459) + ((((x - (((x).toUInt32 >>> ((1 : Int32).toUInt32 &&& Int32.toUInt32 31)).toInt32 &&& 1431655765))).toUInt32 >>> ((2 : Int32).toUInt32 &&& Int32.toUInt32 31)).toInt32 &&& 858993459))).toUInt32 >>> ((4 : Int32).toUInt32 &&& Int32.toUInt32 31)).toInt32) &&& 252645135) + (((((((x - (((x).toUInt32 >>> ((1 : Int32).toUInt32 &&& Int32.toUInt32 31)).toInt32 &&& 1431655765)) &&& 858993459) + ((((x - (((x).toUInt32 >>> ((1 : Int32).toUInt32 &&& Int32.toUInt32 31)).toInt32 &&& 1431655765))).toUInt32 >>> ((2 : Int32).toUInt32 &&& Int32.toUInt32 31)).toInt32 &&& 858993459)) + (((((x - (((x).toUInt32 >>> ((1 : Int32).toUInt32 &&& Int32.toUInt32 31)).toInt32 &&& 1431655765)) &&& 858993459) + ((((x - (((x).toUInt32 >>> ((1 : Int32).toUInt32 &&& Int32.toUInt32 31)).toInt32 &&& 1431655765))).toUInt32 >>> ((2 : Int32).toUInt32 &&& Int32.toUInt32 31)).toInt32 &&& 858993459))).toUInt32 >>> ((4 : Int32).toUInt32 &&& Int32.toUInt32 31)).toInt32) &&& 252645135)).toUInt32 >>> ((8 : Int32).toUInt32 &&& Int32.toUInt32 31)).toInt32))]) hx hb dJ6_bitCount_0f7a4_40 rfl hl (by decide) rfl (fun ls hl => ?_)
  refine lv_iload_n hx hb dJ6_bitCount_0f7a4_41 rfl (lv_at hl 0 rfl) ?_
  refine lv_iload_n hx hb dJ6_bitCount_0f7a4_42 rfl (lv_at hl 0 rfl) ?_
  refine lv_bipush (v := 16) hx hb dJ6_bitCount_0f7a4_43 (by decide) ?_
  refine lv_iushr hx hb dJ6_bitCount_0f7a4_45 rfl ?_
  refine lv_iadd hx hb dJ6_bitCount_0f7a4_46 ?_
  refine lv_istore_n (lv' := [(0, .int (((((((x - (((x).toUInt32 >>> ((1 : Int32).toUInt32 &&& Int32.toUInt32 31)).toInt32 &&& 1431655765)) &&& 858993459) + ((((x - (((x).toUInt32 >>> ((1 : Int32).toUInt32 &&& Int32.toUInt32 31)).toInt32 &&& 1431655765))).toUInt32 >>> ((2 : Int32).toUInt32 &&& Int32.toUInt32 31)).toInt32 &&& 858993459)) + (((((x - (((x).toUInt32 >>> ((1 : Int32).toUInt32 &&& Int32.toUInt32 31)).toInt32 &&& 1431655765)) &&& 858993459) + ((((x - (((x).toUInt32 >>> ((1 : Int32).toUInt32 &&& Int32.toUInt32 31)).toInt32 &&& 1431655765))).toUInt32 >>> ((2 : Int32).toUInt32 &&& Int32.toUInt32 31)).toInt32 &&& 858993459))).toUInt32 >>> ((4 : Int32).toUInt32 &&& Int32.toUInt32 31)).toInt32) &&& 252645135) + (((((((x - (((x).toUInt32 >>> ((1 : Int32).toUInt32 &&& Int32.toUInt32 31)).toInt32 &&& 1431655765)) &&& 858993459) + ((((x - (((x).toUInt32 >>> ((1 : Int32).toUInt32 &&& Int32.toUInt32 31)).toInt32 &&& 1431655765))).toUInt32 >>> ((2 : Int32).toUInt32 &&& Int32.toUInt32 31)).toInt32 &&& 858993459)) + (((((x - (((x).toUInt32 >>> ((1 : Int32).toUInt32 &&& Int32.toUInt32 31)).toInt32 &&& 1431655765)) &&& 858993459) + ((((x - (((x).toUInt32 >>> ((1 : Int32).toUInt32 &&& Int32.toUInt32 31)).toInt32 &&& 1431655765))).toUInt32 >>> ((2 : Int32).toUInt32 &&& Int32.toUInt32 31)).toInt32 &&& 858993459))).toUInt32 >>> ((4 : Int32).toUInt32 &&& Int32.toUInt32 31)).toInt32) &&& 252645135)).toUInt32 >>> ((8 : Int32).toUInt32 &&& Int32.toUInt32 31)).toInt32) + ((((((((x - (((x).toUInt32 >>> ((1 : Int32).toUInt32 &&& Int32.toUInt32 31)).toInt32 &&& 1431655765)) &&& 858993459) + ((((x - (((x).toUInt32 >>> ((1 : Int32).toUInt32 &&& Int32.toUInt32 31)).toInt32 &&& 1431655765))).toUInt32 >>> ((2 : Int32).toUInt32 &&& Int32.toUInt32 31)).toInt32 &&& 858993459)) + (((((x - (((x).toUInt32 >>> ((1 : Int32).toUInt32 &&& Int32.toUInt32 31)).toInt32 &&& 1431655765)) &&& 858993459) + ((((x - (((x).toUInt32 >>> ((1 : Int32).toUInt32 &&& Int32.toUInt32 31)).toInt32 &&& 1431655765))).toUInt32 >>> ((2 : Int32).toUInt32 &&& Int32.toUInt32 31)).toInt32 &&& 858993459))).toUInt32 >>> ((4 : Int32).toUInt32 &&& Int32.toUInt32 31)).toInt32) &&& 252645135) + (((((((x - (((x).toUInt32 >>> ((1 : Int32).toUInt32 &&& Int32.toUInt32 31)).toInt32 &&& 1431655765)) &&& 858993459) + ((((x - (((x).toUInt32 >>> ((1 : Int32).toUInt32 &&& Int32.toUInt32 31)).toInt32 &&& 1431655765))).toUInt32 >>> ((2 : Int32).toUInt32 &&& Int32.toUInt32 31)).toInt32 &&& 858993459)) + (((((x - (((x).toUInt32 >>> ((1 : Int32).toUInt32 &&& Int32.toUInt32 31)).toInt32 &&& 1431655765)) &&& 858993459) + ((((x - (((x).toUInt32 >>> ((1 : Int32).toUInt32 &&& Int32.toUInt32 31)).toInt32 &&& 1431655765))).toUInt32 >>> ((2 : Int32).toUInt32 &&& Int32.toUInt32 31)).toInt32 &&& 858993459))).toUInt32 >>> ((4 : Int32).toUInt32 &&& Int32.toUInt32 31)).toInt32) &&& 252645135)).toUInt32 >>> ((8 : Int32).toUInt32 &&& Int32.toUInt32 31)).toInt32)).toUInt32 >>> ((16 : Int32).toUInt32 &&& Int32.toUInt32 31)).toInt32))]) hx hb dJ6_bitCount_0f7a4_47 rfl hl (by decide) rfl (fun ls hl => ?_)
  refine lv_iload_n hx hb dJ6_bitCount_0f7a4_48 rfl (lv_at hl 0 rfl) ?_
  refine lv_bipush (v := 63) hx hb dJ6_bitCount_0f7a4_49 (by decide) ?_
  refine lv_iand hx hb dJ6_bitCount_0f7a4_51 ?_
  exact x_iret (v := ((((((((x - (((x).toUInt32 >>> ((1 : Int32).toUInt32 &&& Int32.toUInt32 31)).toInt32 &&& 1431655765)) &&& 858993459) + ((((x - (((x).toUInt32 >>> ((1 : Int32).toUInt32 &&& Int32.toUInt32 31)).toInt32 &&& 1431655765))).toUInt32 >>> ((2 : Int32).toUInt32 &&& Int32.toUInt32 31)).toInt32 &&& 858993459)) + (((((x - (((x).toUInt32 >>> ((1 : Int32).toUInt32 &&& Int32.toUInt32 31)).toInt32 &&& 1431655765)) &&& 858993459) + ((((x - (((x).toUInt32 >>> ((1 : Int32).toUInt32 &&& Int32.toUInt32 31)).toInt32 &&& 1431655765))).toUInt32 >>> ((2 : Int32).toUInt32 &&& Int32.toUInt32 31)).toInt32 &&& 858993459))).toUInt32 >>> ((4 : Int32).toUInt32 &&& Int32.toUInt32 31)).toInt32) &&& 252645135) + (((((((x - (((x).toUInt32 >>> ((1 : Int32).toUInt32 &&& Int32.toUInt32 31)).toInt32 &&& 1431655765)) &&& 858993459) + ((((x - (((x).toUInt32 >>> ((1 : Int32).toUInt32 &&& Int32.toUInt32 31)).toInt32 &&& 1431655765))).toUInt32 >>> ((2 : Int32).toUInt32 &&& Int32.toUInt32 31)).toInt32 &&& 858993459)) + (((((x - (((x).toUInt32 >>> ((1 : Int32).toUInt32 &&& Int32.toUInt32 31)).toInt32 &&& 1431655765)) &&& 858993459) + ((((x - (((x).toUInt32 >>> ((1 : Int32).toUInt32 &&& Int32.toUInt32 31)).toInt32 &&& 1431655765))).toUInt32 >>> ((2 : Int32).toUInt32 &&& Int32.toUInt32 31)).toInt32 &&& 858993459))).toUInt32 >>> ((4 : Int32).toUInt32 &&& Int32.toUInt32 31)).toInt32) &&& 252645135)).toUInt32 >>> ((8 : Int32).toUInt32 &&& Int32.toUInt32 31)).toInt32) + ((((((((x - (((x).toUInt32 >>> ((1 : Int32).toUInt32 &&& Int32.toUInt32 31)).toInt32 &&& 1431655765)) &&& 858993459) + ((((x - (((x).toUInt32 >>> ((1 : Int32).toUInt32 &&& Int32.toUInt32 31)).toInt32 &&& 1431655765))).toUInt32 >>> ((2 : Int32).toUInt32 &&& Int32.toUInt32 31)).toInt32 &&& 858993459)) + (((((x - (((x).toUInt32 >>> ((1 : Int32).toUInt32 &&& Int32.toUInt32 31)).toInt32 &&& 1431655765)) &&& 858993459) + ((((x - (((x).toUInt32 >>> ((1 : Int32).toUInt32 &&& Int32.toUInt32 31)).toInt32 &&& 1431655765))).toUInt32 >>> ((2 : Int32).toUInt32 &&& Int32.toUInt32 31)).toInt32 &&& 858993459))).toUInt32 >>> ((4 : Int32).toUInt32 &&& Int32.toUInt32 31)).toInt32) &&& 252645135) + (((((((x - (((x).toUInt32 >>> ((1 : Int32).toUInt32 &&& Int32.toUInt32 31)).toInt32 &&& 1431655765)) &&& 858993459) + ((((x - (((x).toUInt32 >>> ((1 : Int32).toUInt32 &&& Int32.toUInt32 31)).toInt32 &&& 1431655765))).toUInt32 >>> ((2 : Int32).toUInt32 &&& Int32.toUInt32 31)).toInt32 &&& 858993459)) + (((((x - (((x).toUInt32 >>> ((1 : Int32).toUInt32 &&& Int32.toUInt32 31)).toInt32 &&& 1431655765)) &&& 858993459) + ((((x - (((x).toUInt32 >>> ((1 : Int32).toUInt32 &&& Int32.toUInt32 31)).toInt32 &&& 1431655765))).toUInt32 >>> ((2 : Int32).toUInt32 &&& Int32.toUInt32 31)).toInt32 &&& 858993459))).toUInt32 >>> ((4 : Int32).toUInt32 &&& Int32.toUInt32 31)).toInt32) &&& 252645135)).toUInt32 >>> ((8 : Int32).toUInt32 &&& Int32.toUInt32 31)).toInt32)).toUInt32 >>> ((16 : Int32).toUInt32 &&& Int32.toUInt32 31)).toInt32) &&& 63)) () hQ hx hb hr hlocks hS dJ6_bitCount_0f7a4_52 hv hP hD
theorem k_J6_bitCount_0f7a4 (l : Launch) (G : Gt) (sz : Nat) (x : Int32) : MetI l yJ6_bitCount_0f7a4 wsJ6_bitCount_0f7a4 0 0 G [.int x] [] sz (fun (r : Int32) (_ : Unit) => True) (fun (_ : Unit) => []) :=
  c_J6_bitCount_0f7a4 l G  sz x (by
    sorry)

set_option maxHeartbeats 4000000 in
set_option maxRecDepth 100000 in
theorem c_X7_sumOf8 (l : Launch) (G : Gt) (a0 : Nat) (sz : Nat) (f_ : Nat → Int32) (hv : ∃ (I10_3 : Int32 → Int32 → Prop) (μ10_4 : Int32 → Int32 → Nat), I10_3 0 0 ∧ (∀ (x1_1 : Int32) (x4_2 : Int32), I10_3 x1_1 x4_2 → (8 ≤ x4_2 → True) ∧ (¬ (8 ≤ x4_2) → (vp_in x4_2 8) ∧ (I10_3 (x1_1 + (f_ x4_2.toNatClampNeg)) (x4_2 + 1) ∧ μ10_4 (x1_1 + (f_ x4_2.toNatClampNeg)) (x4_2 + 1) < μ10_4 x1_1 x4_2)))) : MetI l yX7_sumOf wsX7_sumOf 0 0 G [.ref a0] [aI G a0 8 f_] sz (fun (r : Int32) (_ : Unit) => True) (fun (_ : Unit) => [aI G a0 8 f_]) := by
  refine x_startI (cc := cX7_sumOf) (maxL := 6) (ret := (some .int)) (by decide) rfl (Nat.le_of_ble_eq_true rfl) ?_
  intro p e s m args below meth c A R Q ls hRf hRl hQ C hP hD hS hA hSS hl
  obtain ⟨hx, hb, hr, hml, hown, hts, hlocks, hKK⟩ := C
  have hown : s.vm.findClass RX7 = some m.cls := hown
  have hl : lv_has ls 6 [(0, .ref a0)] := hl
  refine lv_iconst (v := 0) hx hb dX7_sumOf_0 (by decide) ?_
  refine lv_istore_n (lv' := [(1, .int 0), (0, .ref a0)]) hx hb dX7_sumOf_1 rfl hl (by decide) rfl (fun ls hl => ?_)
  refine lv_aload_n hx hb dX7_sumOf_2 rfl (lv_at hl 1 rfl) ?_
  refine lv_astore_n (lv' := [(2, .ref a0), (1, .int 0), (0, .ref a0)]) hx hb dX7_sumOf_3 rfl hl (by decide) rfl (fun ls hl => ?_)
  refine lv_aload_n hx hb dX7_sumOf_4 rfl (lv_at hl 0 rfl) ?_
  refine va_alen (v := 8) hx hb hKK.1 hP 0 0 rfl rfl rfl dX7_sumOf_5 ?_
  refine lv_istore_n (lv' := [(3, .int 8), (2, .ref a0), (1, .int 0), (0, .ref a0)]) hx hb dX7_sumOf_6 rfl hl (by decide) rfl (fun ls hl => ?_)
  refine lv_iconst (v := 0) hx hb dX7_sumOf_7 (by decide) ?_
  refine lv_istore (lv' := [(4, .int 0), (3, .int 8), (2, .ref a0), (1, .int 0), (0, .ref a0)]) hx hb dX7_sumOf_8 hl (by decide) rfl (fun ls hl => ?_)
  obtain ⟨I10_3, μ10_4, hi0, hs_8⟩ := hv
  have Lm_10 : ∀ (n_9 : Nat) (x1_1 : Int32) (x4_2 : Int32) (H : Heap) (locs : List Loc) (ls : Array Slot), μ10_4 x1_1 x4_2 < n_9 → I10_3 x1_1 x4_2 → va_P G.1 vwCl [aI G a0 8 f_] H → va_D A [aI G a0 8 f_] → va_S A s.heap H locs → lv_has ls 6 [(4, .int x4_2), (3, .int 8), (2, .ref a0), (1, .int x1_1), (0, .ref a0)] → W p l e R s m args below meth c H locs 0 0 Q (F0 m 10 ls []) := by
    intro n_9
    induction n_9 with
    | zero => intro x1_1 x4_2 H locs ls hm; exact absurd hm (Nat.not_lt_zero _)
    | succ n_9 ih_5 =>
      intro x1_1 x4_2 H locs ls hI_6 hi hP hD hS hl
      have hv := hs_8 x1_1 x4_2 hi
      refine lv_iload hx hb dX7_sumOf_10 (lv_at hl 0 rfl) ?_
      refine lv_iload_n hx hb dX7_sumOf_12 rfl (lv_at hl 1 rfl) ?_
      refine lv_icmp_ge (tgt := 33) hx hb dX7_sumOf_13 (by decide) (fun hc_7 => ?_) (fun hc_7 => ?_)
      · have hv := hv.1 hc_7
        refine lv_iload_n hx hb dX7_sumOf_33 rfl (lv_at hl 3 rfl) ?_
        exact x_iret (v := x1_1) () hQ hx hb hr hlocks hS dX7_sumOf_34 hv hP hD
      · have hv := hv.2 hc_7
        refine lv_aload_n hx hb dX7_sumOf_16 rfl (lv_at hl 2 rfl) ?_
        refine lv_iload hx hb dX7_sumOf_17 (lv_at hl 0 rfl) ?_
        obtain ⟨hin, hv⟩ := hv
        refine va_iald hx hb hKK.1 hP 0 0 rfl rfl hin dX7_sumOf_19 ?_
        refine lv_istore (lv' := [(5, .int (f_ x4_2.toNatClampNeg)), (4, .int x4_2), (3, .int 8), (2, .ref a0), (1, .int x1_1), (0, .ref a0)]) hx hb dX7_sumOf_20 hl (by decide) rfl (fun ls hl => ?_)
        refine lv_iload_n hx hb dX7_sumOf_22 rfl (lv_at hl 4 rfl) ?_
        refine lv_iload hx hb dX7_sumOf_23 (lv_at hl 0 rfl) ?_
        refine lv_iadd hx hb dX7_sumOf_25 ?_
        refine lv_istore_n (lv' := [(1, .int (x1_1 + (f_ x4_2.toNatClampNeg))), (5, .int (f_ x4_2.toNatClampNeg)), (4, .int x4_2), (3, .int 8), (2, .ref a0), (0, .ref a0)]) hx hb dX7_sumOf_26 rfl hl (by decide) rfl (fun ls hl => ?_)
        refine lv_iinc (v := (x4_2 + 1)) (lv' := [(4, .int (x4_2 + 1)), (1, .int (x1_1 + (f_ x4_2.toNatClampNeg))), (5, .int (f_ x4_2.toNatClampNeg)), (3, .int 8), (2, .ref a0), (0, .ref a0)]) hx hb dX7_sumOf_27 hl (k := 2) rfl rfl (by decide) rfl (fun ls hl => ?_)
        refine lv_goto (tgt := 10) hx hb dX7_sumOf_30 (by decide) ?_
        exact ih_5 _ _ _ _ _ (Nat.lt_of_lt_of_le hv.2 (Nat.le_of_lt_succ hI_6)) hv.1 hP hD hS (lv_sub hl [0, 3, 4, 1, 5] rfl)
  exact Lm_10 _ _ _ _ _ _ (Nat.lt_succ_self _) hi0 hP hD hS hl
theorem k_X7_sumOf8 (l : Launch) (G : Gt) (a0 : Nat) (sz : Nat) (f_ : Nat → Int32) (hp : True) : MetI l yX7_sumOf wsX7_sumOf 0 0 G [.ref a0] [aI G a0 8 f_] sz (fun (r : Int32) (_ : Unit) => True) (fun (_ : Unit) => [aI G a0 8 f_]) :=
  c_X7_sumOf8 l G a0 sz f_ (by
    sorry)

set_option maxHeartbeats 4000000 in
set_option maxRecDepth 100000 in
theorem c_X7_sumOf9 (l : Launch) (G : Gt) (a0 : Nat) (sz : Nat) (f_ : Nat → Int32) (hv : ∃ (I10_3 : Int32 → Int32 → Prop) (μ10_4 : Int32 → Int32 → Nat), I10_3 0 0 ∧ (∀ (x1_1 : Int32) (x4_2 : Int32), I10_3 x1_1 x4_2 → (9 ≤ x4_2 → True) ∧ (¬ (9 ≤ x4_2) → (vp_in x4_2 9) ∧ (I10_3 (x1_1 + (f_ x4_2.toNatClampNeg)) (x4_2 + 1) ∧ μ10_4 (x1_1 + (f_ x4_2.toNatClampNeg)) (x4_2 + 1) < μ10_4 x1_1 x4_2)))) : MetI l yX7_sumOf wsX7_sumOf 0 0 G [.ref a0] [aI G a0 9 f_] sz (fun (r : Int32) (_ : Unit) => True) (fun (_ : Unit) => [aI G a0 9 f_]) := by
  refine x_startI (cc := cX7_sumOf) (maxL := 6) (ret := (some .int)) (by decide) rfl (Nat.le_of_ble_eq_true rfl) ?_
  intro p e s m args below meth c A R Q ls hRf hRl hQ C hP hD hS hA hSS hl
  obtain ⟨hx, hb, hr, hml, hown, hts, hlocks, hKK⟩ := C
  have hown : s.vm.findClass RX7 = some m.cls := hown
  have hl : lv_has ls 6 [(0, .ref a0)] := hl
  refine lv_iconst (v := 0) hx hb dX7_sumOf_0 (by decide) ?_
  refine lv_istore_n (lv' := [(1, .int 0), (0, .ref a0)]) hx hb dX7_sumOf_1 rfl hl (by decide) rfl (fun ls hl => ?_)
  refine lv_aload_n hx hb dX7_sumOf_2 rfl (lv_at hl 1 rfl) ?_
  refine lv_astore_n (lv' := [(2, .ref a0), (1, .int 0), (0, .ref a0)]) hx hb dX7_sumOf_3 rfl hl (by decide) rfl (fun ls hl => ?_)
  refine lv_aload_n hx hb dX7_sumOf_4 rfl (lv_at hl 0 rfl) ?_
  refine va_alen (v := 9) hx hb hKK.1 hP 0 0 rfl rfl rfl dX7_sumOf_5 ?_
  refine lv_istore_n (lv' := [(3, .int 9), (2, .ref a0), (1, .int 0), (0, .ref a0)]) hx hb dX7_sumOf_6 rfl hl (by decide) rfl (fun ls hl => ?_)
  refine lv_iconst (v := 0) hx hb dX7_sumOf_7 (by decide) ?_
  refine lv_istore (lv' := [(4, .int 0), (3, .int 9), (2, .ref a0), (1, .int 0), (0, .ref a0)]) hx hb dX7_sumOf_8 hl (by decide) rfl (fun ls hl => ?_)
  obtain ⟨I10_3, μ10_4, hi0, hs_8⟩ := hv
  have Lm_10 : ∀ (n_9 : Nat) (x1_1 : Int32) (x4_2 : Int32) (H : Heap) (locs : List Loc) (ls : Array Slot), μ10_4 x1_1 x4_2 < n_9 → I10_3 x1_1 x4_2 → va_P G.1 vwCl [aI G a0 9 f_] H → va_D A [aI G a0 9 f_] → va_S A s.heap H locs → lv_has ls 6 [(4, .int x4_2), (3, .int 9), (2, .ref a0), (1, .int x1_1), (0, .ref a0)] → W p l e R s m args below meth c H locs 0 0 Q (F0 m 10 ls []) := by
    intro n_9
    induction n_9 with
    | zero => intro x1_1 x4_2 H locs ls hm; exact absurd hm (Nat.not_lt_zero _)
    | succ n_9 ih_5 =>
      intro x1_1 x4_2 H locs ls hI_6 hi hP hD hS hl
      have hv := hs_8 x1_1 x4_2 hi
      refine lv_iload hx hb dX7_sumOf_10 (lv_at hl 0 rfl) ?_
      refine lv_iload_n hx hb dX7_sumOf_12 rfl (lv_at hl 1 rfl) ?_
      refine lv_icmp_ge (tgt := 33) hx hb dX7_sumOf_13 (by decide) (fun hc_7 => ?_) (fun hc_7 => ?_)
      · have hv := hv.1 hc_7
        refine lv_iload_n hx hb dX7_sumOf_33 rfl (lv_at hl 3 rfl) ?_
        exact x_iret (v := x1_1) () hQ hx hb hr hlocks hS dX7_sumOf_34 hv hP hD
      · have hv := hv.2 hc_7
        refine lv_aload_n hx hb dX7_sumOf_16 rfl (lv_at hl 2 rfl) ?_
        refine lv_iload hx hb dX7_sumOf_17 (lv_at hl 0 rfl) ?_
        obtain ⟨hin, hv⟩ := hv
        refine va_iald hx hb hKK.1 hP 0 0 rfl rfl hin dX7_sumOf_19 ?_
        refine lv_istore (lv' := [(5, .int (f_ x4_2.toNatClampNeg)), (4, .int x4_2), (3, .int 9), (2, .ref a0), (1, .int x1_1), (0, .ref a0)]) hx hb dX7_sumOf_20 hl (by decide) rfl (fun ls hl => ?_)
        refine lv_iload_n hx hb dX7_sumOf_22 rfl (lv_at hl 4 rfl) ?_
        refine lv_iload hx hb dX7_sumOf_23 (lv_at hl 0 rfl) ?_
        refine lv_iadd hx hb dX7_sumOf_25 ?_
        refine lv_istore_n (lv' := [(1, .int (x1_1 + (f_ x4_2.toNatClampNeg))), (5, .int (f_ x4_2.toNatClampNeg)), (4, .int x4_2), (3, .int 9), (2, .ref a0), (0, .ref a0)]) hx hb dX7_sumOf_26 rfl hl (by decide) rfl (fun ls hl => ?_)
        refine lv_iinc (v := (x4_2 + 1)) (lv' := [(4, .int (x4_2 + 1)), (1, .int (x1_1 + (f_ x4_2.toNatClampNeg))), (5, .int (f_ x4_2.toNatClampNeg)), (3, .int 9), (2, .ref a0), (0, .ref a0)]) hx hb dX7_sumOf_27 hl (k := 2) rfl rfl (by decide) rfl (fun ls hl => ?_)
        refine lv_goto (tgt := 10) hx hb dX7_sumOf_30 (by decide) ?_
        exact ih_5 _ _ _ _ _ (Nat.lt_of_lt_of_le hv.2 (Nat.le_of_lt_succ hI_6)) hv.1 hP hD hS (lv_sub hl [0, 3, 4, 1, 5] rfl)
  exact Lm_10 _ _ _ _ _ _ (Nat.lt_succ_self _) hi0 hP hD hS hl
theorem k_X7_sumOf9 (l : Launch) (G : Gt) (a0 : Nat) (sz : Nat) (f_ : Nat → Int32) (hp : True) : MetI l yX7_sumOf wsX7_sumOf 0 0 G [.ref a0] [aI G a0 9 f_] sz (fun (r : Int32) (_ : Unit) => True) (fun (_ : Unit) => [aI G a0 9 f_]) :=
  c_X7_sumOf9 l G a0 sz f_ (by
    sorry)

set_option maxHeartbeats 4000000 in
set_option maxRecDepth 100000 in
theorem c_X7_feed (l : Launch) (G : Gt) (h0 e0 e01 : Nat) (sz : Nat) (t : Nat) (k : Nat) (n : Nat) (j : Nat) (i0 : Nat) (b0 : Nat) (s0 : Nat) (q : Nat) (g : Nat) (kp : Int32) (bt : Nat → Int32) (xl : Int32) (xf : Int32) (xg : Int32) (xa : Int32) (xt : Int32) (xr : Int32) (xn : Int32) (x : Int32) (v : Int64) (hv : (¬ x < 1 ∧ ¬ 8 < x → (True) ∧ (∀ (r_3 : Int32), (True) → ((¬ r_3 = 0 → (True) ∧ (∀ (bt2_6 : Nat → Int32) (xl2_7 : Int32), (True) → (True))) ∧ (r_3 = 0 → True)))) ∧ (¬ (¬ x < 1 ∧ ¬ 8 < x) → True)) : MetI l yX7_feed wsX7_feed 1 24 G [.ref h0, .int x, .long v] [(h0, .inr (7, [.ref e0, .ref t, .ref k, .ref n, .ref j, .ref i0, .int kp, .ref b0, .ref s0, .ref q, .ref g])), (e0, .inr (5, [.ref e01, .int xl, .int xf, .int xg, .int xa, .int xt, .int xr, .int xn])), aB G e01 400 bt] sz (fun (r : Int32) (u : (Nat → Int32) × (Int32)) => True) (fun (u : (Nat → Int32) × (Int32)) => [(h0, .inr (7, [.ref e0, .ref t, .ref k, .ref n, .ref j, .ref i0, .int kp, .ref b0, .ref s0, .ref q, .ref g])), (e0, .inr (5, [.ref e01, .int u.2, .int xf, .int xg, .int xa, .int xt, .int xr, .int xn])), aB G e01 400 u.1]) := by
  refine x_startI (cc := cX7_feed) (maxL := 4) (ret := (some .int)) (by decide) rfl (Nat.le_of_ble_eq_true rfl) ?_
  intro p e s m args below meth c A R Q ls hRf hRl hQ C hP hD hS hA hSS hl
  obtain ⟨hx, hb, hr, hml, hown, hts, hlocks, hKK⟩ := C
  have hown : s.vm.findClass RX7 = some m.cls := hown
  have hl : lv_has ls 4 [(0, .ref h0), (1, .int x), (2, .long v)] := hl
  have hinX5 : ∀ w ∈ u_ws RX5 TX5 8, w ∈ wsX7_feed := by decide +kernel
  have hinX7 : ∀ w ∈ u_ws RX7 TX7 11, w ∈ wsX7_feed := by decide +kernel
  have kl10 := hts (.fieldLink RX7 10 "WarmStones" "text" "LWarmStones$Text;") (by decide +kernel)
  have kl72 := hts (.constant RX7 72 (-1000000002)) (by decide +kernel)
  have kl77 := hts (.constant RX7 77 (-1000000004)) (by decide +kernel)
  have kl82 := hts (.fieldLink RX7 82 "WarmStones$Text" "length" "I") (by decide +kernel)
  refine lv_iload_n hx hb dX7_feed_0 rfl (lv_at hl 1 rfl) ?_
  refine lv_iconst (v := 1) hx hb dX7_feed_1 (by decide) ?_
  refine lv_bipush (v := 8) hx hb dX7_feed_2 (by decide) ?_
  refine x_calliR (x_runS (As := [.int x, .int 1, .int 8]) (rest := []) (n := 3) ⟨hx, hb, hml, hown, hts⟩ (k_X7_within l G  _ x 1 8) gX7_feed_X7_within rfl (by decide +kernel) ⟨Nat.le_trans (Nat.le_of_ble_eq_true rfl) hRf, Nat.le_trans (Nat.le_of_ble_eq_true rfl) hRl⟩ hKK hSS hS hA hP hD [] (by decide) rfl rfl hl.1 rfl (Nat.le_of_ble_eq_true rfl) dX7_feed_4) hP hD hS hA [] rfl (fun r_1 _ H locs hw hP hS => ?_)
  replace hw := hw.symm; subst hw
  refine lv_if_ne (tgt := 13) hx hb dX7_feed_7 (by decide) (fun hc_2 => ?_) (fun hc_2 => ?_)
  · have hv := hv.1 (tv_eqn.mp hc_2)
    refine lv_aload_n hx hb dX7_feed_13 rfl (lv_at hl 0 rfl) ?_
    refine va_get (D := G.1) (ci := 7) (v := .ref e0) (C := RX7) (T := TX7) (N := 11) hx hb hts hinX7 hown hKK.1 hP 0 rfl rfl 0 (by decide) kl10 (fun _ h9 => h9) rfl dX7_feed_14 ?_
    refine lv_iload_n hx hb dX7_feed_17 rfl (lv_at hl 1 rfl) ?_
    obtain ⟨hp, hv⟩ := hv
    refine x_calliR (x_runV (As := [.int x]) (rest := []) (n := 1) (C := RX5) (ci := 5) ⟨hx, hb, hml, hown, hts⟩ (k_X5_hasRoomFor l G e0 e01 _ bt xl xf xg xa xt xr xn x hp) gX7_feed_X5_hasRoomFor rfl (by decide +kernel) ⟨Nat.le_trans (Nat.le_of_ble_eq_true rfl) hRf, Nat.le_trans (Nat.le_of_ble_eq_true rfl) hRl⟩ hKK hSS hS hA hP hD [1, 2] (by decide) rfl rfl rfl 1 rfl rfl hl.1 rfl (Nat.le_of_ble_eq_true rfl) dX7_feed_18) hP hD hS hA [1, 2] rfl (fun r_3 _ H locs hw hP hS => ?_)
    have hv := hv r_3 hw
    refine lv_if_ne (tgt := 27) hx hb dX7_feed_21 (by decide) (fun hc_4 => ?_) (fun hc_4 => ?_)
    · have hv := hv.1 hc_4
      refine lv_aload_n hx hb dX7_feed_27 rfl (lv_at hl 0 rfl) ?_
      refine va_get (D := G.1) (ci := 7) (v := .ref e0) (C := RX7) (T := TX7) (N := 11) hx hb hts hinX7 hown hKK.1 hP 0 rfl rfl 0 (by decide) kl10 (fun _ h9 => h9) rfl dX7_feed_28 ?_
      refine lv_iload_n hx hb dX7_feed_31 rfl (lv_at hl 1 rfl) ?_
      refine lv_lload_n hx hb dX7_feed_32 rfl (lv_at hl 2 rfl) ?_
      obtain ⟨hp, hv⟩ := hv
      refine x_callv (wr := [(h0, .inr (7, [.ref e0, .ref t, .ref k, .ref n, .ref j, .ref i0, .int kp, .ref b0, .ref s0, .ref q, .ref g]))]) (w' := fun (u : (Nat → Int32) × (Int32)) => [(h0, .inr (7, [.ref e0, .ref t, .ref k, .ref n, .ref j, .ref i0, .int kp, .ref b0, .ref s0, .ref q, .ref g])), (e0, .inr (5, [.ref e01, .int u.2, .int xf, .int xg, .int xa, .int xt, .int xr, .int xn])), aB G e01 400 u.1]) (x_runV (As := [.int x, .long v]) (rest := []) (n := 2) (C := RX5) (ci := 5) ⟨hx, hb, hml, hown, hts⟩ (k_X5_append l G e0 e01 _ bt xl xf xg xa xt xr xn x v hp) gX7_feed_X5_append rfl (by decide +kernel) ⟨Nat.le_trans (Nat.le_of_ble_eq_true rfl) hRf, Nat.le_trans (Nat.le_of_ble_eq_true rfl) hRl⟩ hKK hSS hS hA hP hD [1, 2] (by decide) rfl rfl rfl 1 rfl rfl hl.1 rfl (Nat.le_of_ble_eq_true rfl) dX7_feed_33) hP hD hS hA [1, 2] [0] [0, 1, 2] rfl rfl (by decide) (by decide) (by decide) (fun _ => rfl) (fun  u H locs hw hP hD hS => ?_)
      obtain ⟨bt2_6, xl2_7⟩ := u
      have hP : va_P G.1 vwCl [(h0, .inr (7, [.ref e0, .ref t, .ref k, .ref n, .ref j, .ref i0, .int kp, .ref b0, .ref s0, .ref q, .ref g])), (e0, .inr (5, [.ref e01, .int xl2_7, .int xf, .int xg, .int xa, .int xt, .int xr, .int xn])), aB G e01 400 bt2_6] H := hP
      have hD : va_D A [(h0, .inr (7, [.ref e0, .ref t, .ref k, .ref n, .ref j, .ref i0, .int kp, .ref b0, .ref s0, .ref q, .ref g])), (e0, .inr (5, [.ref e01, .int xl2_7, .int xf, .int xg, .int xa, .int xt, .int xr, .int xn])), aB G e01 400 bt2_6] := hD
      have hv := hv bt2_6 xl2_7 hw
      refine lv_aload_n hx hb dX7_feed_36 rfl (lv_at hl 0 rfl) ?_
      refine va_get (D := G.1) (ci := 7) (v := .ref e0) (C := RX7) (T := TX7) (N := 11) hx hb hts hinX7 hown hKK.1 hP 0 rfl rfl 0 (by decide) kl10 (fun _ h9 => h9) rfl dX7_feed_37 ?_
      refine va_get (D := G.1) (ci := 5) (v := .int xl2_7) (C := RX5) (T := TX5) (N := 8) hx hb hts hinX5 hown hKK.1 hP 1 rfl rfl 1 (by decide) kl82 (fun _ h9 => h9) rfl dX7_feed_40 ?_
      exact x_iret (v := xl2_7) (bt2_6, xl2_7) hQ hx hb hr hlocks hS dX7_feed_43 hv hP hD
    · have hv := hv.2 hc_4
      refine lv_ldc (v := (-1000000004)) hx hb hown kl77 dX7_feed_24 ?_
      exact x_iret (v := (-1000000004)) (bt, xl) hQ hx hb hr hlocks hS dX7_feed_26 hv hP hD
  · have hv := hv.2 (tv_eq.mp hc_2)
    refine lv_ldc (v := (-1000000002)) hx hb hown kl72 dX7_feed_10 ?_
    exact x_iret (v := (-1000000002)) (bt, xl) hQ hx hb hr hlocks hS dX7_feed_12 hv hP hD
theorem k_X7_feed (l : Launch) (G : Gt) (h0 e0 e01 : Nat) (sz : Nat) (t : Nat) (k : Nat) (n : Nat) (j : Nat) (i0 : Nat) (b0 : Nat) (s0 : Nat) (q : Nat) (g : Nat) (kp : Int32) (bt : Nat → Int32) (xl : Int32) (xf : Int32) (xg : Int32) (xa : Int32) (xt : Int32) (xr : Int32) (xn : Int32) (x : Int32) (v : Int64) (hp : True) : MetI l yX7_feed wsX7_feed 1 24 G [.ref h0, .int x, .long v] [(h0, .inr (7, [.ref e0, .ref t, .ref k, .ref n, .ref j, .ref i0, .int kp, .ref b0, .ref s0, .ref q, .ref g])), (e0, .inr (5, [.ref e01, .int xl, .int xf, .int xg, .int xa, .int xt, .int xr, .int xn])), aB G e01 400 bt] sz (fun (r : Int32) (u : (Nat → Int32) × (Int32)) => True) (fun (u : (Nat → Int32) × (Int32)) => [(h0, .inr (7, [.ref e0, .ref t, .ref k, .ref n, .ref j, .ref i0, .int kp, .ref b0, .ref s0, .ref q, .ref g])), (e0, .inr (5, [.ref e01, .int u.2, .int xf, .int xg, .int xa, .int xt, .int xr, .int xn])), aB G e01 400 u.1]) :=
  c_X7_feed l G h0 e0 e01 sz t k n j i0 b0 s0 q g kp bt xl xf xg xa xt xr xn x v (by
    sorry)

set_option maxHeartbeats 4000000 in
set_option maxRecDepth 100000 in
theorem c_X7_town (l : Launch) (G : Gt) (h0 e0 e01 t t1 t2 t3 t4 t5 t6 k k1 k2 k3 k4 k5 k6 n n1 n2 n3 n4 n5 n6 n7 b0 b01 b02 : Nat) (sz : Nat) (j : Nat) (i0 : Nat) (s0 : Nat) (q : Nat) (g : Nat) (kp : Int32) (bt : Nat → Int32) (xl : Int32) (xf : Int32) (xg : Int32) (xa : Int32) (xt : Int32) (xr : Int32) (xn : Int32) (ns : Int32) (np : Int32) (fu : Int32) (fd : Int32) (fi : Int32) (sz_ : Nat → Int32) (pt : Nat → Int32) (fh : Nat → Int32) (kd : Nat → Int32) (nd : Nat → Int32) (fw : Nat → Int32) (nsk : Int32) (npk : Int32) (fuk : Int32) (fdk : Int32) (fik : Int32) (sz_k : Nat → Int32) (ptk : Nat → Int32) (fhk : Nat → Int32) (kdk : Nat → Int32) (ndk : Nat → Int32) (fwk : Nat → Int32) (ht : Nat → Int32) (wm : Nat → Int32) (se : Nat → Int32) (cd : Nat → Int32) (sl : Nat → Int32) (od : Nat → Int32) (ow : Nat → Int32) (lo : Int32) (mi : Int32) (sd : Int32) (en : Int32) (bs : Nat → Int32) (bh : Nat → Int32) (hv : (True) ∧ (∀ (r_1 : Int32) (xl2_2 : Int32) (xa2_3 : Int32) (xt2_4 : Int32) (xg2_5 : Int32) (xf2_6 : Int32) (xr2_7 : Int32) (xn2_8 : Int32) (ns2_9 : Int32) (sz2_10 : Nat → Int32) (pt2_11 : Nat → Int32) (fh2_12 : Nat → Int32) (np2_13 : Int32) (kd2_14 : Nat → Int32) (nd2_15 : Nat → Int32) (fw2_16 : Nat → Int32) (fu2_17 : Int32) (fd2_18 : Int32) (fi2_19 : Int32), (True) → ((r_1 = 0 → (True) ∧ (∀ (ht2_22 : Nat → Int32) (wm2_23 : Nat → Int32) (se2_24 : Nat → Int32) (cd2_25 : Nat → Int32) (sl2_26 : Nat → Int32) (od2_27 : Nat → Int32) (ow2_28 : Nat → Int32) (lo2_29 : Int32) (mi2_30 : Int32), (True) → (True))) ∧ (¬ (r_1 = 0) → True)))) : MetI l yX7_town wsX7_town 9 194 G [.ref h0] [(h0, .inr (7, [.ref e0, .ref t, .ref k, .ref n, .ref j, .ref i0, .int kp, .ref b0, .ref s0, .ref q, .ref g])), (e0, .inr (5, [.ref e01, .int xl, .int xf, .int xg, .int xa, .int xt, .int xr, .int xn])), aB G e01 400 bt, (t, .inr (6, [.int ns, .int np, .int fu, .int fd, .int fi, .ref t1, .ref t2, .ref t3, .ref t4, .ref t5, .ref t6])), aI G t1 9 sz_, aI G t2 9 pt, aI G t3 9 fh, aI G t4 8 kd, aI G t5 8 nd, aI G t6 8 fw, (k, .inr (6, [.int nsk, .int npk, .int fuk, .int fdk, .int fik, .ref k1, .ref k2, .ref k3, .ref k4, .ref k5, .ref k6])), aI G k1 9 sz_k, aI G k2 9 ptk, aI G k3 9 fhk, aI G k4 8 kdk, aI G k5 8 ndk, aI G k6 8 fwk, (n, .inr (1, [.ref n1, .ref n2, .ref n3, .ref n4, .ref n5, .ref n6, .ref n7, .int lo, .int mi, .int sd])), aI G n1 9 ht, aI G n2 8 wm, aI G n3 8 se, aI G n4 8 cd, aI G n5 8 sl, aI G n6 8 od, aI G n7 72 ow, (b0, .inr (0, [.ref b01, .ref b02, .int en])), aI G b01 30 bs, aI G b02 30 bh] sz (fun (r : Int32) (u : (Int32) × (Int32) × (Int32) × (Int32) × (Int32) × (Int32) × (Int32) × (Int32) × (Nat → Int32) × (Nat → Int32) × (Nat → Int32) × (Int32) × (Nat → Int32) × (Nat → Int32) × (Nat → Int32) × (Int32) × (Int32) × (Int32) × (Nat) × (Nat) × (Int32) × (Nat → Int32) × (Nat → Int32) × (Nat → Int32) × (Nat → Int32) × (Nat → Int32) × (Nat → Int32) × (Nat → Int32) × (Int32) × (Int32) × (Int32)) => True) (fun (u : (Int32) × (Int32) × (Int32) × (Int32) × (Int32) × (Int32) × (Int32) × (Int32) × (Nat → Int32) × (Nat → Int32) × (Nat → Int32) × (Int32) × (Nat → Int32) × (Nat → Int32) × (Nat → Int32) × (Int32) × (Int32) × (Int32) × (Nat) × (Nat) × (Int32) × (Nat → Int32) × (Nat → Int32) × (Nat → Int32) × (Nat → Int32) × (Nat → Int32) × (Nat → Int32) × (Nat → Int32) × (Int32) × (Int32) × (Int32)) => [(h0, .inr (7, [.ref e0, .ref u.2.2.2.2.2.2.2.2.2.2.2.2.2.2.2.2.2.2.1, .ref u.2.2.2.2.2.2.2.2.2.2.2.2.2.2.2.2.2.2.2.1, .ref n, .ref j, .ref i0, .int u.2.2.2.2.2.2.2.2.2.2.2.2.2.2.2.2.2.2.2.2.1, .ref b0, .ref s0, .ref q, .ref g])), (e0, .inr (5, [.ref e01, .int u.1, .int u.2.2.2.2.1, .int u.2.2.2.1, .int u.2.1, .int u.2.2.1, .int u.2.2.2.2.2.1, .int u.2.2.2.2.2.2.1])), aB G e01 400 bt, (t, .inr (6, [.int ns, .int np, .int fu, .int fd, .int fi, .ref t1, .ref t2, .ref t3, .ref t4, .ref t5, .ref t6])), aI G t1 9 sz_, aI G t2 9 pt, aI G t3 9 fh, aI G t4 8 kd, aI G t5 8 nd, aI G t6 8 fw, (k, .inr (6, [.int u.2.2.2.2.2.2.2.1, .int u.2.2.2.2.2.2.2.2.2.2.2.1, .int u.2.2.2.2.2.2.2.2.2.2.2.2.2.2.2.1, .int u.2.2.2.2.2.2.2.2.2.2.2.2.2.2.2.2.1, .int u.2.2.2.2.2.2.2.2.2.2.2.2.2.2.2.2.2.1, .ref k1, .ref k2, .ref k3, .ref k4, .ref k5, .ref k6])), aI G k1 9 u.2.2.2.2.2.2.2.2.1, aI G k2 9 u.2.2.2.2.2.2.2.2.2.1, aI G k3 9 u.2.2.2.2.2.2.2.2.2.2.1, aI G k4 8 u.2.2.2.2.2.2.2.2.2.2.2.2.1, aI G k5 8 u.2.2.2.2.2.2.2.2.2.2.2.2.2.1, aI G k6 8 u.2.2.2.2.2.2.2.2.2.2.2.2.2.2.1, (n, .inr (1, [.ref n1, .ref n2, .ref n3, .ref n4, .ref n5, .ref n6, .ref n7, .int u.2.2.2.2.2.2.2.2.2.2.2.2.2.2.2.2.2.2.2.2.2.2.2.2.2.2.2.2.1, .int u.2.2.2.2.2.2.2.2.2.2.2.2.2.2.2.2.2.2.2.2.2.2.2.2.2.2.2.2.2.1, .int sd])), aI G n1 9 u.2.2.2.2.2.2.2.2.2.2.2.2.2.2.2.2.2.2.2.2.2.1, aI G n2 8 u.2.2.2.2.2.2.2.2.2.2.2.2.2.2.2.2.2.2.2.2.2.2.1, aI G n3 8 u.2.2.2.2.2.2.2.2.2.2.2.2.2.2.2.2.2.2.2.2.2.2.2.1, aI G n4 8 u.2.2.2.2.2.2.2.2.2.2.2.2.2.2.2.2.2.2.2.2.2.2.2.2.1, aI G n5 8 u.2.2.2.2.2.2.2.2.2.2.2.2.2.2.2.2.2.2.2.2.2.2.2.2.2.1, aI G n6 8 u.2.2.2.2.2.2.2.2.2.2.2.2.2.2.2.2.2.2.2.2.2.2.2.2.2.2.1, aI G n7 72 u.2.2.2.2.2.2.2.2.2.2.2.2.2.2.2.2.2.2.2.2.2.2.2.2.2.2.2.1, (b0, .inr (0, [.ref b01, .ref b02, .int u.2.2.2.2.2.2.2.2.2.2.2.2.2.2.2.2.2.2.2.2.2.2.2.2.2.2.2.2.2.2])), aI G b01 30 bs, aI G b02 30 bh]) := by
  refine x_startI (cc := cX7_town) (maxL := 3) (ret := (some .int)) (by decide) rfl (Nat.le_of_ble_eq_true rfl) ?_
  intro p e s m args below meth c A R Q ls hRf hRl hQ C hP hD hS hA hSS hl
  obtain ⟨hx, hb, hr, hml, hown, hts, hlocks, hKK⟩ := C
  have hown : s.vm.findClass RX7 = some m.cls := hown
  have hl : lv_has ls 3 [(0, .ref h0)] := hl
  have hinX0 : ∀ w ∈ u_ws RX0 TX0 3, w ∈ wsX7_town := by decide +kernel
  have hinX6 : ∀ w ∈ u_ws RX6 TX6 11, w ∈ wsX7_town := by decide +kernel
  have hinX7 : ∀ w ∈ u_ws RX7 TX7 11, w ∈ wsX7_town := by decide +kernel
  have kl10 := hts (.fieldLink RX7 10 "WarmStones" "text" "LWarmStones$Text;") (by decide +kernel)
  have kl100 := hts (.fieldLink RX7 100 "WarmStones$Town" "stones" "I") (by decide +kernel)
  have kl19 := hts (.fieldLink RX7 19 "WarmStones" "town" "LWarmStones$Town;") (by decide +kernel)
  have kl23 := hts (.fieldLink RX7 23 "WarmStones" "spare" "LWarmStones$Town;") (by decide +kernel)
  have kl29 := hts (.fieldLink RX7 29 "WarmStones" "night" "LWarmStones$Night;") (by decide +kernel)
  have kl43 := hts (.fieldLink RX7 43 "WarmStones" "book" "LWarmStones$Book;") (by decide +kernel)
  have kl94 := hts (.fieldLink RX7 94 "WarmStones$Book" "entries" "I") (by decide +kernel)
  have kl97 := hts (.fieldLink RX7 97 "WarmStones" "kept" "I") (by decide +kernel)
  refine lv_aload_n hx hb dX7_town_0 rfl (lv_at hl 0 rfl) ?_
  refine va_get (D := G.1) (ci := 7) (v := .ref e0) (C := RX7) (T := TX7) (N := 11) hx hb hts hinX7 hown hKK.1 hP 0 rfl rfl 0 (by decide) kl10 (fun _ h9 => h9) rfl dX7_town_1 ?_
  refine lv_aload_n hx hb dX7_town_4 rfl (lv_at hl 0 rfl) ?_
  refine va_get (D := G.1) (ci := 7) (v := .ref k) (C := RX7) (T := TX7) (N := 11) hx hb hts hinX7 hown hKK.1 hP 0 rfl rfl 2 (by decide) kl23 (fun _ h9 => h9) rfl dX7_town_5 ?_
  obtain ⟨hp, hv⟩ := hv
  refine x_calli (wr := [(h0, .inr (7, [.ref e0, .ref t, .ref k, .ref n, .ref j, .ref i0, .int kp, .ref b0, .ref s0, .ref q, .ref g])), (t, .inr (6, [.int ns, .int np, .int fu, .int fd, .int fi, .ref t1, .ref t2, .ref t3, .ref t4, .ref t5, .ref t6])), aI G t1 9 sz_, aI G t2 9 pt, aI G t3 9 fh, aI G t4 8 kd, aI G t5 8 nd, aI G t6 8 fw, (n, .inr (1, [.ref n1, .ref n2, .ref n3, .ref n4, .ref n5, .ref n6, .ref n7, .int lo, .int mi, .int sd])), aI G n1 9 ht, aI G n2 8 wm, aI G n3 8 se, aI G n4 8 cd, aI G n5 8 sl, aI G n6 8 od, aI G n7 72 ow, (b0, .inr (0, [.ref b01, .ref b02, .int en])), aI G b01 30 bs, aI G b02 30 bh]) (w' := fun (u : (Int32) × (Int32) × (Int32) × (Int32) × (Int32) × (Int32) × (Int32) × (Int32) × (Nat → Int32) × (Nat → Int32) × (Nat → Int32) × (Int32) × (Nat → Int32) × (Nat → Int32) × (Nat → Int32) × (Int32) × (Int32) × (Int32)) => [(h0, .inr (7, [.ref e0, .ref t, .ref k, .ref n, .ref j, .ref i0, .int kp, .ref b0, .ref s0, .ref q, .ref g])), (e0, .inr (5, [.ref e01, .int u.1, .int u.2.2.2.2.1, .int u.2.2.2.1, .int u.2.1, .int u.2.2.1, .int u.2.2.2.2.2.1, .int u.2.2.2.2.2.2.1])), aB G e01 400 bt, (t, .inr (6, [.int ns, .int np, .int fu, .int fd, .int fi, .ref t1, .ref t2, .ref t3, .ref t4, .ref t5, .ref t6])), aI G t1 9 sz_, aI G t2 9 pt, aI G t3 9 fh, aI G t4 8 kd, aI G t5 8 nd, aI G t6 8 fw, (k, .inr (6, [.int u.2.2.2.2.2.2.2.1, .int u.2.2.2.2.2.2.2.2.2.2.2.1, .int u.2.2.2.2.2.2.2.2.2.2.2.2.2.2.2.1, .int u.2.2.2.2.2.2.2.2.2.2.2.2.2.2.2.2.1, .int u.2.2.2.2.2.2.2.2.2.2.2.2.2.2.2.2.2, .ref k1, .ref k2, .ref k3, .ref k4, .ref k5, .ref k6])), aI G k1 9 u.2.2.2.2.2.2.2.2.1, aI G k2 9 u.2.2.2.2.2.2.2.2.2.1, aI G k3 9 u.2.2.2.2.2.2.2.2.2.2.1, aI G k4 8 u.2.2.2.2.2.2.2.2.2.2.2.2.1, aI G k5 8 u.2.2.2.2.2.2.2.2.2.2.2.2.2.1, aI G k6 8 u.2.2.2.2.2.2.2.2.2.2.2.2.2.2.1, (n, .inr (1, [.ref n1, .ref n2, .ref n3, .ref n4, .ref n5, .ref n6, .ref n7, .int lo, .int mi, .int sd])), aI G n1 9 ht, aI G n2 8 wm, aI G n3 8 se, aI G n4 8 cd, aI G n5 8 sl, aI G n6 8 od, aI G n7 72 ow, (b0, .inr (0, [.ref b01, .ref b02, .int en])), aI G b01 30 bs, aI G b02 30 bh]) (x_runV (As := [.ref k]) (rest := []) (n := 1) (C := RX5) (ci := 5) ⟨hx, hb, hml, hown, hts⟩ (k_X5_readInto l G e0 e01 k k1 k2 k3 k4 k5 k6 _ bt xl xf xg xa xt xr xn nsk npk fuk fdk fik sz_k ptk fhk kdk ndk fwk hp) gX7_town_X5_readInto rfl (by decide +kernel) ⟨Nat.le_trans (Nat.le_of_ble_eq_true rfl) hRf, Nat.le_trans (Nat.le_of_ble_eq_true rfl) hRl⟩ hKK hSS hS hA hP hD [1, 2, 10, 11, 12, 13, 14, 15, 16] (by decide) rfl rfl rfl 1 rfl rfl hl.1 rfl (Nat.le_of_ble_eq_true rfl) dX7_town_8) hP hD hS hA [1, 2, 10, 11, 12, 13, 14, 15, 16] [0, 3, 4, 5, 6, 7, 8, 9, 17, 18, 19, 20, 21, 22, 23, 24, 25, 26, 27] [0, 19, 20, 1, 2, 3, 4, 5, 6, 7, 21, 22, 23, 24, 25, 26, 27, 8, 9, 10, 11, 12, 13, 14, 15, 16, 17, 18] rfl rfl (by decide) (by decide) (by decide) (fun _ => rfl) (fun r_1 u H locs hw hP hD hS => ?_)
  obtain ⟨xl2_2, xa2_3, xt2_4, xg2_5, xf2_6, xr2_7, xn2_8, ns2_9, sz2_10, pt2_11, fh2_12, np2_13, kd2_14, nd2_15, fw2_16, fu2_17, fd2_18, fi2_19⟩ := u
  have hP : va_P G.1 vwCl [(h0, .inr (7, [.ref e0, .ref t, .ref k, .ref n, .ref j, .ref i0, .int kp, .ref b0, .ref s0, .ref q, .ref g])), (e0, .inr (5, [.ref e01, .int xl2_2, .int xf2_6, .int xg2_5, .int xa2_3, .int xt2_4, .int xr2_7, .int xn2_8])), aB G e01 400 bt, (t, .inr (6, [.int ns, .int np, .int fu, .int fd, .int fi, .ref t1, .ref t2, .ref t3, .ref t4, .ref t5, .ref t6])), aI G t1 9 sz_, aI G t2 9 pt, aI G t3 9 fh, aI G t4 8 kd, aI G t5 8 nd, aI G t6 8 fw, (k, .inr (6, [.int ns2_9, .int np2_13, .int fu2_17, .int fd2_18, .int fi2_19, .ref k1, .ref k2, .ref k3, .ref k4, .ref k5, .ref k6])), aI G k1 9 sz2_10, aI G k2 9 pt2_11, aI G k3 9 fh2_12, aI G k4 8 kd2_14, aI G k5 8 nd2_15, aI G k6 8 fw2_16, (n, .inr (1, [.ref n1, .ref n2, .ref n3, .ref n4, .ref n5, .ref n6, .ref n7, .int lo, .int mi, .int sd])), aI G n1 9 ht, aI G n2 8 wm, aI G n3 8 se, aI G n4 8 cd, aI G n5 8 sl, aI G n6 8 od, aI G n7 72 ow, (b0, .inr (0, [.ref b01, .ref b02, .int en])), aI G b01 30 bs, aI G b02 30 bh] H := hP
  have hD : va_D A [(h0, .inr (7, [.ref e0, .ref t, .ref k, .ref n, .ref j, .ref i0, .int kp, .ref b0, .ref s0, .ref q, .ref g])), (e0, .inr (5, [.ref e01, .int xl2_2, .int xf2_6, .int xg2_5, .int xa2_3, .int xt2_4, .int xr2_7, .int xn2_8])), aB G e01 400 bt, (t, .inr (6, [.int ns, .int np, .int fu, .int fd, .int fi, .ref t1, .ref t2, .ref t3, .ref t4, .ref t5, .ref t6])), aI G t1 9 sz_, aI G t2 9 pt, aI G t3 9 fh, aI G t4 8 kd, aI G t5 8 nd, aI G t6 8 fw, (k, .inr (6, [.int ns2_9, .int np2_13, .int fu2_17, .int fd2_18, .int fi2_19, .ref k1, .ref k2, .ref k3, .ref k4, .ref k5, .ref k6])), aI G k1 9 sz2_10, aI G k2 9 pt2_11, aI G k3 9 fh2_12, aI G k4 8 kd2_14, aI G k5 8 nd2_15, aI G k6 8 fw2_16, (n, .inr (1, [.ref n1, .ref n2, .ref n3, .ref n4, .ref n5, .ref n6, .ref n7, .int lo, .int mi, .int sd])), aI G n1 9 ht, aI G n2 8 wm, aI G n3 8 se, aI G n4 8 cd, aI G n5 8 sl, aI G n6 8 od, aI G n7 72 ow, (b0, .inr (0, [.ref b01, .ref b02, .int en])), aI G b01 30 bs, aI G b02 30 bh] := hD
  have hv := hv r_1 xl2_2 xa2_3 xt2_4 xg2_5 xf2_6 xr2_7 xn2_8 ns2_9 sz2_10 pt2_11 fh2_12 np2_13 kd2_14 nd2_15 fw2_16 fu2_17 fd2_18 fi2_19 hw
  refine lv_istore_n (lv' := [(1, .int r_1), (0, .ref h0)]) hx hb dX7_town_11 rfl hl (by decide) rfl (fun ls hl => ?_)
  refine lv_iload_n hx hb dX7_town_12 rfl (lv_at hl 0 rfl) ?_
  refine lv_if_eq (tgt := 21) hx hb dX7_town_13 (by decide) (fun hc_20 => ?_) (fun hc_20 => ?_)
  · have hv := hv.1 hc_20
    refine lv_aload_n hx hb dX7_town_21 rfl (lv_at hl 1 rfl) ?_
    refine va_get (D := G.1) (ci := 7) (v := .ref t) (C := RX7) (T := TX7) (N := 11) hx hb hts hinX7 hown hKK.1 hP 0 rfl rfl 1 (by decide) kl19 (fun _ h9 => h9) rfl dX7_town_22 ?_
    refine lv_astore_n (lv' := [(2, .ref t), (1, .int r_1), (0, .ref h0)]) hx hb dX7_town_25 rfl hl (by decide) rfl (fun ls hl => ?_)
    refine lv_aload_n hx hb dX7_town_26 rfl (lv_at hl 2 rfl) ?_
    refine lv_aload_n hx hb dX7_town_27 rfl (lv_at hl 2 rfl) ?_
    refine va_get (D := G.1) (ci := 7) (v := .ref k) (C := RX7) (T := TX7) (N := 11) hx hb hts hinX7 hown hKK.1 hP 0 rfl rfl 2 (by decide) kl23 (fun _ h9 => h9) rfl dX7_town_28 ?_
    refine va_put (D := G.1) (ci := 7) (v := .ref k) (ty := .object "WarmStones$Town") (C := RX7) (T := TX7) (N := 11) hx hb hts hinX7 tyX7 tyX7_ok nmX7 hown hKK.1 hP hD hS 0 rfl rfl 1 (by decide) kl19 (fun _ h9 => h9) rfl (by decide +kernel) rfl rfl (Nat.le_of_ble_eq_true rfl) dX7_town_31 (fun H locs hP hD hS => ?_)
    have hP : va_P G.1 vwCl [(h0, .inr (7, [.ref e0, .ref k, .ref k, .ref n, .ref j, .ref i0, .int kp, .ref b0, .ref s0, .ref q, .ref g])), (e0, .inr (5, [.ref e01, .int xl2_2, .int xf2_6, .int xg2_5, .int xa2_3, .int xt2_4, .int xr2_7, .int xn2_8])), aB G e01 400 bt, (t, .inr (6, [.int ns, .int np, .int fu, .int fd, .int fi, .ref t1, .ref t2, .ref t3, .ref t4, .ref t5, .ref t6])), aI G t1 9 sz_, aI G t2 9 pt, aI G t3 9 fh, aI G t4 8 kd, aI G t5 8 nd, aI G t6 8 fw, (k, .inr (6, [.int ns2_9, .int np2_13, .int fu2_17, .int fd2_18, .int fi2_19, .ref k1, .ref k2, .ref k3, .ref k4, .ref k5, .ref k6])), aI G k1 9 sz2_10, aI G k2 9 pt2_11, aI G k3 9 fh2_12, aI G k4 8 kd2_14, aI G k5 8 nd2_15, aI G k6 8 fw2_16, (n, .inr (1, [.ref n1, .ref n2, .ref n3, .ref n4, .ref n5, .ref n6, .ref n7, .int lo, .int mi, .int sd])), aI G n1 9 ht, aI G n2 8 wm, aI G n3 8 se, aI G n4 8 cd, aI G n5 8 sl, aI G n6 8 od, aI G n7 72 ow, (b0, .inr (0, [.ref b01, .ref b02, .int en])), aI G b01 30 bs, aI G b02 30 bh] H := hP
    have hD : va_D A [(h0, .inr (7, [.ref e0, .ref k, .ref k, .ref n, .ref j, .ref i0, .int kp, .ref b0, .ref s0, .ref q, .ref g])), (e0, .inr (5, [.ref e01, .int xl2_2, .int xf2_6, .int xg2_5, .int xa2_3, .int xt2_4, .int xr2_7, .int xn2_8])), aB G e01 400 bt, (t, .inr (6, [.int ns, .int np, .int fu, .int fd, .int fi, .ref t1, .ref t2, .ref t3, .ref t4, .ref t5, .ref t6])), aI G t1 9 sz_, aI G t2 9 pt, aI G t3 9 fh, aI G t4 8 kd, aI G t5 8 nd, aI G t6 8 fw, (k, .inr (6, [.int ns2_9, .int np2_13, .int fu2_17, .int fd2_18, .int fi2_19, .ref k1, .ref k2, .ref k3, .ref k4, .ref k5, .ref k6])), aI G k1 9 sz2_10, aI G k2 9 pt2_11, aI G k3 9 fh2_12, aI G k4 8 kd2_14, aI G k5 8 nd2_15, aI G k6 8 fw2_16, (n, .inr (1, [.ref n1, .ref n2, .ref n3, .ref n4, .ref n5, .ref n6, .ref n7, .int lo, .int mi, .int sd])), aI G n1 9 ht, aI G n2 8 wm, aI G n3 8 se, aI G n4 8 cd, aI G n5 8 sl, aI G n6 8 od, aI G n7 72 ow, (b0, .inr (0, [.ref b01, .ref b02, .int en])), aI G b01 30 bs, aI G b02 30 bh] := hD
    refine lv_aload_n hx hb dX7_town_34 rfl (lv_at hl 2 rfl) ?_
    refine lv_aload_n hx hb dX7_town_35 rfl (lv_at hl 0 rfl) ?_
    refine va_put (D := G.1) (ci := 7) (v := .ref t) (ty := .object "WarmStones$Town") (C := RX7) (T := TX7) (N := 11) hx hb hts hinX7 tyX7 tyX7_ok nmX7 hown hKK.1 hP hD hS 0 rfl rfl 2 (by decide) kl23 (fun _ h9 => h9) rfl (by decide +kernel) rfl rfl (Nat.le_of_ble_eq_true rfl) dX7_town_36 (fun H locs hP hD hS => ?_)
    have hP : va_P G.1 vwCl [(h0, .inr (7, [.ref e0, .ref k, .ref t, .ref n, .ref j, .ref i0, .int kp, .ref b0, .ref s0, .ref q, .ref g])), (e0, .inr (5, [.ref e01, .int xl2_2, .int xf2_6, .int xg2_5, .int xa2_3, .int xt2_4, .int xr2_7, .int xn2_8])), aB G e01 400 bt, (t, .inr (6, [.int ns, .int np, .int fu, .int fd, .int fi, .ref t1, .ref t2, .ref t3, .ref t4, .ref t5, .ref t6])), aI G t1 9 sz_, aI G t2 9 pt, aI G t3 9 fh, aI G t4 8 kd, aI G t5 8 nd, aI G t6 8 fw, (k, .inr (6, [.int ns2_9, .int np2_13, .int fu2_17, .int fd2_18, .int fi2_19, .ref k1, .ref k2, .ref k3, .ref k4, .ref k5, .ref k6])), aI G k1 9 sz2_10, aI G k2 9 pt2_11, aI G k3 9 fh2_12, aI G k4 8 kd2_14, aI G k5 8 nd2_15, aI G k6 8 fw2_16, (n, .inr (1, [.ref n1, .ref n2, .ref n3, .ref n4, .ref n5, .ref n6, .ref n7, .int lo, .int mi, .int sd])), aI G n1 9 ht, aI G n2 8 wm, aI G n3 8 se, aI G n4 8 cd, aI G n5 8 sl, aI G n6 8 od, aI G n7 72 ow, (b0, .inr (0, [.ref b01, .ref b02, .int en])), aI G b01 30 bs, aI G b02 30 bh] H := hP
    have hD : va_D A [(h0, .inr (7, [.ref e0, .ref k, .ref t, .ref n, .ref j, .ref i0, .int kp, .ref b0, .ref s0, .ref q, .ref g])), (e0, .inr (5, [.ref e01, .int xl2_2, .int xf2_6, .int xg2_5, .int xa2_3, .int xt2_4, .int xr2_7, .int xn2_8])), aB G e01 400 bt, (t, .inr (6, [.int ns, .int np, .int fu, .int fd, .int fi, .ref t1, .ref t2, .ref t3, .ref t4, .ref t5, .ref t6])), aI G t1 9 sz_, aI G t2 9 pt, aI G t3 9 fh, aI G t4 8 kd, aI G t5 8 nd, aI G t6 8 fw, (k, .inr (6, [.int ns2_9, .int np2_13, .int fu2_17, .int fd2_18, .int fi2_19, .ref k1, .ref k2, .ref k3, .ref k4, .ref k5, .ref k6])), aI G k1 9 sz2_10, aI G k2 9 pt2_11, aI G k3 9 fh2_12, aI G k4 8 kd2_14, aI G k5 8 nd2_15, aI G k6 8 fw2_16, (n, .inr (1, [.ref n1, .ref n2, .ref n3, .ref n4, .ref n5, .ref n6, .ref n7, .int lo, .int mi, .int sd])), aI G n1 9 ht, aI G n2 8 wm, aI G n3 8 se, aI G n4 8 cd, aI G n5 8 sl, aI G n6 8 od, aI G n7 72 ow, (b0, .inr (0, [.ref b01, .ref b02, .int en])), aI G b01 30 bs, aI G b02 30 bh] := hD
    refine lv_aload_n hx hb dX7_town_39 rfl (lv_at hl 2 rfl) ?_
    refine va_get (D := G.1) (ci := 7) (v := .ref n) (C := RX7) (T := TX7) (N := 11) hx hb hts hinX7 hown hKK.1 hP 0 rfl rfl 3 (by decide) kl29 (fun _ h9 => h9) rfl dX7_town_40 ?_
    refine lv_aload_n hx hb dX7_town_43 rfl (lv_at hl 2 rfl) ?_
    refine va_get (D := G.1) (ci := 7) (v := .ref k) (C := RX7) (T := TX7) (N := 11) hx hb hts hinX7 hown hKK.1 hP 0 rfl rfl 1 (by decide) kl19 (fun _ h9 => h9) rfl dX7_town_44 ?_
    obtain ⟨hp, hv⟩ := hv
    refine x_callv (wr := [(h0, .inr (7, [.ref e0, .ref k, .ref t, .ref n, .ref j, .ref i0, .int kp, .ref b0, .ref s0, .ref q, .ref g])), (e0, .inr (5, [.ref e01, .int xl2_2, .int xf2_6, .int xg2_5, .int xa2_3, .int xt2_4, .int xr2_7, .int xn2_8])), aB G e01 400 bt, (t, .inr (6, [.int ns, .int np, .int fu, .int fd, .int fi, .ref t1, .ref t2, .ref t3, .ref t4, .ref t5, .ref t6])), aI G t1 9 sz_, aI G t2 9 pt, aI G t3 9 fh, aI G t4 8 kd, aI G t5 8 nd, aI G t6 8 fw, (b0, .inr (0, [.ref b01, .ref b02, .int en])), aI G b01 30 bs, aI G b02 30 bh]) (w' := fun (u : (Nat → Int32) × (Nat → Int32) × (Nat → Int32) × (Nat → Int32) × (Nat → Int32) × (Nat → Int32) × (Nat → Int32) × (Int32) × (Int32)) => [(h0, .inr (7, [.ref e0, .ref k, .ref t, .ref n, .ref j, .ref i0, .int kp, .ref b0, .ref s0, .ref q, .ref g])), (e0, .inr (5, [.ref e01, .int xl2_2, .int xf2_6, .int xg2_5, .int xa2_3, .int xt2_4, .int xr2_7, .int xn2_8])), aB G e01 400 bt, (t, .inr (6, [.int ns, .int np, .int fu, .int fd, .int fi, .ref t1, .ref t2, .ref t3, .ref t4, .ref t5, .ref t6])), aI G t1 9 sz_, aI G t2 9 pt, aI G t3 9 fh, aI G t4 8 kd, aI G t5 8 nd, aI G t6 8 fw, (k, .inr (6, [.int ns2_9, .int np2_13, .int fu2_17, .int fd2_18, .int fi2_19, .ref k1, .ref k2, .ref k3, .ref k4, .ref k5, .ref k6])), aI G k1 9 sz2_10, aI G k2 9 pt2_11, aI G k3 9 fh2_12, aI G k4 8 kd2_14, aI G k5 8 nd2_15, aI G k6 8 fw2_16, (n, .inr (1, [.ref n1, .ref n2, .ref n3, .ref n4, .ref n5, .ref n6, .ref n7, .int u.2.2.2.2.2.2.2.1, .int u.2.2.2.2.2.2.2.2, .int sd])), aI G n1 9 u.1, aI G n2 8 u.2.1, aI G n3 8 u.2.2.1, aI G n4 8 u.2.2.2.1, aI G n5 8 u.2.2.2.2.1, aI G n6 8 u.2.2.2.2.2.1, aI G n7 72 u.2.2.2.2.2.2.1, (b0, .inr (0, [.ref b01, .ref b02, .int en])), aI G b01 30 bs, aI G b02 30 bh]) (x_runV (As := [.ref k]) (rest := []) (n := 1) (C := RX1) (ci := 1) ⟨hx, hb, hml, hown, hts⟩ (k_X1_begin l G n n1 n2 n3 n4 n5 n6 n7 k k1 k2 k3 k4 k5 k6 _ ht wm se cd sl od ow lo mi sd ns2_9 np2_13 fu2_17 fd2_18 fi2_19 sz2_10 pt2_11 fh2_12 kd2_14 nd2_15 fw2_16 hp) gX7_town_X1_begin rfl (by decide +kernel) ⟨Nat.le_trans (Nat.le_of_ble_eq_true rfl) hRf, Nat.le_trans (Nat.le_of_ble_eq_true rfl) hRl⟩ hKK hSS hS hA hP hD [17, 18, 19, 20, 21, 22, 23, 24, 10, 11, 12, 13, 14, 15, 16] (by decide) rfl rfl rfl 17 rfl rfl hl.1 rfl (Nat.le_of_ble_eq_true rfl) dX7_town_47) hP hD hS hA [17, 18, 19, 20, 21, 22, 23, 24, 10, 11, 12, 13, 14, 15, 16] [0, 1, 2, 3, 4, 5, 6, 7, 8, 9, 25, 26, 27] [0, 1, 2, 3, 4, 5, 6, 7, 8, 9, 21, 22, 23, 24, 25, 26, 27, 13, 14, 15, 16, 17, 18, 19, 20, 10, 11, 12] rfl rfl (by decide) (by decide) (by decide) (fun _ => rfl) (fun  u H locs hw hP hD hS => ?_)
    obtain ⟨ht2_22, wm2_23, se2_24, cd2_25, sl2_26, od2_27, ow2_28, lo2_29, mi2_30⟩ := u
    have hP : va_P G.1 vwCl [(h0, .inr (7, [.ref e0, .ref k, .ref t, .ref n, .ref j, .ref i0, .int kp, .ref b0, .ref s0, .ref q, .ref g])), (e0, .inr (5, [.ref e01, .int xl2_2, .int xf2_6, .int xg2_5, .int xa2_3, .int xt2_4, .int xr2_7, .int xn2_8])), aB G e01 400 bt, (t, .inr (6, [.int ns, .int np, .int fu, .int fd, .int fi, .ref t1, .ref t2, .ref t3, .ref t4, .ref t5, .ref t6])), aI G t1 9 sz_, aI G t2 9 pt, aI G t3 9 fh, aI G t4 8 kd, aI G t5 8 nd, aI G t6 8 fw, (k, .inr (6, [.int ns2_9, .int np2_13, .int fu2_17, .int fd2_18, .int fi2_19, .ref k1, .ref k2, .ref k3, .ref k4, .ref k5, .ref k6])), aI G k1 9 sz2_10, aI G k2 9 pt2_11, aI G k3 9 fh2_12, aI G k4 8 kd2_14, aI G k5 8 nd2_15, aI G k6 8 fw2_16, (n, .inr (1, [.ref n1, .ref n2, .ref n3, .ref n4, .ref n5, .ref n6, .ref n7, .int lo2_29, .int mi2_30, .int sd])), aI G n1 9 ht2_22, aI G n2 8 wm2_23, aI G n3 8 se2_24, aI G n4 8 cd2_25, aI G n5 8 sl2_26, aI G n6 8 od2_27, aI G n7 72 ow2_28, (b0, .inr (0, [.ref b01, .ref b02, .int en])), aI G b01 30 bs, aI G b02 30 bh] H := hP
    have hD : va_D A [(h0, .inr (7, [.ref e0, .ref k, .ref t, .ref n, .ref j, .ref i0, .int kp, .ref b0, .ref s0, .ref q, .ref g])), (e0, .inr (5, [.ref e01, .int xl2_2, .int xf2_6, .int xg2_5, .int xa2_3, .int xt2_4, .int xr2_7, .int xn2_8])), aB G e01 400 bt, (t, .inr (6, [.int ns, .int np, .int fu, .int fd, .int fi, .ref t1, .ref t2, .ref t3, .ref t4, .ref t5, .ref t6])), aI G t1 9 sz_, aI G t2 9 pt, aI G t3 9 fh, aI G t4 8 kd, aI G t5 8 nd, aI G t6 8 fw, (k, .inr (6, [.int ns2_9, .int np2_13, .int fu2_17, .int fd2_18, .int fi2_19, .ref k1, .ref k2, .ref k3, .ref k4, .ref k5, .ref k6])), aI G k1 9 sz2_10, aI G k2 9 pt2_11, aI G k3 9 fh2_12, aI G k4 8 kd2_14, aI G k5 8 nd2_15, aI G k6 8 fw2_16, (n, .inr (1, [.ref n1, .ref n2, .ref n3, .ref n4, .ref n5, .ref n6, .ref n7, .int lo2_29, .int mi2_30, .int sd])), aI G n1 9 ht2_22, aI G n2 8 wm2_23, aI G n3 8 se2_24, aI G n4 8 cd2_25, aI G n5 8 sl2_26, aI G n6 8 od2_27, aI G n7 72 ow2_28, (b0, .inr (0, [.ref b01, .ref b02, .int en])), aI G b01 30 bs, aI G b02 30 bh] := hD
    have hv := hv ht2_22 wm2_23 se2_24 cd2_25 sl2_26 od2_27 ow2_28 lo2_29 mi2_30 hw
    refine lv_aload_n hx hb dX7_town_50 rfl (lv_at hl 2 rfl) ?_
    refine va_get (D := G.1) (ci := 7) (v := .ref b0) (C := RX7) (T := TX7) (N := 11) hx hb hts hinX7 hown hKK.1 hP 0 rfl rfl 7 (by decide) kl43 (fun _ h9 => h9) rfl dX7_town_51 ?_
    refine lv_iconst (v := 0) hx hb dX7_town_54 (by decide) ?_
    refine va_put (D := G.1) (ci := 0) (v := .int 0) (ty := .int) (C := RX0) (T := TX0) (N := 3) hx hb hts hinX0 tyX0 tyX0_ok nmX0 hown hKK.1 hP hD hS 25 rfl rfl 2 (by decide) kl94 (fun _ h9 => h9) rfl (by decide +kernel) rfl rfl (Nat.le_of_ble_eq_true rfl) dX7_town_55 (fun H locs hP hD hS => ?_)
    have hP : va_P G.1 vwCl [(h0, .inr (7, [.ref e0, .ref k, .ref t, .ref n, .ref j, .ref i0, .int kp, .ref b0, .ref s0, .ref q, .ref g])), (e0, .inr (5, [.ref e01, .int xl2_2, .int xf2_6, .int xg2_5, .int xa2_3, .int xt2_4, .int xr2_7, .int xn2_8])), aB G e01 400 bt, (t, .inr (6, [.int ns, .int np, .int fu, .int fd, .int fi, .ref t1, .ref t2, .ref t3, .ref t4, .ref t5, .ref t6])), aI G t1 9 sz_, aI G t2 9 pt, aI G t3 9 fh, aI G t4 8 kd, aI G t5 8 nd, aI G t6 8 fw, (k, .inr (6, [.int ns2_9, .int np2_13, .int fu2_17, .int fd2_18, .int fi2_19, .ref k1, .ref k2, .ref k3, .ref k4, .ref k5, .ref k6])), aI G k1 9 sz2_10, aI G k2 9 pt2_11, aI G k3 9 fh2_12, aI G k4 8 kd2_14, aI G k5 8 nd2_15, aI G k6 8 fw2_16, (n, .inr (1, [.ref n1, .ref n2, .ref n3, .ref n4, .ref n5, .ref n6, .ref n7, .int lo2_29, .int mi2_30, .int sd])), aI G n1 9 ht2_22, aI G n2 8 wm2_23, aI G n3 8 se2_24, aI G n4 8 cd2_25, aI G n5 8 sl2_26, aI G n6 8 od2_27, aI G n7 72 ow2_28, (b0, .inr (0, [.ref b01, .ref b02, .int 0])), aI G b01 30 bs, aI G b02 30 bh] H := hP
    have hD : va_D A [(h0, .inr (7, [.ref e0, .ref k, .ref t, .ref n, .ref j, .ref i0, .int kp, .ref b0, .ref s0, .ref q, .ref g])), (e0, .inr (5, [.ref e01, .int xl2_2, .int xf2_6, .int xg2_5, .int xa2_3, .int xt2_4, .int xr2_7, .int xn2_8])), aB G e01 400 bt, (t, .inr (6, [.int ns, .int np, .int fu, .int fd, .int fi, .ref t1, .ref t2, .ref t3, .ref t4, .ref t5, .ref t6])), aI G t1 9 sz_, aI G t2 9 pt, aI G t3 9 fh, aI G t4 8 kd, aI G t5 8 nd, aI G t6 8 fw, (k, .inr (6, [.int ns2_9, .int np2_13, .int fu2_17, .int fd2_18, .int fi2_19, .ref k1, .ref k2, .ref k3, .ref k4, .ref k5, .ref k6])), aI G k1 9 sz2_10, aI G k2 9 pt2_11, aI G k3 9 fh2_12, aI G k4 8 kd2_14, aI G k5 8 nd2_15, aI G k6 8 fw2_16, (n, .inr (1, [.ref n1, .ref n2, .ref n3, .ref n4, .ref n5, .ref n6, .ref n7, .int lo2_29, .int mi2_30, .int sd])), aI G n1 9 ht2_22, aI G n2 8 wm2_23, aI G n3 8 se2_24, aI G n4 8 cd2_25, aI G n5 8 sl2_26, aI G n6 8 od2_27, aI G n7 72 ow2_28, (b0, .inr (0, [.ref b01, .ref b02, .int 0])), aI G b01 30 bs, aI G b02 30 bh] := hD
    refine lv_aload_n hx hb dX7_town_58 rfl (lv_at hl 2 rfl) ?_
    refine lv_iconst (v := 0) hx hb dX7_town_59 (by decide) ?_
    refine va_put (D := G.1) (ci := 7) (v := .int 0) (ty := .int) (C := RX7) (T := TX7) (N := 11) hx hb hts hinX7 tyX7 tyX7_ok nmX7 hown hKK.1 hP hD hS 0 rfl rfl 6 (by decide) kl97 (fun _ h9 => h9) rfl (by decide +kernel) rfl rfl (Nat.le_of_ble_eq_true rfl) dX7_town_60 (fun H locs hP hD hS => ?_)
    have hP : va_P G.1 vwCl [(h0, .inr (7, [.ref e0, .ref k, .ref t, .ref n, .ref j, .ref i0, .int 0, .ref b0, .ref s0, .ref q, .ref g])), (e0, .inr (5, [.ref e01, .int xl2_2, .int xf2_6, .int xg2_5, .int xa2_3, .int xt2_4, .int xr2_7, .int xn2_8])), aB G e01 400 bt, (t, .inr (6, [.int ns, .int np, .int fu, .int fd, .int fi, .ref t1, .ref t2, .ref t3, .ref t4, .ref t5, .ref t6])), aI G t1 9 sz_, aI G t2 9 pt, aI G t3 9 fh, aI G t4 8 kd, aI G t5 8 nd, aI G t6 8 fw, (k, .inr (6, [.int ns2_9, .int np2_13, .int fu2_17, .int fd2_18, .int fi2_19, .ref k1, .ref k2, .ref k3, .ref k4, .ref k5, .ref k6])), aI G k1 9 sz2_10, aI G k2 9 pt2_11, aI G k3 9 fh2_12, aI G k4 8 kd2_14, aI G k5 8 nd2_15, aI G k6 8 fw2_16, (n, .inr (1, [.ref n1, .ref n2, .ref n3, .ref n4, .ref n5, .ref n6, .ref n7, .int lo2_29, .int mi2_30, .int sd])), aI G n1 9 ht2_22, aI G n2 8 wm2_23, aI G n3 8 se2_24, aI G n4 8 cd2_25, aI G n5 8 sl2_26, aI G n6 8 od2_27, aI G n7 72 ow2_28, (b0, .inr (0, [.ref b01, .ref b02, .int 0])), aI G b01 30 bs, aI G b02 30 bh] H := hP
    have hD : va_D A [(h0, .inr (7, [.ref e0, .ref k, .ref t, .ref n, .ref j, .ref i0, .int 0, .ref b0, .ref s0, .ref q, .ref g])), (e0, .inr (5, [.ref e01, .int xl2_2, .int xf2_6, .int xg2_5, .int xa2_3, .int xt2_4, .int xr2_7, .int xn2_8])), aB G e01 400 bt, (t, .inr (6, [.int ns, .int np, .int fu, .int fd, .int fi, .ref t1, .ref t2, .ref t3, .ref t4, .ref t5, .ref t6])), aI G t1 9 sz_, aI G t2 9 pt, aI G t3 9 fh, aI G t4 8 kd, aI G t5 8 nd, aI G t6 8 fw, (k, .inr (6, [.int ns2_9, .int np2_13, .int fu2_17, .int fd2_18, .int fi2_19, .ref k1, .ref k2, .ref k3, .ref k4, .ref k5, .ref k6])), aI G k1 9 sz2_10, aI G k2 9 pt2_11, aI G k3 9 fh2_12, aI G k4 8 kd2_14, aI G k5 8 nd2_15, aI G k6 8 fw2_16, (n, .inr (1, [.ref n1, .ref n2, .ref n3, .ref n4, .ref n5, .ref n6, .ref n7, .int lo2_29, .int mi2_30, .int sd])), aI G n1 9 ht2_22, aI G n2 8 wm2_23, aI G n3 8 se2_24, aI G n4 8 cd2_25, aI G n5 8 sl2_26, aI G n6 8 od2_27, aI G n7 72 ow2_28, (b0, .inr (0, [.ref b01, .ref b02, .int 0])), aI G b01 30 bs, aI G b02 30 bh] := hD
    refine lv_aload_n hx hb dX7_town_63 rfl (lv_at hl 2 rfl) ?_
    refine va_get (D := G.1) (ci := 7) (v := .ref k) (C := RX7) (T := TX7) (N := 11) hx hb hts hinX7 hown hKK.1 hP 0 rfl rfl 1 (by decide) kl19 (fun _ h9 => h9) rfl dX7_town_64 ?_
    refine va_get (D := G.1) (ci := 6) (v := .int ns2_9) (C := RX6) (T := TX6) (N := 11) hx hb hts hinX6 hown hKK.1 hP 10 rfl rfl 0 (by decide) kl100 (fun _ h9 => h9) rfl dX7_town_67 ?_
    exact x_iret (v := ns2_9) (xl2_2, xa2_3, xt2_4, xg2_5, xf2_6, xr2_7, xn2_8, ns2_9, sz2_10, pt2_11, fh2_12, np2_13, kd2_14, nd2_15, fw2_16, fu2_17, fd2_18, fi2_19, k, t, 0, ht2_22, wm2_23, se2_24, cd2_25, sl2_26, od2_27, ow2_28, lo2_29, mi2_30, 0) hQ hx hb hr hlocks hS dX7_town_70 hv hP hD
  · have hv := hv.2 hc_20
    refine lv_bipush (v := (-10)) hx hb dX7_town_16 (by decide) ?_
    refine lv_iload_n hx hb dX7_town_18 rfl (lv_at hl 0 rfl) ?_
    refine lv_isub hx hb dX7_town_19 ?_
    exact x_iret (v := ((-10) - r_1)) (xl2_2, xa2_3, xt2_4, xg2_5, xf2_6, xr2_7, xn2_8, ns2_9, sz2_10, pt2_11, fh2_12, np2_13, kd2_14, nd2_15, fw2_16, fu2_17, fd2_18, fi2_19, t, k, kp, ht, wm, se, cd, sl, od, ow, lo, mi, en) hQ hx hb hr hlocks hS dX7_town_20 hv hP hD
theorem k_X7_town (l : Launch) (G : Gt) (h0 e0 e01 t t1 t2 t3 t4 t5 t6 k k1 k2 k3 k4 k5 k6 n n1 n2 n3 n4 n5 n6 n7 b0 b01 b02 : Nat) (sz : Nat) (j : Nat) (i0 : Nat) (s0 : Nat) (q : Nat) (g : Nat) (kp : Int32) (bt : Nat → Int32) (xl : Int32) (xf : Int32) (xg : Int32) (xa : Int32) (xt : Int32) (xr : Int32) (xn : Int32) (ns : Int32) (np : Int32) (fu : Int32) (fd : Int32) (fi : Int32) (sz_ : Nat → Int32) (pt : Nat → Int32) (fh : Nat → Int32) (kd : Nat → Int32) (nd : Nat → Int32) (fw : Nat → Int32) (nsk : Int32) (npk : Int32) (fuk : Int32) (fdk : Int32) (fik : Int32) (sz_k : Nat → Int32) (ptk : Nat → Int32) (fhk : Nat → Int32) (kdk : Nat → Int32) (ndk : Nat → Int32) (fwk : Nat → Int32) (ht : Nat → Int32) (wm : Nat → Int32) (se : Nat → Int32) (cd : Nat → Int32) (sl : Nat → Int32) (od : Nat → Int32) (ow : Nat → Int32) (lo : Int32) (mi : Int32) (sd : Int32) (en : Int32) (bs : Nat → Int32) (bh : Nat → Int32) (hp : True) : MetI l yX7_town wsX7_town 9 194 G [.ref h0] [(h0, .inr (7, [.ref e0, .ref t, .ref k, .ref n, .ref j, .ref i0, .int kp, .ref b0, .ref s0, .ref q, .ref g])), (e0, .inr (5, [.ref e01, .int xl, .int xf, .int xg, .int xa, .int xt, .int xr, .int xn])), aB G e01 400 bt, (t, .inr (6, [.int ns, .int np, .int fu, .int fd, .int fi, .ref t1, .ref t2, .ref t3, .ref t4, .ref t5, .ref t6])), aI G t1 9 sz_, aI G t2 9 pt, aI G t3 9 fh, aI G t4 8 kd, aI G t5 8 nd, aI G t6 8 fw, (k, .inr (6, [.int nsk, .int npk, .int fuk, .int fdk, .int fik, .ref k1, .ref k2, .ref k3, .ref k4, .ref k5, .ref k6])), aI G k1 9 sz_k, aI G k2 9 ptk, aI G k3 9 fhk, aI G k4 8 kdk, aI G k5 8 ndk, aI G k6 8 fwk, (n, .inr (1, [.ref n1, .ref n2, .ref n3, .ref n4, .ref n5, .ref n6, .ref n7, .int lo, .int mi, .int sd])), aI G n1 9 ht, aI G n2 8 wm, aI G n3 8 se, aI G n4 8 cd, aI G n5 8 sl, aI G n6 8 od, aI G n7 72 ow, (b0, .inr (0, [.ref b01, .ref b02, .int en])), aI G b01 30 bs, aI G b02 30 bh] sz (fun (r : Int32) (u : (Int32) × (Int32) × (Int32) × (Int32) × (Int32) × (Int32) × (Int32) × (Int32) × (Nat → Int32) × (Nat → Int32) × (Nat → Int32) × (Int32) × (Nat → Int32) × (Nat → Int32) × (Nat → Int32) × (Int32) × (Int32) × (Int32) × (Nat) × (Nat) × (Int32) × (Nat → Int32) × (Nat → Int32) × (Nat → Int32) × (Nat → Int32) × (Nat → Int32) × (Nat → Int32) × (Nat → Int32) × (Int32) × (Int32) × (Int32)) => True) (fun (u : (Int32) × (Int32) × (Int32) × (Int32) × (Int32) × (Int32) × (Int32) × (Int32) × (Nat → Int32) × (Nat → Int32) × (Nat → Int32) × (Int32) × (Nat → Int32) × (Nat → Int32) × (Nat → Int32) × (Int32) × (Int32) × (Int32) × (Nat) × (Nat) × (Int32) × (Nat → Int32) × (Nat → Int32) × (Nat → Int32) × (Nat → Int32) × (Nat → Int32) × (Nat → Int32) × (Nat → Int32) × (Int32) × (Int32) × (Int32)) => [(h0, .inr (7, [.ref e0, .ref u.2.2.2.2.2.2.2.2.2.2.2.2.2.2.2.2.2.2.1, .ref u.2.2.2.2.2.2.2.2.2.2.2.2.2.2.2.2.2.2.2.1, .ref n, .ref j, .ref i0, .int u.2.2.2.2.2.2.2.2.2.2.2.2.2.2.2.2.2.2.2.2.1, .ref b0, .ref s0, .ref q, .ref g])), (e0, .inr (5, [.ref e01, .int u.1, .int u.2.2.2.2.1, .int u.2.2.2.1, .int u.2.1, .int u.2.2.1, .int u.2.2.2.2.2.1, .int u.2.2.2.2.2.2.1])), aB G e01 400 bt, (t, .inr (6, [.int ns, .int np, .int fu, .int fd, .int fi, .ref t1, .ref t2, .ref t3, .ref t4, .ref t5, .ref t6])), aI G t1 9 sz_, aI G t2 9 pt, aI G t3 9 fh, aI G t4 8 kd, aI G t5 8 nd, aI G t6 8 fw, (k, .inr (6, [.int u.2.2.2.2.2.2.2.1, .int u.2.2.2.2.2.2.2.2.2.2.2.1, .int u.2.2.2.2.2.2.2.2.2.2.2.2.2.2.2.1, .int u.2.2.2.2.2.2.2.2.2.2.2.2.2.2.2.2.1, .int u.2.2.2.2.2.2.2.2.2.2.2.2.2.2.2.2.2.1, .ref k1, .ref k2, .ref k3, .ref k4, .ref k5, .ref k6])), aI G k1 9 u.2.2.2.2.2.2.2.2.1, aI G k2 9 u.2.2.2.2.2.2.2.2.2.1, aI G k3 9 u.2.2.2.2.2.2.2.2.2.2.1, aI G k4 8 u.2.2.2.2.2.2.2.2.2.2.2.2.1, aI G k5 8 u.2.2.2.2.2.2.2.2.2.2.2.2.2.1, aI G k6 8 u.2.2.2.2.2.2.2.2.2.2.2.2.2.2.1, (n, .inr (1, [.ref n1, .ref n2, .ref n3, .ref n4, .ref n5, .ref n6, .ref n7, .int u.2.2.2.2.2.2.2.2.2.2.2.2.2.2.2.2.2.2.2.2.2.2.2.2.2.2.2.2.1, .int u.2.2.2.2.2.2.2.2.2.2.2.2.2.2.2.2.2.2.2.2.2.2.2.2.2.2.2.2.2.1, .int sd])), aI G n1 9 u.2.2.2.2.2.2.2.2.2.2.2.2.2.2.2.2.2.2.2.2.2.1, aI G n2 8 u.2.2.2.2.2.2.2.2.2.2.2.2.2.2.2.2.2.2.2.2.2.2.1, aI G n3 8 u.2.2.2.2.2.2.2.2.2.2.2.2.2.2.2.2.2.2.2.2.2.2.2.1, aI G n4 8 u.2.2.2.2.2.2.2.2.2.2.2.2.2.2.2.2.2.2.2.2.2.2.2.2.1, aI G n5 8 u.2.2.2.2.2.2.2.2.2.2.2.2.2.2.2.2.2.2.2.2.2.2.2.2.2.1, aI G n6 8 u.2.2.2.2.2.2.2.2.2.2.2.2.2.2.2.2.2.2.2.2.2.2.2.2.2.2.1, aI G n7 72 u.2.2.2.2.2.2.2.2.2.2.2.2.2.2.2.2.2.2.2.2.2.2.2.2.2.2.2.1, (b0, .inr (0, [.ref b01, .ref b02, .int u.2.2.2.2.2.2.2.2.2.2.2.2.2.2.2.2.2.2.2.2.2.2.2.2.2.2.2.2.2.2])), aI G b01 30 bs, aI G b02 30 bh]) :=
  c_X7_town l G h0 e0 e01 t t1 t2 t3 t4 t5 t6 k k1 k2 k3 k4 k5 k6 n n1 n2 n3 n4 n5 n6 n7 b0 b01 b02 sz j i0 s0 q g kp bt xl xf xg xa xt xr xn ns np fu fd fi sz_ pt fh kd nd fw nsk npk fuk fdk fik sz_k ptk fhk kdk ndk fwk ht wm se cd sl od ow lo mi sd en bs bh (by
    sorry)

set_option maxHeartbeats 4000000 in
set_option maxRecDepth 100000 in
theorem c_X7_fault (l : Launch) (G : Gt) (h0 e0 e01 : Nat) (sz : Nat) (t : Nat) (k : Nat) (n : Nat) (j : Nat) (i0 : Nat) (b0 : Nat) (s0 : Nat) (q : Nat) (g : Nat) (kp : Int32) (bt : Nat → Int32) (xl : Int32) (xf : Int32) (xg : Int32) (xa : Int32) (xt : Int32) (xr : Int32) (xn : Int32) (hv : (xf : Int32) = xf) : MetI l yX7_fault wsX7_fault 0 0 G [.ref h0] [(h0, .inr (7, [.ref e0, .ref t, .ref k, .ref n, .ref j, .ref i0, .int kp, .ref b0, .ref s0, .ref q, .ref g])), (e0, .inr (5, [.ref e01, .int xl, .int xf, .int xg, .int xa, .int xt, .int xr, .int xn])), aB G e01 400 bt] sz (fun (r : Int32) (_ : Unit) => (r : Int32) = xf) (fun (_ : Unit) => [(h0, .inr (7, [.ref e0, .ref t, .ref k, .ref n, .ref j, .ref i0, .int kp, .ref b0, .ref s0, .ref q, .ref g])), (e0, .inr (5, [.ref e01, .int xl, .int xf, .int xg, .int xa, .int xt, .int xr, .int xn])), aB G e01 400 bt]) := by
  refine x_startI (cc := cX7_fault) (maxL := 1) (ret := (some .int)) (by decide) rfl (Nat.le_of_ble_eq_true rfl) ?_
  intro p e s m args below meth c A R Q ls hRf hRl hQ C hP hD hS hA hSS hl
  obtain ⟨hx, hb, hr, hml, hown, hts, hlocks, hKK⟩ := C
  have hown : s.vm.findClass RX7 = some m.cls := hown
  have hl : lv_has ls 1 [(0, .ref h0)] := hl
  have hinX5 : ∀ w ∈ u_ws RX5 TX5 8, w ∈ wsX7_fault := by decide +kernel
  have hinX7 : ∀ w ∈ u_ws RX7 TX7 11, w ∈ wsX7_fault := by decide +kernel
  have kl10 := hts (.fieldLink RX7 10 "WarmStones" "text" "LWarmStones$Text;") (by decide +kernel)
  have kl103 := hts (.fieldLink RX7 103 "WarmStones$Text" "faultByte" "I") (by decide +kernel)
  refine lv_aload_n hx hb dX7_fault_0 rfl (lv_at hl 0 rfl) ?_
  refine va_get (D := G.1) (ci := 7) (v := .ref e0) (C := RX7) (T := TX7) (N := 11) hx hb hts hinX7 hown hKK.1 hP 0 rfl rfl 0 (by decide) kl10 (fun _ h9 => h9) rfl dX7_fault_1 ?_
  refine va_get (D := G.1) (ci := 5) (v := .int xf) (C := RX5) (T := TX5) (N := 8) hx hb hts hinX5 hown hKK.1 hP 1 rfl rfl 2 (by decide) kl103 (fun _ h9 => h9) rfl dX7_fault_4 ?_
  exact x_iret (v := xf) () hQ hx hb hr hlocks hS dX7_fault_7 hv hP hD
theorem k_X7_fault (l : Launch) (G : Gt) (h0 e0 e01 : Nat) (sz : Nat) (t : Nat) (k : Nat) (n : Nat) (j : Nat) (i0 : Nat) (b0 : Nat) (s0 : Nat) (q : Nat) (g : Nat) (kp : Int32) (bt : Nat → Int32) (xl : Int32) (xf : Int32) (xg : Int32) (xa : Int32) (xt : Int32) (xr : Int32) (xn : Int32) : MetI l yX7_fault wsX7_fault 0 0 G [.ref h0] [(h0, .inr (7, [.ref e0, .ref t, .ref k, .ref n, .ref j, .ref i0, .int kp, .ref b0, .ref s0, .ref q, .ref g])), (e0, .inr (5, [.ref e01, .int xl, .int xf, .int xg, .int xa, .int xt, .int xr, .int xn])), aB G e01 400 bt] sz (fun (r : Int32) (_ : Unit) => (r : Int32) = xf) (fun (_ : Unit) => [(h0, .inr (7, [.ref e0, .ref t, .ref k, .ref n, .ref j, .ref i0, .int kp, .ref b0, .ref s0, .ref q, .ref g])), (e0, .inr (5, [.ref e01, .int xl, .int xf, .int xg, .int xa, .int xt, .int xr, .int xn])), aB G e01 400 bt]) :=
  c_X7_fault l G h0 e0 e01 sz t k n j i0 b0 s0 q g kp bt xl xf xg xa xt xr xn (by
    rfl)

set_option maxHeartbeats 4000000 in
set_option maxRecDepth 100000 in
theorem c_X7_told (l : Launch) (G : Gt) (h0 t t1 t2 t3 t4 t5 t6 e0 e01 n n1 n2 n3 n4 n5 n6 n7 b0 b01 b02 : Nat) (sz : Nat) (k : Nat) (j : Nat) (i0 : Nat) (s0 : Nat) (q : Nat) (g : Nat) (kp : Int32) (ns : Int32) (np : Int32) (fu : Int32) (fd : Int32) (fi : Int32) (sz_ : Nat → Int32) (pt : Nat → Int32) (fh : Nat → Int32) (kd : Nat → Int32) (nd : Nat → Int32) (fw : Nat → Int32) (bt : Nat → Int32) (xl : Int32) (xf : Int32) (xg : Int32) (xa : Int32) (xt : Int32) (xr : Int32) (xn : Int32) (ht : Nat → Int32) (wm : Nat → Int32) (se : Nat → Int32) (cd : Nat → Int32) (sl : Nat → Int32) (od : Nat → Int32) (ow : Nat → Int32) (lo : Int32) (mi : Int32) (sd : Int32) (en : Int32) (bs : Nat → Int32) (bh : Nat → Int32) (x : Int32) (hv : (x = 0 → True) ∧ (x = 1 → True) ∧ (x = 2 → True) ∧ (x = 3 → True) ∧ (x = 4 → True) ∧ (x = 5 → True) ∧ (x = 6 → True) ∧ (x = 7 → True) ∧ (x = 8 → True) ∧ (x = 9 → (True) ∧ (∀ (r_2 : Int32), (True) → (True))) ∧ (x = 10 → (True) ∧ (∀ (r_3 : Int32), (True) → ((True) ∧ (∀ (r_4 : Int32), (True) → (True))))) ∧ (¬ x = 0 ∧ ¬ x = 1 ∧ ¬ x = 2 ∧ ¬ x = 3 ∧ ¬ x = 4 ∧ ¬ x = 5 ∧ ¬ x = 6 ∧ ¬ x = 7 ∧ ¬ x = 8 ∧ ¬ x = 9 ∧ ¬ x = 10 → True)) : MetL l yX7_told wsX7_told 1 25 G [.ref h0, .int x] [(h0, .inr (7, [.ref e0, .ref t, .ref k, .ref n, .ref j, .ref i0, .int kp, .ref b0, .ref s0, .ref q, .ref g])), (t, .inr (6, [.int ns, .int np, .int fu, .int fd, .int fi, .ref t1, .ref t2, .ref t3, .ref t4, .ref t5, .ref t6])), aI G t1 9 sz_, aI G t2 9 pt, aI G t3 9 fh, aI G t4 8 kd, aI G t5 8 nd, aI G t6 8 fw, (e0, .inr (5, [.ref e01, .int xl, .int xf, .int xg, .int xa, .int xt, .int xr, .int xn])), aB G e01 400 bt, (n, .inr (1, [.ref n1, .ref n2, .ref n3, .ref n4, .ref n5, .ref n6, .ref n7, .int lo, .int mi, .int sd])), aI G n1 9 ht, aI G n2 8 wm, aI G n3 8 se, aI G n4 8 cd, aI G n5 8 sl, aI G n6 8 od, aI G n7 72 ow, (b0, .inr (0, [.ref b01, .ref b02, .int en])), aI G b01 30 bs, aI G b02 30 bh] sz (fun (r : Int64) (_ : Unit) => True) (fun (_ : Unit) => [(h0, .inr (7, [.ref e0, .ref t, .ref k, .ref n, .ref j, .ref i0, .int kp, .ref b0, .ref s0, .ref q, .ref g])), (t, .inr (6, [.int ns, .int np, .int fu, .int fd, .int fi, .ref t1, .ref t2, .ref t3, .ref t4, .ref t5, .ref t6])), aI G t1 9 sz_, aI G t2 9 pt, aI G t3 9 fh, aI G t4 8 kd, aI G t5 8 nd, aI G t6 8 fw, (e0, .inr (5, [.ref e01, .int xl, .int xf, .int xg, .int xa, .int xt, .int xr, .int xn])), aB G e01 400 bt, (n, .inr (1, [.ref n1, .ref n2, .ref n3, .ref n4, .ref n5, .ref n6, .ref n7, .int lo, .int mi, .int sd])), aI G n1 9 ht, aI G n2 8 wm, aI G n3 8 se, aI G n4 8 cd, aI G n5 8 sl, aI G n6 8 od, aI G n7 72 ow, (b0, .inr (0, [.ref b01, .ref b02, .int en])), aI G b01 30 bs, aI G b02 30 bh]) := by
  refine x_startL (cc := cX7_told) (maxL := 2) (ret := (some .long)) (by decide) rfl (Nat.le_of_ble_eq_true rfl) ?_
  intro p e s m args below meth c A R Q ls hRf hRl hQ C hP hD hS hA hSS hl
  obtain ⟨hx, hb, hr, hml, hown, hts, hlocks, hKK⟩ := C
  have hown : s.vm.findClass RX7 = some m.cls := hown
  have hl : lv_has ls 2 [(0, .ref h0), (1, .int x)] := hl
  have hinX0 : ∀ w ∈ u_ws RX0 TX0 3, w ∈ wsX7_told := by decide +kernel
  have hinX1 : ∀ w ∈ u_ws RX1 TX1 10, w ∈ wsX7_told := by decide +kernel
  have hinX5 : ∀ w ∈ u_ws RX5 TX5 8, w ∈ wsX7_told := by decide +kernel
  have hinX6 : ∀ w ∈ u_ws RX6 TX6 11, w ∈ wsX7_told := by decide +kernel
  have hinX7 : ∀ w ∈ u_ws RX7 TX7 11, w ∈ wsX7_told := by decide +kernel
  have kl10 := hts (.fieldLink RX7 10 "WarmStones" "text" "LWarmStones$Text;") (by decide +kernel)
  have kl100 := hts (.fieldLink RX7 100 "WarmStones$Town" "stones" "I") (by decide +kernel)
  have kl106 := hts (.fieldLink RX7 106 "WarmStones$Town" "persons" "I") (by decide +kernel)
  have kl109 := hts (.fieldLink RX7 109 "WarmStones$Night" "minute" "I") (by decide +kernel)
  have kl112 := hts (.fieldLink RX7 112 "WarmStones$Night" "lost" "I") (by decide +kernel)
  have kl115 := hts (.fieldLink RX7 115 "WarmStones$Town" "frostStanding" "I") (by decide +kernel)
  have kl118 := hts (.fieldLink RX7 118 "WarmStones$Town" "frostSitting" "I") (by decide +kernel)
  have kl121 := hts (.fieldLink RX7 121 "WarmStones$Town" "fine" "I") (by decide +kernel)
  have kl124 := hts (.fieldLink RX7 124 "WarmStones$Night" "cold" "[I") (by decide +kernel)
  have kl132 := hts (.fieldLink RX7 132 "WarmStones$Night" "heat" "[I") (by decide +kernel)
  have kl135 := hts (.fieldLink RX7 135 "WarmStones$Night" "warmth" "[I") (by decide +kernel)
  have kl138 := hts (.constantLong RX7 138 (-1000000002)) (by decide +kernel)
  have kl19 := hts (.fieldLink RX7 19 "WarmStones" "town" "LWarmStones$Town;") (by decide +kernel)
  have kl29 := hts (.fieldLink RX7 29 "WarmStones" "night" "LWarmStones$Night;") (by decide +kernel)
  have kl43 := hts (.fieldLink RX7 43 "WarmStones" "book" "LWarmStones$Book;") (by decide +kernel)
  have kl82 := hts (.fieldLink RX7 82 "WarmStones$Text" "length" "I") (by decide +kernel)
  have kl94 := hts (.fieldLink RX7 94 "WarmStones$Book" "entries" "I") (by decide +kernel)
  refine lv_iload_n hx hb dX7_told_0 rfl (lv_at hl 1 rfl) ?_
  by_cases hk_10 : x = 0
  · have hv := hv.1 hk_10
    refine lv_tableIn (off := 59) (tgt := 60) hx hb dX7_told_1 (by rw [hk_10]; decide) (by rw [hk_10]; decide) (by rw [hk_10]; decide) (by decide) ?_
    refine lv_aload_n hx hb dX7_told_60 rfl (lv_at hl 0 rfl) ?_
    refine va_get (D := G.1) (ci := 7) (v := .ref t) (C := RX7) (T := TX7) (N := 11) hx hb hts hinX7 hown hKK.1 hP 0 rfl rfl 1 (by decide) kl19 (fun _ h9 => h9) rfl dX7_told_61 ?_
    refine va_get (D := G.1) (ci := 6) (v := .int ns) (C := RX6) (T := TX6) (N := 11) hx hb hts hinX6 hown hKK.1 hP 1 rfl rfl 0 (by decide) kl100 (fun _ h9 => h9) rfl dX7_told_64 ?_
    refine lv_i2l hx hb dX7_told_67 rfl ?_
    exact x_lret (v := ns.toInt64) () hQ hx hb hr hlocks hS dX7_told_68 hv hP hD
  replace hv := hv.2
  by_cases hk_11 : x = 1
  · have hv := hv.1 hk_11
    refine lv_tableIn (off := 68) (tgt := 69) hx hb dX7_told_1 (by rw [hk_11]; decide) (by rw [hk_11]; decide) (by rw [hk_11]; decide) (by decide) ?_
    refine lv_aload_n hx hb dX7_told_69 rfl (lv_at hl 0 rfl) ?_
    refine va_get (D := G.1) (ci := 7) (v := .ref t) (C := RX7) (T := TX7) (N := 11) hx hb hts hinX7 hown hKK.1 hP 0 rfl rfl 1 (by decide) kl19 (fun _ h9 => h9) rfl dX7_told_70 ?_
    refine va_get (D := G.1) (ci := 6) (v := .int np) (C := RX6) (T := TX6) (N := 11) hx hb hts hinX6 hown hKK.1 hP 1 rfl rfl 1 (by decide) kl106 (fun _ h9 => h9) rfl dX7_told_73 ?_
    refine lv_i2l hx hb dX7_told_76 rfl ?_
    exact x_lret (v := np.toInt64) () hQ hx hb hr hlocks hS dX7_told_77 hv hP hD
  replace hv := hv.2
  by_cases hk_12 : x = 2
  · have hv := hv.1 hk_12
    refine lv_tableIn (off := 77) (tgt := 78) hx hb dX7_told_1 (by rw [hk_12]; decide) (by rw [hk_12]; decide) (by rw [hk_12]; decide) (by decide) ?_
    refine lv_aload_n hx hb dX7_told_78 rfl (lv_at hl 0 rfl) ?_
    refine va_get (D := G.1) (ci := 7) (v := .ref e0) (C := RX7) (T := TX7) (N := 11) hx hb hts hinX7 hown hKK.1 hP 0 rfl rfl 0 (by decide) kl10 (fun _ h9 => h9) rfl dX7_told_79 ?_
    refine va_get (D := G.1) (ci := 5) (v := .int xl) (C := RX5) (T := TX5) (N := 8) hx hb hts hinX5 hown hKK.1 hP 8 rfl rfl 1 (by decide) kl82 (fun _ h9 => h9) rfl dX7_told_82 ?_
    refine lv_i2l hx hb dX7_told_85 rfl ?_
    exact x_lret (v := xl.toInt64) () hQ hx hb hr hlocks hS dX7_told_86 hv hP hD
  replace hv := hv.2
  by_cases hk_13 : x = 3
  · have hv := hv.1 hk_13
    refine lv_tableIn (off := 86) (tgt := 87) hx hb dX7_told_1 (by rw [hk_13]; decide) (by rw [hk_13]; decide) (by rw [hk_13]; decide) (by decide) ?_
    refine lv_aload_n hx hb dX7_told_87 rfl (lv_at hl 0 rfl) ?_
    refine va_get (D := G.1) (ci := 7) (v := .ref n) (C := RX7) (T := TX7) (N := 11) hx hb hts hinX7 hown hKK.1 hP 0 rfl rfl 3 (by decide) kl29 (fun _ h9 => h9) rfl dX7_told_88 ?_
    refine va_get (D := G.1) (ci := 1) (v := .int mi) (C := RX1) (T := TX1) (N := 10) hx hb hts hinX1 hown hKK.1 hP 10 rfl rfl 8 (by decide) kl109 (fun _ h9 => h9) rfl dX7_told_91 ?_
    refine lv_i2l hx hb dX7_told_94 rfl ?_
    exact x_lret (v := mi.toInt64) () hQ hx hb hr hlocks hS dX7_told_95 hv hP hD
  replace hv := hv.2
  by_cases hk_14 : x = 4
  · have hv := hv.1 hk_14
    refine lv_tableIn (off := 95) (tgt := 96) hx hb dX7_told_1 (by rw [hk_14]; decide) (by rw [hk_14]; decide) (by rw [hk_14]; decide) (by decide) ?_
    refine lv_aload_n hx hb dX7_told_96 rfl (lv_at hl 0 rfl) ?_
    refine va_get (D := G.1) (ci := 7) (v := .ref n) (C := RX7) (T := TX7) (N := 11) hx hb hts hinX7 hown hKK.1 hP 0 rfl rfl 3 (by decide) kl29 (fun _ h9 => h9) rfl dX7_told_97 ?_
    refine va_get (D := G.1) (ci := 1) (v := .int lo) (C := RX1) (T := TX1) (N := 10) hx hb hts hinX1 hown hKK.1 hP 10 rfl rfl 7 (by decide) kl112 (fun _ h9 => h9) rfl dX7_told_100 ?_
    refine lv_i2l hx hb dX7_told_103 rfl ?_
    exact x_lret (v := lo.toInt64) () hQ hx hb hr hlocks hS dX7_told_104 hv hP hD
  replace hv := hv.2
  by_cases hk_15 : x = 5
  · have hv := hv.1 hk_15
    refine lv_tableIn (off := 104) (tgt := 105) hx hb dX7_told_1 (by rw [hk_15]; decide) (by rw [hk_15]; decide) (by rw [hk_15]; decide) (by decide) ?_
    refine lv_aload_n hx hb dX7_told_105 rfl (lv_at hl 0 rfl) ?_
    refine va_get (D := G.1) (ci := 7) (v := .ref t) (C := RX7) (T := TX7) (N := 11) hx hb hts hinX7 hown hKK.1 hP 0 rfl rfl 1 (by decide) kl19 (fun _ h9 => h9) rfl dX7_told_106 ?_
    refine va_get (D := G.1) (ci := 6) (v := .int fu) (C := RX6) (T := TX6) (N := 11) hx hb hts hinX6 hown hKK.1 hP 1 rfl rfl 2 (by decide) kl115 (fun _ h9 => h9) rfl dX7_told_109 ?_
    refine lv_i2l hx hb dX7_told_112 rfl ?_
    exact x_lret (v := fu.toInt64) () hQ hx hb hr hlocks hS dX7_told_113 hv hP hD
  replace hv := hv.2
  by_cases hk_16 : x = 6
  · have hv := hv.1 hk_16
    refine lv_tableIn (off := 113) (tgt := 114) hx hb dX7_told_1 (by rw [hk_16]; decide) (by rw [hk_16]; decide) (by rw [hk_16]; decide) (by decide) ?_
    refine lv_aload_n hx hb dX7_told_114 rfl (lv_at hl 0 rfl) ?_
    refine va_get (D := G.1) (ci := 7) (v := .ref t) (C := RX7) (T := TX7) (N := 11) hx hb hts hinX7 hown hKK.1 hP 0 rfl rfl 1 (by decide) kl19 (fun _ h9 => h9) rfl dX7_told_115 ?_
    refine va_get (D := G.1) (ci := 6) (v := .int fd) (C := RX6) (T := TX6) (N := 11) hx hb hts hinX6 hown hKK.1 hP 1 rfl rfl 3 (by decide) kl118 (fun _ h9 => h9) rfl dX7_told_118 ?_
    refine lv_i2l hx hb dX7_told_121 rfl ?_
    exact x_lret (v := fd.toInt64) () hQ hx hb hr hlocks hS dX7_told_122 hv hP hD
  replace hv := hv.2
  by_cases hk_17 : x = 7
  · have hv := hv.1 hk_17
    refine lv_tableIn (off := 122) (tgt := 123) hx hb dX7_told_1 (by rw [hk_17]; decide) (by rw [hk_17]; decide) (by rw [hk_17]; decide) (by decide) ?_
    refine lv_aload_n hx hb dX7_told_123 rfl (lv_at hl 0 rfl) ?_
    refine va_get (D := G.1) (ci := 7) (v := .ref t) (C := RX7) (T := TX7) (N := 11) hx hb hts hinX7 hown hKK.1 hP 0 rfl rfl 1 (by decide) kl19 (fun _ h9 => h9) rfl dX7_told_124 ?_
    refine va_get (D := G.1) (ci := 6) (v := .int fi) (C := RX6) (T := TX6) (N := 11) hx hb hts hinX6 hown hKK.1 hP 1 rfl rfl 4 (by decide) kl121 (fun _ h9 => h9) rfl dX7_told_127 ?_
    refine lv_i2l hx hb dX7_told_130 rfl ?_
    exact x_lret (v := fi.toInt64) () hQ hx hb hr hlocks hS dX7_told_131 hv hP hD
  replace hv := hv.2
  by_cases hk_18 : x = 8
  · have hv := hv.1 hk_18
    refine lv_tableIn (off := 131) (tgt := 132) hx hb dX7_told_1 (by rw [hk_18]; decide) (by rw [hk_18]; decide) (by rw [hk_18]; decide) (by decide) ?_
    refine lv_aload_n hx hb dX7_told_132 rfl (lv_at hl 0 rfl) ?_
    refine va_get (D := G.1) (ci := 7) (v := .ref b0) (C := RX7) (T := TX7) (N := 11) hx hb hts hinX7 hown hKK.1 hP 0 rfl rfl 7 (by decide) kl43 (fun _ h9 => h9) rfl dX7_told_133 ?_
    refine va_get (D := G.1) (ci := 0) (v := .int en) (C := RX0) (T := TX0) (N := 3) hx hb hts hinX0 hown hKK.1 hP 18 rfl rfl 2 (by decide) kl94 (fun _ h9 => h9) rfl dX7_told_136 ?_
    refine lv_i2l hx hb dX7_told_139 rfl ?_
    exact x_lret (v := en.toInt64) () hQ hx hb hr hlocks hS dX7_told_140 hv hP hD
  replace hv := hv.2
  by_cases hk_19 : x = 9
  · have hv := hv.1 hk_19
    refine lv_tableIn (off := 140) (tgt := 141) hx hb dX7_told_1 (by rw [hk_19]; decide) (by rw [hk_19]; decide) (by rw [hk_19]; decide) (by decide) ?_
    refine lv_aload_n hx hb dX7_told_141 rfl (lv_at hl 0 rfl) ?_
    refine va_get (D := G.1) (ci := 7) (v := .ref n) (C := RX7) (T := TX7) (N := 11) hx hb hts hinX7 hown hKK.1 hP 0 rfl rfl 3 (by decide) kl29 (fun _ h9 => h9) rfl dX7_told_142 ?_
    refine va_get (D := G.1) (ci := 1) (v := .ref n4) (C := RX1) (T := TX1) (N := 10) hx hb hts hinX1 hown hKK.1 hP 10 rfl rfl 3 (by decide) kl124 (fun _ h9 => h9) rfl dX7_told_145 ?_
    obtain ⟨hp, hv⟩ := hv
    refine x_calliR (x_runS (As := [.ref n4]) (rest := []) (n := 1) ⟨hx, hb, hml, hown, hts⟩ (k_X7_sumOf8 l G n4 _ cd hp) gX7_told_X7_sumOf rfl (by decide +kernel) ⟨Nat.le_trans (Nat.le_of_ble_eq_true rfl) hRf, Nat.le_trans (Nat.le_of_ble_eq_true rfl) hRl⟩ hKK hSS hS hA hP hD [14] (by decide) rfl rfl hl.1 rfl (Nat.le_of_ble_eq_true rfl) dX7_told_148) hP hD hS hA [14] rfl (fun r_2 _ H locs hw hP hS => ?_)
    have hv := hv r_2 hw
    refine lv_i2l hx hb dX7_told_151 rfl ?_
    exact x_lret (v := r_2.toInt64) () hQ hx hb hr hlocks hS dX7_told_152 hv hP hD
  replace hv := hv.2
  by_cases hk_110 : x = 10
  · have hv := hv.1 hk_110
    refine lv_tableIn (off := 152) (tgt := 153) hx hb dX7_told_1 (by rw [hk_110]; decide) (by rw [hk_110]; decide) (by rw [hk_110]; decide) (by decide) ?_
    refine lv_aload_n hx hb dX7_told_153 rfl (lv_at hl 0 rfl) ?_
    refine va_get (D := G.1) (ci := 7) (v := .ref n) (C := RX7) (T := TX7) (N := 11) hx hb hts hinX7 hown hKK.1 hP 0 rfl rfl 3 (by decide) kl29 (fun _ h9 => h9) rfl dX7_told_154 ?_
    refine va_get (D := G.1) (ci := 1) (v := .ref n1) (C := RX1) (T := TX1) (N := 10) hx hb hts hinX1 hown hKK.1 hP 10 rfl rfl 0 (by decide) kl132 (fun _ h9 => h9) rfl dX7_told_157 ?_
    obtain ⟨hp, hv⟩ := hv
    refine x_calliR (x_runS (As := [.ref n1]) (rest := []) (n := 1) ⟨hx, hb, hml, hown, hts⟩ (k_X7_sumOf9 l G n1 _ ht hp) gX7_told_X7_sumOf rfl (by decide +kernel) ⟨Nat.le_trans (Nat.le_of_ble_eq_true rfl) hRf, Nat.le_trans (Nat.le_of_ble_eq_true rfl) hRl⟩ hKK hSS hS hA hP hD [11] (by decide) rfl rfl hl.1 rfl (Nat.le_of_ble_eq_true rfl) dX7_told_160) hP hD hS hA [11] rfl (fun r_3 _ H locs hw hP hS => ?_)
    have hv := hv r_3 hw
    refine lv_aload_n hx hb dX7_told_163 rfl (lv_at hl 0 rfl) ?_
    refine va_get (D := G.1) (ci := 7) (v := .ref n) (C := RX7) (T := TX7) (N := 11) hx hb hts hinX7 hown hKK.1 hP 0 rfl rfl 3 (by decide) kl29 (fun _ h9 => h9) rfl dX7_told_164 ?_
    refine va_get (D := G.1) (ci := 1) (v := .ref n2) (C := RX1) (T := TX1) (N := 10) hx hb hts hinX1 hown hKK.1 hP 10 rfl rfl 1 (by decide) kl135 (fun _ h9 => h9) rfl dX7_told_167 ?_
    obtain ⟨hp, hv⟩ := hv
    refine x_calliR (x_runS (As := [.ref n2]) (rest := [.int r_3]) (n := 1) ⟨hx, hb, hml, hown, hts⟩ (k_X7_sumOf8 l G n2 _ wm hp) gX7_told_X7_sumOf rfl (by decide +kernel) ⟨Nat.le_trans (Nat.le_of_ble_eq_true rfl) hRf, Nat.le_trans (Nat.le_of_ble_eq_true rfl) hRl⟩ hKK hSS hS hA hP hD [12] (by decide) rfl rfl hl.1 rfl (Nat.le_of_ble_eq_true rfl) dX7_told_170) hP hD hS hA [12] rfl (fun r_4 _ H locs hw hP hS => ?_)
    have hv := hv r_4 hw
    refine lv_iadd hx hb dX7_told_173 ?_
    refine lv_i2l hx hb dX7_told_174 rfl ?_
    exact x_lret (v := (r_3 + r_4).toInt64) () hQ hx hb hr hlocks hS dX7_told_175 hv hP hD
  replace hv := hv.2
  have hv := hv ⟨hk_10, hk_11, hk_12, hk_13, hk_14, hk_15, hk_16, hk_17, hk_18, hk_19, hk_110⟩
  refine lv_tableOut (tgt := 176) hx hb dX7_told_1 (ts_out 10 (by decide) (ts_ne_all 10 ⟨⟨⟨⟨⟨⟨⟨⟨⟨⟨hk_10, hk_11⟩, hk_12⟩, hk_13⟩, hk_14⟩, hk_15⟩, hk_16⟩, hk_17⟩, hk_18⟩, hk_19⟩, hk_110⟩)) (by decide) ?_
  refine lv_ldc2 (v := (-1000000002)) hx hb hown kl138 dX7_told_176 ?_
  exact x_lret (v := (-1000000002)) () hQ hx hb hr hlocks hS dX7_told_179 hv hP hD
theorem k_X7_told (l : Launch) (G : Gt) (h0 t t1 t2 t3 t4 t5 t6 e0 e01 n n1 n2 n3 n4 n5 n6 n7 b0 b01 b02 : Nat) (sz : Nat) (k : Nat) (j : Nat) (i0 : Nat) (s0 : Nat) (q : Nat) (g : Nat) (kp : Int32) (ns : Int32) (np : Int32) (fu : Int32) (fd : Int32) (fi : Int32) (sz_ : Nat → Int32) (pt : Nat → Int32) (fh : Nat → Int32) (kd : Nat → Int32) (nd : Nat → Int32) (fw : Nat → Int32) (bt : Nat → Int32) (xl : Int32) (xf : Int32) (xg : Int32) (xa : Int32) (xt : Int32) (xr : Int32) (xn : Int32) (ht : Nat → Int32) (wm : Nat → Int32) (se : Nat → Int32) (cd : Nat → Int32) (sl : Nat → Int32) (od : Nat → Int32) (ow : Nat → Int32) (lo : Int32) (mi : Int32) (sd : Int32) (en : Int32) (bs : Nat → Int32) (bh : Nat → Int32) (x : Int32) (hp : True) : MetL l yX7_told wsX7_told 1 25 G [.ref h0, .int x] [(h0, .inr (7, [.ref e0, .ref t, .ref k, .ref n, .ref j, .ref i0, .int kp, .ref b0, .ref s0, .ref q, .ref g])), (t, .inr (6, [.int ns, .int np, .int fu, .int fd, .int fi, .ref t1, .ref t2, .ref t3, .ref t4, .ref t5, .ref t6])), aI G t1 9 sz_, aI G t2 9 pt, aI G t3 9 fh, aI G t4 8 kd, aI G t5 8 nd, aI G t6 8 fw, (e0, .inr (5, [.ref e01, .int xl, .int xf, .int xg, .int xa, .int xt, .int xr, .int xn])), aB G e01 400 bt, (n, .inr (1, [.ref n1, .ref n2, .ref n3, .ref n4, .ref n5, .ref n6, .ref n7, .int lo, .int mi, .int sd])), aI G n1 9 ht, aI G n2 8 wm, aI G n3 8 se, aI G n4 8 cd, aI G n5 8 sl, aI G n6 8 od, aI G n7 72 ow, (b0, .inr (0, [.ref b01, .ref b02, .int en])), aI G b01 30 bs, aI G b02 30 bh] sz (fun (r : Int64) (_ : Unit) => True) (fun (_ : Unit) => [(h0, .inr (7, [.ref e0, .ref t, .ref k, .ref n, .ref j, .ref i0, .int kp, .ref b0, .ref s0, .ref q, .ref g])), (t, .inr (6, [.int ns, .int np, .int fu, .int fd, .int fi, .ref t1, .ref t2, .ref t3, .ref t4, .ref t5, .ref t6])), aI G t1 9 sz_, aI G t2 9 pt, aI G t3 9 fh, aI G t4 8 kd, aI G t5 8 nd, aI G t6 8 fw, (e0, .inr (5, [.ref e01, .int xl, .int xf, .int xg, .int xa, .int xt, .int xr, .int xn])), aB G e01 400 bt, (n, .inr (1, [.ref n1, .ref n2, .ref n3, .ref n4, .ref n5, .ref n6, .ref n7, .int lo, .int mi, .int sd])), aI G n1 9 ht, aI G n2 8 wm, aI G n3 8 se, aI G n4 8 cd, aI G n5 8 sl, aI G n6 8 od, aI G n7 72 ow, (b0, .inr (0, [.ref b01, .ref b02, .int en])), aI G b01 30 bs, aI G b02 30 bh]) :=
  c_X7_told l G h0 t t1 t2 t3 t4 t5 t6 e0 e01 n n1 n2 n3 n4 n5 n6 n7 b0 b01 b02 sz k j i0 s0 q g kp ns np fu fd fi sz_ pt fh kd nd fw bt xl xf xg xa xt xr xn ht wm se cd sl od ow lo mi sd en bs bh x (by
    sorry)

set_option maxHeartbeats 4000000 in
set_option maxRecDepth 100000 in
theorem c_X7_stone (l : Launch) (G : Gt) (h0 t t1 t2 t3 t4 t5 t6 n n1 n2 n3 n4 n5 n6 n7 : Nat) (sz : Nat) (e0 : Nat) (k : Nat) (j : Nat) (i0 : Nat) (b0 : Nat) (s0 : Nat) (q : Nat) (g : Nat) (kp : Int32) (ns : Int32) (np : Int32) (fu : Int32) (fd : Int32) (fi : Int32) (sz_ : Nat → Int32) (pt : Nat → Int32) (fh : Nat → Int32) (kd : Nat → Int32) (nd : Nat → Int32) (fw : Nat → Int32) (ht : Nat → Int32) (wm : Nat → Int32) (se : Nat → Int32) (cd : Nat → Int32) (sl : Nat → Int32) (od : Nat → Int32) (ow : Nat → Int32) (lo : Int32) (mi : Int32) (sd : Int32) (x : Int32) (v : Int32) (hv : (¬ x < 0 ∧ ¬ ns ≤ x → (v = 0 → (vp_in x 9) ∧ (True)) ∧ (v = 1 → (vp_in x 9) ∧ (True)) ∧ (v = 2 → (vp_in x 9) ∧ (True)) ∧ (v = 3 → ∀ (r_4 : Int32), (True) → (True)) ∧ (¬ v = 0 ∧ ¬ v = 1 ∧ ¬ v = 2 ∧ ¬ v = 3 → True)) ∧ (¬ (¬ x < 0 ∧ ¬ ns ≤ x) → True)) : MetI l yX7_stone wsX7_stone 1 22 G [.ref h0, .int x, .int v] [(h0, .inr (7, [.ref e0, .ref t, .ref k, .ref n, .ref j, .ref i0, .int kp, .ref b0, .ref s0, .ref q, .ref g])), (t, .inr (6, [.int ns, .int np, .int fu, .int fd, .int fi, .ref t1, .ref t2, .ref t3, .ref t4, .ref t5, .ref t6])), aI G t1 9 sz_, aI G t2 9 pt, aI G t3 9 fh, aI G t4 8 kd, aI G t5 8 nd, aI G t6 8 fw, (n, .inr (1, [.ref n1, .ref n2, .ref n3, .ref n4, .ref n5, .ref n6, .ref n7, .int lo, .int mi, .int sd])), aI G n1 9 ht, aI G n2 8 wm, aI G n3 8 se, aI G n4 8 cd, aI G n5 8 sl, aI G n6 8 od, aI G n7 72 ow] sz (fun (r : Int32) (_ : Unit) => True) (fun (_ : Unit) => [(h0, .inr (7, [.ref e0, .ref t, .ref k, .ref n, .ref j, .ref i0, .int kp, .ref b0, .ref s0, .ref q, .ref g])), (t, .inr (6, [.int ns, .int np, .int fu, .int fd, .int fi, .ref t1, .ref t2, .ref t3, .ref t4, .ref t5, .ref t6])), aI G t1 9 sz_, aI G t2 9 pt, aI G t3 9 fh, aI G t4 8 kd, aI G t5 8 nd, aI G t6 8 fw, (n, .inr (1, [.ref n1, .ref n2, .ref n3, .ref n4, .ref n5, .ref n6, .ref n7, .int lo, .int mi, .int sd])), aI G n1 9 ht, aI G n2 8 wm, aI G n3 8 se, aI G n4 8 cd, aI G n5 8 sl, aI G n6 8 od, aI G n7 72 ow]) := by
  refine x_startI (cc := cX7_stone) (maxL := 3) (ret := (some .int)) (by decide) rfl (Nat.le_of_ble_eq_true rfl) ?_
  intro p e s m args below meth c A R Q ls hRf hRl hQ C hP hD hS hA hSS hl
  obtain ⟨hx, hb, hr, hml, hown, hts, hlocks, hKK⟩ := C
  have hown : s.vm.findClass RX7 = some m.cls := hown
  have hl : lv_has ls 3 [(0, .ref h0), (1, .int x), (2, .int v)] := hl
  have hinX1 : ∀ w ∈ u_ws RX1 TX1 10, w ∈ wsX7_stone := by decide +kernel
  have hinX6 : ∀ w ∈ u_ws RX6 TX6 11, w ∈ wsX7_stone := by decide +kernel
  have hinX7 : ∀ w ∈ u_ws RX7 TX7 11, w ∈ wsX7_stone := by decide +kernel
  have kl132 := hts (.fieldLink RX7 132 "WarmStones$Night" "heat" "[I") (by decide +kernel)
  have kl143 := hts (.constant RX7 143 (-1000000001)) (by decide +kernel)
  have kl144 := hts (.fieldLink RX7 144 "WarmStones$Town" "size" "[I") (by decide +kernel)
  have kl147 := hts (.fieldLink RX7 147 "WarmStones$Town" "part" "[I") (by decide +kernel)
  have kl19 := hts (.fieldLink RX7 19 "WarmStones" "town" "LWarmStones$Town;") (by decide +kernel)
  have kl29 := hts (.fieldLink RX7 29 "WarmStones" "night" "LWarmStones$Night;") (by decide +kernel)
  have kl72 := hts (.constant RX7 72 (-1000000002)) (by decide +kernel)
  refine lv_aload_n hx hb dX7_stone_0 rfl (lv_at hl 0 rfl) ?_
  refine va_get (D := G.1) (ci := 7) (v := .ref t) (C := RX7) (T := TX7) (N := 11) hx hb hts hinX7 hown hKK.1 hP 0 rfl rfl 1 (by decide) kl19 (fun _ h9 => h9) rfl dX7_stone_1 ?_
  refine lv_iload_n hx hb dX7_stone_4 rfl (lv_at hl 1 rfl) ?_
  refine x_calliR (x_runV (As := [.int x]) (rest := []) (n := 1) (C := RX6) (ci := 6) ⟨hx, hb, hml, hown, hts⟩ (k_X6_hasStone l G t t1 t2 t3 t4 t5 t6 _ ns np fu fd fi sz_ pt fh kd nd fw x) gX7_stone_X6_hasStone rfl (by decide +kernel) ⟨Nat.le_trans (Nat.le_of_ble_eq_true rfl) hRf, Nat.le_trans (Nat.le_of_ble_eq_true rfl) hRl⟩ hKK hSS hS hA hP hD [1, 2, 3, 4, 5, 6, 7] (by decide) rfl rfl rfl 1 rfl rfl hl.1 rfl (Nat.le_of_ble_eq_true rfl) dX7_stone_5) hP hD hS hA [1, 2, 3, 4, 5, 6, 7] rfl (fun r_1 _ H locs hw hP hS => ?_)
  replace hw := hw.symm; subst hw
  refine lv_if_ne (tgt := 14) hx hb dX7_stone_8 (by decide) (fun hc_2 => ?_) (fun hc_2 => ?_)
  · have hv := hv.1 (tv_eqn.mp hc_2)
    refine lv_iload_n hx hb dX7_stone_14 rfl (lv_at hl 2 rfl) ?_
    by_cases hk_30 : v = 0
    · have hv := hv.1 hk_30
      refine lv_tableIn (off := 29) (tgt := 44) hx hb dX7_stone_15 (by rw [hk_30]; decide) (by rw [hk_30]; decide) (by rw [hk_30]; decide) (by decide) ?_
      refine lv_aload_n hx hb dX7_stone_44 rfl (lv_at hl 0 rfl) ?_
      refine va_get (D := G.1) (ci := 7) (v := .ref t) (C := RX7) (T := TX7) (N := 11) hx hb hts hinX7 hown hKK.1 hP 0 rfl rfl 1 (by decide) kl19 (fun _ h9 => h9) rfl dX7_stone_45 ?_
      refine va_get (D := G.1) (ci := 6) (v := .ref t1) (C := RX6) (T := TX6) (N := 11) hx hb hts hinX6 hown hKK.1 hP 1 rfl rfl 5 (by decide) kl144 (fun _ h9 => h9) rfl dX7_stone_48 ?_
      refine lv_iload_n hx hb dX7_stone_51 rfl (lv_at hl 1 rfl) ?_
      obtain ⟨hin, hv⟩ := hv
      refine va_iald hx hb hKK.1 hP 2 0 rfl rfl hin dX7_stone_52 ?_
      exact x_iret (v := (sz_ x.toNatClampNeg)) () hQ hx hb hr hlocks hS dX7_stone_53 hv hP hD
    replace hv := hv.2
    by_cases hk_31 : v = 1
    · have hv := hv.1 hk_31
      refine lv_tableIn (off := 39) (tgt := 54) hx hb dX7_stone_15 (by rw [hk_31]; decide) (by rw [hk_31]; decide) (by rw [hk_31]; decide) (by decide) ?_
      refine lv_aload_n hx hb dX7_stone_54 rfl (lv_at hl 0 rfl) ?_
      refine va_get (D := G.1) (ci := 7) (v := .ref t) (C := RX7) (T := TX7) (N := 11) hx hb hts hinX7 hown hKK.1 hP 0 rfl rfl 1 (by decide) kl19 (fun _ h9 => h9) rfl dX7_stone_55 ?_
      refine va_get (D := G.1) (ci := 6) (v := .ref t2) (C := RX6) (T := TX6) (N := 11) hx hb hts hinX6 hown hKK.1 hP 1 rfl rfl 6 (by decide) kl147 (fun _ h9 => h9) rfl dX7_stone_58 ?_
      refine lv_iload_n hx hb dX7_stone_61 rfl (lv_at hl 1 rfl) ?_
      obtain ⟨hin, hv⟩ := hv
      refine va_iald hx hb hKK.1 hP 3 0 rfl rfl hin dX7_stone_62 ?_
      exact x_iret (v := (pt x.toNatClampNeg)) () hQ hx hb hr hlocks hS dX7_stone_63 hv hP hD
    replace hv := hv.2
    by_cases hk_32 : v = 2
    · have hv := hv.1 hk_32
      refine lv_tableIn (off := 49) (tgt := 64) hx hb dX7_stone_15 (by rw [hk_32]; decide) (by rw [hk_32]; decide) (by rw [hk_32]; decide) (by decide) ?_
      refine lv_aload_n hx hb dX7_stone_64 rfl (lv_at hl 0 rfl) ?_
      refine va_get (D := G.1) (ci := 7) (v := .ref n) (C := RX7) (T := TX7) (N := 11) hx hb hts hinX7 hown hKK.1 hP 0 rfl rfl 3 (by decide) kl29 (fun _ h9 => h9) rfl dX7_stone_65 ?_
      refine va_get (D := G.1) (ci := 1) (v := .ref n1) (C := RX1) (T := TX1) (N := 10) hx hb hts hinX1 hown hKK.1 hP 8 rfl rfl 0 (by decide) kl132 (fun _ h9 => h9) rfl dX7_stone_68 ?_
      refine lv_iload_n hx hb dX7_stone_71 rfl (lv_at hl 1 rfl) ?_
      obtain ⟨hin, hv⟩ := hv
      refine va_iald hx hb hKK.1 hP 9 0 rfl rfl hin dX7_stone_72 ?_
      exact x_iret (v := (ht x.toNatClampNeg)) () hQ hx hb hr hlocks hS dX7_stone_73 hv hP hD
    replace hv := hv.2
    by_cases hk_33 : v = 3
    · have hv := hv.1 hk_33
      refine lv_tableIn (off := 59) (tgt := 74) hx hb dX7_stone_15 (by rw [hk_33]; decide) (by rw [hk_33]; decide) (by rw [hk_33]; decide) (by decide) ?_
      refine lv_aload_n hx hb dX7_stone_74 rfl (lv_at hl 0 rfl) ?_
      refine va_get (D := G.1) (ci := 7) (v := .ref n) (C := RX7) (T := TX7) (N := 11) hx hb hts hinX7 hown hKK.1 hP 0 rfl rfl 3 (by decide) kl29 (fun _ h9 => h9) rfl dX7_stone_75 ?_
      refine lv_iload_n hx hb dX7_stone_78 rfl (lv_at hl 1 rfl) ?_
      refine x_calliR (x_runV (As := [.int x]) (rest := []) (n := 1) (C := RX1) (ci := 1) ⟨hx, hb, hml, hown, hts⟩ (k_X1_sitterOn l G n n1 n2 n3 n4 n5 n6 n7 _ ht wm se cd sl od ow lo mi sd x) gX7_stone_X1_sitterOn rfl (by decide +kernel) ⟨Nat.le_trans (Nat.le_of_ble_eq_true rfl) hRf, Nat.le_trans (Nat.le_of_ble_eq_true rfl) hRl⟩ hKK hSS hS hA hP hD [8, 9, 10, 11, 12, 13, 14, 15] (by decide) rfl rfl rfl 8 rfl rfl hl.1 rfl (Nat.le_of_ble_eq_true rfl) dX7_stone_79) hP hD hS hA [8, 9, 10, 11, 12, 13, 14, 15] rfl (fun r_4 _ H locs hw hP hS => ?_)
      have hv := hv r_4 hw
      exact x_iret (v := r_4) () hQ hx hb hr hlocks hS dX7_stone_82 hv hP hD
    replace hv := hv.2
    have hv := hv ⟨hk_30, hk_31, hk_32, hk_33⟩
    refine lv_tableOut (tgt := 83) hx hb dX7_stone_15 (ts_out 3 (by decide) (ts_ne_all 3 ⟨⟨⟨hk_30, hk_31⟩, hk_32⟩, hk_33⟩)) (by decide) ?_
    refine lv_ldc (v := (-1000000002)) hx hb hown kl72 dX7_stone_83 ?_
    exact x_iret (v := (-1000000002)) () hQ hx hb hr hlocks hS dX7_stone_85 hv hP hD
  · have hv := hv.2 (tv_eq.mp hc_2)
    refine lv_ldc (v := (-1000000001)) hx hb hown kl143 dX7_stone_11 ?_
    exact x_iret (v := (-1000000001)) () hQ hx hb hr hlocks hS dX7_stone_13 hv hP hD
theorem k_X7_stone (l : Launch) (G : Gt) (h0 t t1 t2 t3 t4 t5 t6 n n1 n2 n3 n4 n5 n6 n7 : Nat) (sz : Nat) (e0 : Nat) (k : Nat) (j : Nat) (i0 : Nat) (b0 : Nat) (s0 : Nat) (q : Nat) (g : Nat) (kp : Int32) (ns : Int32) (np : Int32) (fu : Int32) (fd : Int32) (fi : Int32) (sz_ : Nat → Int32) (pt : Nat → Int32) (fh : Nat → Int32) (kd : Nat → Int32) (nd : Nat → Int32) (fw : Nat → Int32) (ht : Nat → Int32) (wm : Nat → Int32) (se : Nat → Int32) (cd : Nat → Int32) (sl : Nat → Int32) (od : Nat → Int32) (ow : Nat → Int32) (lo : Int32) (mi : Int32) (sd : Int32) (x : Int32) (v : Int32) (hp : True) : MetI l yX7_stone wsX7_stone 1 22 G [.ref h0, .int x, .int v] [(h0, .inr (7, [.ref e0, .ref t, .ref k, .ref n, .ref j, .ref i0, .int kp, .ref b0, .ref s0, .ref q, .ref g])), (t, .inr (6, [.int ns, .int np, .int fu, .int fd, .int fi, .ref t1, .ref t2, .ref t3, .ref t4, .ref t5, .ref t6])), aI G t1 9 sz_, aI G t2 9 pt, aI G t3 9 fh, aI G t4 8 kd, aI G t5 8 nd, aI G t6 8 fw, (n, .inr (1, [.ref n1, .ref n2, .ref n3, .ref n4, .ref n5, .ref n6, .ref n7, .int lo, .int mi, .int sd])), aI G n1 9 ht, aI G n2 8 wm, aI G n3 8 se, aI G n4 8 cd, aI G n5 8 sl, aI G n6 8 od, aI G n7 72 ow] sz (fun (r : Int32) (_ : Unit) => True) (fun (_ : Unit) => [(h0, .inr (7, [.ref e0, .ref t, .ref k, .ref n, .ref j, .ref i0, .int kp, .ref b0, .ref s0, .ref q, .ref g])), (t, .inr (6, [.int ns, .int np, .int fu, .int fd, .int fi, .ref t1, .ref t2, .ref t3, .ref t4, .ref t5, .ref t6])), aI G t1 9 sz_, aI G t2 9 pt, aI G t3 9 fh, aI G t4 8 kd, aI G t5 8 nd, aI G t6 8 fw, (n, .inr (1, [.ref n1, .ref n2, .ref n3, .ref n4, .ref n5, .ref n6, .ref n7, .int lo, .int mi, .int sd])), aI G n1 9 ht, aI G n2 8 wm, aI G n3 8 se, aI G n4 8 cd, aI G n5 8 sl, aI G n6 8 od, aI G n7 72 ow]) :=
  c_X7_stone l G h0 t t1 t2 t3 t4 t5 t6 n n1 n2 n3 n4 n5 n6 n7 sz e0 k j i0 b0 s0 q g kp ns np fu fd fi sz_ pt fh kd nd fw ht wm se cd sl od ow lo mi sd x v (by
    sorry)

set_option maxHeartbeats 4000000 in
set_option maxRecDepth 100000 in
theorem c_X7_person (l : Launch) (G : Gt) (h0 t t1 t2 t3 t4 t5 t6 n n1 n2 n3 n4 n5 n6 n7 : Nat) (sz : Nat) (e0 : Nat) (k : Nat) (j : Nat) (i0 : Nat) (b0 : Nat) (s0 : Nat) (q : Nat) (g : Nat) (kp : Int32) (ns : Int32) (np : Int32) (fu : Int32) (fd : Int32) (fi : Int32) (sz_ : Nat → Int32) (pt : Nat → Int32) (fh : Nat → Int32) (kd : Nat → Int32) (nd : Nat → Int32) (fw : Nat → Int32) (ht : Nat → Int32) (wm : Nat → Int32) (se : Nat → Int32) (cd : Nat → Int32) (sl : Nat → Int32) (od : Nat → Int32) (ow : Nat → Int32) (lo : Int32) (mi : Int32) (sd : Int32) (x : Int32) (v : Int32) (hv : (¬ x < 0 ∧ ¬ np ≤ x → (v = 0 → (vp_in x 8) ∧ (True)) ∧ (v = 1 → (vp_in x 8) ∧ (True)) ∧ (v = 2 → (vp_in x 8) ∧ (True)) ∧ (v = 3 → (vp_in x 8) ∧ (True)) ∧ (v = 4 → (vp_in x 8) ∧ (True)) ∧ (v = 5 → (vp_in x 8) ∧ (True)) ∧ (v = 6 → (vp_in x 8) ∧ (True)) ∧ (¬ v = 0 ∧ ¬ v = 1 ∧ ¬ v = 2 ∧ ¬ v = 3 ∧ ¬ v = 4 ∧ ¬ v = 5 ∧ ¬ v = 6 → True)) ∧ (¬ (¬ x < 0 ∧ ¬ np ≤ x) → True)) : MetI l yX7_person wsX7_person 1 21 G [.ref h0, .int x, .int v] [(h0, .inr (7, [.ref e0, .ref t, .ref k, .ref n, .ref j, .ref i0, .int kp, .ref b0, .ref s0, .ref q, .ref g])), (t, .inr (6, [.int ns, .int np, .int fu, .int fd, .int fi, .ref t1, .ref t2, .ref t3, .ref t4, .ref t5, .ref t6])), aI G t1 9 sz_, aI G t2 9 pt, aI G t3 9 fh, aI G t4 8 kd, aI G t5 8 nd, aI G t6 8 fw, (n, .inr (1, [.ref n1, .ref n2, .ref n3, .ref n4, .ref n5, .ref n6, .ref n7, .int lo, .int mi, .int sd])), aI G n1 9 ht, aI G n2 8 wm, aI G n3 8 se, aI G n4 8 cd, aI G n5 8 sl, aI G n6 8 od, aI G n7 72 ow] sz (fun (r : Int32) (_ : Unit) => True) (fun (_ : Unit) => [(h0, .inr (7, [.ref e0, .ref t, .ref k, .ref n, .ref j, .ref i0, .int kp, .ref b0, .ref s0, .ref q, .ref g])), (t, .inr (6, [.int ns, .int np, .int fu, .int fd, .int fi, .ref t1, .ref t2, .ref t3, .ref t4, .ref t5, .ref t6])), aI G t1 9 sz_, aI G t2 9 pt, aI G t3 9 fh, aI G t4 8 kd, aI G t5 8 nd, aI G t6 8 fw, (n, .inr (1, [.ref n1, .ref n2, .ref n3, .ref n4, .ref n5, .ref n6, .ref n7, .int lo, .int mi, .int sd])), aI G n1 9 ht, aI G n2 8 wm, aI G n3 8 se, aI G n4 8 cd, aI G n5 8 sl, aI G n6 8 od, aI G n7 72 ow]) := by
  refine x_startI (cc := cX7_person) (maxL := 3) (ret := (some .int)) (by decide) rfl (Nat.le_of_ble_eq_true rfl) ?_
  intro p e s m args below meth c A R Q ls hRf hRl hQ C hP hD hS hA hSS hl
  obtain ⟨hx, hb, hr, hml, hown, hts, hlocks, hKK⟩ := C
  have hown : s.vm.findClass RX7 = some m.cls := hown
  have hl : lv_has ls 3 [(0, .ref h0), (1, .int x), (2, .int v)] := hl
  have hinX1 : ∀ w ∈ u_ws RX1 TX1 10, w ∈ wsX7_person := by decide +kernel
  have hinX6 : ∀ w ∈ u_ws RX6 TX6 11, w ∈ wsX7_person := by decide +kernel
  have hinX7 : ∀ w ∈ u_ws RX7 TX7 11, w ∈ wsX7_person := by decide +kernel
  have kl124 := hts (.fieldLink RX7 124 "WarmStones$Night" "cold" "[I") (by decide +kernel)
  have kl135 := hts (.fieldLink RX7 135 "WarmStones$Night" "warmth" "[I") (by decide +kernel)
  have kl143 := hts (.constant RX7 143 (-1000000001)) (by decide +kernel)
  have kl157 := hts (.fieldLink RX7 157 "WarmStones$Town" "kind" "[I") (by decide +kernel)
  have kl160 := hts (.fieldLink RX7 160 "WarmStones$Town" "need" "[I") (by decide +kernel)
  have kl163 := hts (.fieldLink RX7 163 "WarmStones$Night" "seat" "[I") (by decide +kernel)
  have kl166 := hts (.fieldLink RX7 166 "WarmStones$Night" "stolen" "[I") (by decide +kernel)
  have kl169 := hts (.fieldLink RX7 169 "WarmStones$Night" "owed" "[I") (by decide +kernel)
  have kl19 := hts (.fieldLink RX7 19 "WarmStones" "town" "LWarmStones$Town;") (by decide +kernel)
  have kl29 := hts (.fieldLink RX7 29 "WarmStones" "night" "LWarmStones$Night;") (by decide +kernel)
  have kl72 := hts (.constant RX7 72 (-1000000002)) (by decide +kernel)
  refine lv_aload_n hx hb dX7_person_0 rfl (lv_at hl 0 rfl) ?_
  refine va_get (D := G.1) (ci := 7) (v := .ref t) (C := RX7) (T := TX7) (N := 11) hx hb hts hinX7 hown hKK.1 hP 0 rfl rfl 1 (by decide) kl19 (fun _ h9 => h9) rfl dX7_person_1 ?_
  refine lv_iload_n hx hb dX7_person_4 rfl (lv_at hl 1 rfl) ?_
  refine x_calliR (x_runV (As := [.int x]) (rest := []) (n := 1) (C := RX6) (ci := 6) ⟨hx, hb, hml, hown, hts⟩ (k_X6_hasPerson l G t t1 t2 t3 t4 t5 t6 _ ns np fu fd fi sz_ pt fh kd nd fw x) gX7_person_X6_hasPerson rfl (by decide +kernel) ⟨Nat.le_trans (Nat.le_of_ble_eq_true rfl) hRf, Nat.le_trans (Nat.le_of_ble_eq_true rfl) hRl⟩ hKK hSS hS hA hP hD [1, 2, 3, 4, 5, 6, 7] (by decide) rfl rfl rfl 1 rfl rfl hl.1 rfl (Nat.le_of_ble_eq_true rfl) dX7_person_5) hP hD hS hA [1, 2, 3, 4, 5, 6, 7] rfl (fun r_1 _ H locs hw hP hS => ?_)
  replace hw := hw.symm; subst hw
  refine lv_if_ne (tgt := 14) hx hb dX7_person_8 (by decide) (fun hc_2 => ?_) (fun hc_2 => ?_)
  · have hv := hv.1 (tv_eqn.mp hc_2)
    refine lv_iload_n hx hb dX7_person_14 rfl (lv_at hl 2 rfl) ?_
    by_cases hk_30 : v = 0
    · have hv := hv.1 hk_30
      refine lv_tableIn (off := 41) (tgt := 56) hx hb dX7_person_15 (by rw [hk_30]; decide) (by rw [hk_30]; decide) (by rw [hk_30]; decide) (by decide) ?_
      refine lv_aload_n hx hb dX7_person_56 rfl (lv_at hl 0 rfl) ?_
      refine va_get (D := G.1) (ci := 7) (v := .ref t) (C := RX7) (T := TX7) (N := 11) hx hb hts hinX7 hown hKK.1 hP 0 rfl rfl 1 (by decide) kl19 (fun _ h9 => h9) rfl dX7_person_57 ?_
      refine va_get (D := G.1) (ci := 6) (v := .ref t4) (C := RX6) (T := TX6) (N := 11) hx hb hts hinX6 hown hKK.1 hP 1 rfl rfl 8 (by decide) kl157 (fun _ h9 => h9) rfl dX7_person_60 ?_
      refine lv_iload_n hx hb dX7_person_63 rfl (lv_at hl 1 rfl) ?_
      obtain ⟨hin, hv⟩ := hv
      refine va_iald hx hb hKK.1 hP 5 0 rfl rfl hin dX7_person_64 ?_
      exact x_iret (v := (kd x.toNatClampNeg)) () hQ hx hb hr hlocks hS dX7_person_65 hv hP hD
    replace hv := hv.2
    by_cases hk_31 : v = 1
    · have hv := hv.1 hk_31
      refine lv_tableIn (off := 51) (tgt := 66) hx hb dX7_person_15 (by rw [hk_31]; decide) (by rw [hk_31]; decide) (by rw [hk_31]; decide) (by decide) ?_
      refine lv_aload_n hx hb dX7_person_66 rfl (lv_at hl 0 rfl) ?_
      refine va_get (D := G.1) (ci := 7) (v := .ref t) (C := RX7) (T := TX7) (N := 11) hx hb hts hinX7 hown hKK.1 hP 0 rfl rfl 1 (by decide) kl19 (fun _ h9 => h9) rfl dX7_person_67 ?_
      refine va_get (D := G.1) (ci := 6) (v := .ref t5) (C := RX6) (T := TX6) (N := 11) hx hb hts hinX6 hown hKK.1 hP 1 rfl rfl 9 (by decide) kl160 (fun _ h9 => h9) rfl dX7_person_70 ?_
      refine lv_iload_n hx hb dX7_person_73 rfl (lv_at hl 1 rfl) ?_
      obtain ⟨hin, hv⟩ := hv
      refine va_iald hx hb hKK.1 hP 6 0 rfl rfl hin dX7_person_74 ?_
      exact x_iret (v := (nd x.toNatClampNeg)) () hQ hx hb hr hlocks hS dX7_person_75 hv hP hD
    replace hv := hv.2
    by_cases hk_32 : v = 2
    · have hv := hv.1 hk_32
      refine lv_tableIn (off := 61) (tgt := 76) hx hb dX7_person_15 (by rw [hk_32]; decide) (by rw [hk_32]; decide) (by rw [hk_32]; decide) (by decide) ?_
      refine lv_aload_n hx hb dX7_person_76 rfl (lv_at hl 0 rfl) ?_
      refine va_get (D := G.1) (ci := 7) (v := .ref n) (C := RX7) (T := TX7) (N := 11) hx hb hts hinX7 hown hKK.1 hP 0 rfl rfl 3 (by decide) kl29 (fun _ h9 => h9) rfl dX7_person_77 ?_
      refine va_get (D := G.1) (ci := 1) (v := .ref n2) (C := RX1) (T := TX1) (N := 10) hx hb hts hinX1 hown hKK.1 hP 8 rfl rfl 1 (by decide) kl135 (fun _ h9 => h9) rfl dX7_person_80 ?_
      refine lv_iload_n hx hb dX7_person_83 rfl (lv_at hl 1 rfl) ?_
      obtain ⟨hin, hv⟩ := hv
      refine va_iald hx hb hKK.1 hP 10 0 rfl rfl hin dX7_person_84 ?_
      exact x_iret (v := (wm x.toNatClampNeg)) () hQ hx hb hr hlocks hS dX7_person_85 hv hP hD
    replace hv := hv.2
    by_cases hk_33 : v = 3
    · have hv := hv.1 hk_33
      refine lv_tableIn (off := 71) (tgt := 86) hx hb dX7_person_15 (by rw [hk_33]; decide) (by rw [hk_33]; decide) (by rw [hk_33]; decide) (by decide) ?_
      refine lv_aload_n hx hb dX7_person_86 rfl (lv_at hl 0 rfl) ?_
      refine va_get (D := G.1) (ci := 7) (v := .ref n) (C := RX7) (T := TX7) (N := 11) hx hb hts hinX7 hown hKK.1 hP 0 rfl rfl 3 (by decide) kl29 (fun _ h9 => h9) rfl dX7_person_87 ?_
      refine va_get (D := G.1) (ci := 1) (v := .ref n3) (C := RX1) (T := TX1) (N := 10) hx hb hts hinX1 hown hKK.1 hP 8 rfl rfl 2 (by decide) kl163 (fun _ h9 => h9) rfl dX7_person_90 ?_
      refine lv_iload_n hx hb dX7_person_93 rfl (lv_at hl 1 rfl) ?_
      obtain ⟨hin, hv⟩ := hv
      refine va_iald hx hb hKK.1 hP 11 0 rfl rfl hin dX7_person_94 ?_
      exact x_iret (v := (se x.toNatClampNeg)) () hQ hx hb hr hlocks hS dX7_person_95 hv hP hD
    replace hv := hv.2
    by_cases hk_34 : v = 4
    · have hv := hv.1 hk_34
      refine lv_tableIn (off := 81) (tgt := 96) hx hb dX7_person_15 (by rw [hk_34]; decide) (by rw [hk_34]; decide) (by rw [hk_34]; decide) (by decide) ?_
      refine lv_aload_n hx hb dX7_person_96 rfl (lv_at hl 0 rfl) ?_
      refine va_get (D := G.1) (ci := 7) (v := .ref n) (C := RX7) (T := TX7) (N := 11) hx hb hts hinX7 hown hKK.1 hP 0 rfl rfl 3 (by decide) kl29 (fun _ h9 => h9) rfl dX7_person_97 ?_
      refine va_get (D := G.1) (ci := 1) (v := .ref n4) (C := RX1) (T := TX1) (N := 10) hx hb hts hinX1 hown hKK.1 hP 8 rfl rfl 3 (by decide) kl124 (fun _ h9 => h9) rfl dX7_person_100 ?_
      refine lv_iload_n hx hb dX7_person_103 rfl (lv_at hl 1 rfl) ?_
      obtain ⟨hin, hv⟩ := hv
      refine va_iald hx hb hKK.1 hP 12 0 rfl rfl hin dX7_person_104 ?_
      exact x_iret (v := (cd x.toNatClampNeg)) () hQ hx hb hr hlocks hS dX7_person_105 hv hP hD
    replace hv := hv.2
    by_cases hk_35 : v = 5
    · have hv := hv.1 hk_35
      refine lv_tableIn (off := 91) (tgt := 106) hx hb dX7_person_15 (by rw [hk_35]; decide) (by rw [hk_35]; decide) (by rw [hk_35]; decide) (by decide) ?_
      refine lv_aload_n hx hb dX7_person_106 rfl (lv_at hl 0 rfl) ?_
      refine va_get (D := G.1) (ci := 7) (v := .ref n) (C := RX7) (T := TX7) (N := 11) hx hb hts hinX7 hown hKK.1 hP 0 rfl rfl 3 (by decide) kl29 (fun _ h9 => h9) rfl dX7_person_107 ?_
      refine va_get (D := G.1) (ci := 1) (v := .ref n5) (C := RX1) (T := TX1) (N := 10) hx hb hts hinX1 hown hKK.1 hP 8 rfl rfl 4 (by decide) kl166 (fun _ h9 => h9) rfl dX7_person_110 ?_
      refine lv_iload_n hx hb dX7_person_113 rfl (lv_at hl 1 rfl) ?_
      obtain ⟨hin, hv⟩ := hv
      refine va_iald hx hb hKK.1 hP 13 0 rfl rfl hin dX7_person_114 ?_
      exact x_iret (v := (sl x.toNatClampNeg)) () hQ hx hb hr hlocks hS dX7_person_115 hv hP hD
    replace hv := hv.2
    by_cases hk_36 : v = 6
    · have hv := hv.1 hk_36
      refine lv_tableIn (off := 101) (tgt := 116) hx hb dX7_person_15 (by rw [hk_36]; decide) (by rw [hk_36]; decide) (by rw [hk_36]; decide) (by decide) ?_
      refine lv_aload_n hx hb dX7_person_116 rfl (lv_at hl 0 rfl) ?_
      refine va_get (D := G.1) (ci := 7) (v := .ref n) (C := RX7) (T := TX7) (N := 11) hx hb hts hinX7 hown hKK.1 hP 0 rfl rfl 3 (by decide) kl29 (fun _ h9 => h9) rfl dX7_person_117 ?_
      refine va_get (D := G.1) (ci := 1) (v := .ref n6) (C := RX1) (T := TX1) (N := 10) hx hb hts hinX1 hown hKK.1 hP 8 rfl rfl 5 (by decide) kl169 (fun _ h9 => h9) rfl dX7_person_120 ?_
      refine lv_iload_n hx hb dX7_person_123 rfl (lv_at hl 1 rfl) ?_
      obtain ⟨hin, hv⟩ := hv
      refine va_iald hx hb hKK.1 hP 14 0 rfl rfl hin dX7_person_124 ?_
      exact x_iret (v := (od x.toNatClampNeg)) () hQ hx hb hr hlocks hS dX7_person_125 hv hP hD
    replace hv := hv.2
    have hv := hv ⟨hk_30, hk_31, hk_32, hk_33, hk_34, hk_35, hk_36⟩
    refine lv_tableOut (tgt := 126) hx hb dX7_person_15 (ts_out 6 (by decide) (ts_ne_all 6 ⟨⟨⟨⟨⟨⟨hk_30, hk_31⟩, hk_32⟩, hk_33⟩, hk_34⟩, hk_35⟩, hk_36⟩)) (by decide) ?_
    refine lv_ldc (v := (-1000000002)) hx hb hown kl72 dX7_person_126 ?_
    exact x_iret (v := (-1000000002)) () hQ hx hb hr hlocks hS dX7_person_128 hv hP hD
  · have hv := hv.2 (tv_eq.mp hc_2)
    refine lv_ldc (v := (-1000000001)) hx hb hown kl143 dX7_person_11 ?_
    exact x_iret (v := (-1000000001)) () hQ hx hb hr hlocks hS dX7_person_13 hv hP hD
theorem k_X7_person (l : Launch) (G : Gt) (h0 t t1 t2 t3 t4 t5 t6 n n1 n2 n3 n4 n5 n6 n7 : Nat) (sz : Nat) (e0 : Nat) (k : Nat) (j : Nat) (i0 : Nat) (b0 : Nat) (s0 : Nat) (q : Nat) (g : Nat) (kp : Int32) (ns : Int32) (np : Int32) (fu : Int32) (fd : Int32) (fi : Int32) (sz_ : Nat → Int32) (pt : Nat → Int32) (fh : Nat → Int32) (kd : Nat → Int32) (nd : Nat → Int32) (fw : Nat → Int32) (ht : Nat → Int32) (wm : Nat → Int32) (se : Nat → Int32) (cd : Nat → Int32) (sl : Nat → Int32) (od : Nat → Int32) (ow : Nat → Int32) (lo : Int32) (mi : Int32) (sd : Int32) (x : Int32) (v : Int32) (hp : True) : MetI l yX7_person wsX7_person 1 21 G [.ref h0, .int x, .int v] [(h0, .inr (7, [.ref e0, .ref t, .ref k, .ref n, .ref j, .ref i0, .int kp, .ref b0, .ref s0, .ref q, .ref g])), (t, .inr (6, [.int ns, .int np, .int fu, .int fd, .int fi, .ref t1, .ref t2, .ref t3, .ref t4, .ref t5, .ref t6])), aI G t1 9 sz_, aI G t2 9 pt, aI G t3 9 fh, aI G t4 8 kd, aI G t5 8 nd, aI G t6 8 fw, (n, .inr (1, [.ref n1, .ref n2, .ref n3, .ref n4, .ref n5, .ref n6, .ref n7, .int lo, .int mi, .int sd])), aI G n1 9 ht, aI G n2 8 wm, aI G n3 8 se, aI G n4 8 cd, aI G n5 8 sl, aI G n6 8 od, aI G n7 72 ow] sz (fun (r : Int32) (_ : Unit) => True) (fun (_ : Unit) => [(h0, .inr (7, [.ref e0, .ref t, .ref k, .ref n, .ref j, .ref i0, .int kp, .ref b0, .ref s0, .ref q, .ref g])), (t, .inr (6, [.int ns, .int np, .int fu, .int fd, .int fi, .ref t1, .ref t2, .ref t3, .ref t4, .ref t5, .ref t6])), aI G t1 9 sz_, aI G t2 9 pt, aI G t3 9 fh, aI G t4 8 kd, aI G t5 8 nd, aI G t6 8 fw, (n, .inr (1, [.ref n1, .ref n2, .ref n3, .ref n4, .ref n5, .ref n6, .ref n7, .int lo, .int mi, .int sd])), aI G n1 9 ht, aI G n2 8 wm, aI G n3 8 se, aI G n4 8 cd, aI G n5 8 sl, aI G n6 8 od, aI G n7 72 ow]) :=
  c_X7_person l G h0 t t1 t2 t3 t4 t5 t6 n n1 n2 n3 n4 n5 n6 n7 sz e0 k j i0 b0 s0 q g kp ns np fu fd fi sz_ pt fh kd nd fw ht wm se cd sl od ow lo mi sd x v (by
    sorry)

set_option maxHeartbeats 4000000 in
set_option maxRecDepth 100000 in
theorem c_X7_owned (l : Launch) (G : Gt) (h0 t t1 t2 t3 t4 t5 t6 n n1 n2 n3 n4 n5 n6 n7 : Nat) (sz : Nat) (e0 : Nat) (k : Nat) (j : Nat) (i0 : Nat) (b0 : Nat) (s0 : Nat) (q : Nat) (g : Nat) (kp : Int32) (ns : Int32) (np : Int32) (fu : Int32) (fd : Int32) (fi : Int32) (sz_ : Nat → Int32) (pt : Nat → Int32) (fh : Nat → Int32) (kd : Nat → Int32) (nd : Nat → Int32) (fw : Nat → Int32) (ht : Nat → Int32) (wm : Nat → Int32) (se : Nat → Int32) (cd : Nat → Int32) (sl : Nat → Int32) (od : Nat → Int32) (ow : Nat → Int32) (lo : Int32) (mi : Int32) (sd : Int32) (x : Int32) (v : Int32) (hv : (¬ (¬ x < 0 ∧ ¬ np ≤ x) → True) ∧ (¬ x < 0 ∧ ¬ np ≤ x → (¬ v < 0 ∧ ¬ ns ≤ v → (vp_in (x * 9 + v) 72) ∧ (True)) ∧ (¬ (¬ v < 0 ∧ ¬ ns ≤ v) → True))) : MetI l yX7_owned wsX7_owned 1 21 G [.ref h0, .int x, .int v] [(h0, .inr (7, [.ref e0, .ref t, .ref k, .ref n, .ref j, .ref i0, .int kp, .ref b0, .ref s0, .ref q, .ref g])), (t, .inr (6, [.int ns, .int np, .int fu, .int fd, .int fi, .ref t1, .ref t2, .ref t3, .ref t4, .ref t5, .ref t6])), aI G t1 9 sz_, aI G t2 9 pt, aI G t3 9 fh, aI G t4 8 kd, aI G t5 8 nd, aI G t6 8 fw, (n, .inr (1, [.ref n1, .ref n2, .ref n3, .ref n4, .ref n5, .ref n6, .ref n7, .int lo, .int mi, .int sd])), aI G n1 9 ht, aI G n2 8 wm, aI G n3 8 se, aI G n4 8 cd, aI G n5 8 sl, aI G n6 8 od, aI G n7 72 ow] sz (fun (r : Int32) (_ : Unit) => True) (fun (_ : Unit) => [(h0, .inr (7, [.ref e0, .ref t, .ref k, .ref n, .ref j, .ref i0, .int kp, .ref b0, .ref s0, .ref q, .ref g])), (t, .inr (6, [.int ns, .int np, .int fu, .int fd, .int fi, .ref t1, .ref t2, .ref t3, .ref t4, .ref t5, .ref t6])), aI G t1 9 sz_, aI G t2 9 pt, aI G t3 9 fh, aI G t4 8 kd, aI G t5 8 nd, aI G t6 8 fw, (n, .inr (1, [.ref n1, .ref n2, .ref n3, .ref n4, .ref n5, .ref n6, .ref n7, .int lo, .int mi, .int sd])), aI G n1 9 ht, aI G n2 8 wm, aI G n3 8 se, aI G n4 8 cd, aI G n5 8 sl, aI G n6 8 od, aI G n7 72 ow]) := by
  refine x_startI (cc := cX7_owned) (maxL := 3) (ret := (some .int)) (by decide) rfl (Nat.le_of_ble_eq_true rfl) ?_
  intro p e s m args below meth c A R Q ls hRf hRl hQ C hP hD hS hA hSS hl
  obtain ⟨hx, hb, hr, hml, hown, hts, hlocks, hKK⟩ := C
  have hown : s.vm.findClass RX7 = some m.cls := hown
  have hl : lv_has ls 3 [(0, .ref h0), (1, .int x), (2, .int v)] := hl
  have hinX1 : ∀ w ∈ u_ws RX1 TX1 10, w ∈ wsX7_owned := by decide +kernel
  have hinX7 : ∀ w ∈ u_ws RX7 TX7 11, w ∈ wsX7_owned := by decide +kernel
  have kl143 := hts (.constant RX7 143 (-1000000001)) (by decide +kernel)
  have kl172 := hts (.fieldLink RX7 172 "WarmStones$Night" "owned" "[I") (by decide +kernel)
  have kl19 := hts (.fieldLink RX7 19 "WarmStones" "town" "LWarmStones$Town;") (by decide +kernel)
  have kl29 := hts (.fieldLink RX7 29 "WarmStones" "night" "LWarmStones$Night;") (by decide +kernel)
  refine lv_aload_n hx hb dX7_owned_0 rfl (lv_at hl 0 rfl) ?_
  refine va_get (D := G.1) (ci := 7) (v := .ref t) (C := RX7) (T := TX7) (N := 11) hx hb hts hinX7 hown hKK.1 hP 0 rfl rfl 1 (by decide) kl19 (fun _ h9 => h9) rfl dX7_owned_1 ?_
  refine lv_iload_n hx hb dX7_owned_4 rfl (lv_at hl 1 rfl) ?_
  refine x_calliR (x_runV (As := [.int x]) (rest := []) (n := 1) (C := RX6) (ci := 6) ⟨hx, hb, hml, hown, hts⟩ (k_X6_hasPerson l G t t1 t2 t3 t4 t5 t6 _ ns np fu fd fi sz_ pt fh kd nd fw x) gX7_owned_X6_hasPerson rfl (by decide +kernel) ⟨Nat.le_trans (Nat.le_of_ble_eq_true rfl) hRf, Nat.le_trans (Nat.le_of_ble_eq_true rfl) hRl⟩ hKK hSS hS hA hP hD [1, 2, 3, 4, 5, 6, 7] (by decide) rfl rfl rfl 1 rfl rfl hl.1 rfl (Nat.le_of_ble_eq_true rfl) dX7_owned_5) hP hD hS hA [1, 2, 3, 4, 5, 6, 7] rfl (fun r_1 _ H locs hw hP hS => ?_)
  replace hw := hw.symm; subst hw
  refine lv_if_eq (tgt := 22) hx hb dX7_owned_8 (by decide) (fun hc_2 => ?_) (fun hc_2 => ?_)
  · have hv := hv.1 (tv_eq.mp hc_2)
    refine lv_ldc (v := (-1000000001)) hx hb hown kl143 dX7_owned_22 ?_
    exact x_iret (v := (-1000000001)) () hQ hx hb hr hlocks hS dX7_owned_24 hv hP hD
  · have hv := hv.2 (tv_eqn.mp hc_2)
    refine lv_aload_n hx hb dX7_owned_11 rfl (lv_at hl 0 rfl) ?_
    refine va_get (D := G.1) (ci := 7) (v := .ref t) (C := RX7) (T := TX7) (N := 11) hx hb hts hinX7 hown hKK.1 hP 0 rfl rfl 1 (by decide) kl19 (fun _ h9 => h9) rfl dX7_owned_12 ?_
    refine lv_iload_n hx hb dX7_owned_15 rfl (lv_at hl 2 rfl) ?_
    refine x_calliR (x_runV (As := [.int v]) (rest := []) (n := 1) (C := RX6) (ci := 6) ⟨hx, hb, hml, hown, hts⟩ (k_X6_hasStone l G t t1 t2 t3 t4 t5 t6 _ ns np fu fd fi sz_ pt fh kd nd fw v) gX7_owned_X6_hasStone rfl (by decide +kernel) ⟨Nat.le_trans (Nat.le_of_ble_eq_true rfl) hRf, Nat.le_trans (Nat.le_of_ble_eq_true rfl) hRl⟩ hKK hSS hS hA hP hD [1, 2, 3, 4, 5, 6, 7] (by decide) rfl rfl rfl 1 rfl rfl hl.1 rfl (Nat.le_of_ble_eq_true rfl) dX7_owned_16) hP hD hS hA [1, 2, 3, 4, 5, 6, 7] rfl (fun r_3 _ H locs hw hP hS => ?_)
    replace hw := hw.symm; subst hw
    refine lv_if_ne (tgt := 25) hx hb dX7_owned_19 (by decide) (fun hc_4 => ?_) (fun hc_4 => ?_)
    · have hv := hv.1 (tv_eqn.mp hc_4)
      refine lv_aload_n hx hb dX7_owned_25 rfl (lv_at hl 0 rfl) ?_
      refine va_get (D := G.1) (ci := 7) (v := .ref n) (C := RX7) (T := TX7) (N := 11) hx hb hts hinX7 hown hKK.1 hP 0 rfl rfl 3 (by decide) kl29 (fun _ h9 => h9) rfl dX7_owned_26 ?_
      refine va_get (D := G.1) (ci := 1) (v := .ref n7) (C := RX1) (T := TX1) (N := 10) hx hb hts hinX1 hown hKK.1 hP 8 rfl rfl 6 (by decide) kl172 (fun _ h9 => h9) rfl dX7_owned_29 ?_
      refine lv_iload_n hx hb dX7_owned_32 rfl (lv_at hl 1 rfl) ?_
      refine lv_iload_n hx hb dX7_owned_33 rfl (lv_at hl 2 rfl) ?_
      refine x_calliR (x_runS (As := [.int x, .int v]) (rest := [.ref n7]) (n := 2) ⟨hx, hb, hml, hown, hts⟩ (k_X7_ownedAt l G  _ x v) gX7_owned_X7_ownedAt rfl (by decide +kernel) ⟨Nat.le_trans (Nat.le_of_ble_eq_true rfl) hRf, Nat.le_trans (Nat.le_of_ble_eq_true rfl) hRl⟩ hKK hSS hS hA hP hD [] (by decide) rfl rfl hl.1 rfl (Nat.le_of_ble_eq_true rfl) dX7_owned_34) hP hD hS hA [] rfl (fun r_5 _ H locs hw hP hS => ?_)
      replace hw := hw.symm; subst hw
      obtain ⟨hin, hv⟩ := hv
      refine va_iald hx hb hKK.1 hP 15 0 rfl rfl hin dX7_owned_37 ?_
      exact x_iret (v := (ow (x * 9 + v).toNatClampNeg)) () hQ hx hb hr hlocks hS dX7_owned_38 hv hP hD
    · have hv := hv.2 (tv_eq.mp hc_4)
      refine lv_ldc (v := (-1000000001)) hx hb hown kl143 dX7_owned_22 ?_
      exact x_iret (v := (-1000000001)) () hQ hx hb hr hlocks hS dX7_owned_24 hv hP hD
theorem k_X7_owned (l : Launch) (G : Gt) (h0 t t1 t2 t3 t4 t5 t6 n n1 n2 n3 n4 n5 n6 n7 : Nat) (sz : Nat) (e0 : Nat) (k : Nat) (j : Nat) (i0 : Nat) (b0 : Nat) (s0 : Nat) (q : Nat) (g : Nat) (kp : Int32) (ns : Int32) (np : Int32) (fu : Int32) (fd : Int32) (fi : Int32) (sz_ : Nat → Int32) (pt : Nat → Int32) (fh : Nat → Int32) (kd : Nat → Int32) (nd : Nat → Int32) (fw : Nat → Int32) (ht : Nat → Int32) (wm : Nat → Int32) (se : Nat → Int32) (cd : Nat → Int32) (sl : Nat → Int32) (od : Nat → Int32) (ow : Nat → Int32) (lo : Int32) (mi : Int32) (sd : Int32) (x : Int32) (v : Int32) (hp : True) : MetI l yX7_owned wsX7_owned 1 21 G [.ref h0, .int x, .int v] [(h0, .inr (7, [.ref e0, .ref t, .ref k, .ref n, .ref j, .ref i0, .int kp, .ref b0, .ref s0, .ref q, .ref g])), (t, .inr (6, [.int ns, .int np, .int fu, .int fd, .int fi, .ref t1, .ref t2, .ref t3, .ref t4, .ref t5, .ref t6])), aI G t1 9 sz_, aI G t2 9 pt, aI G t3 9 fh, aI G t4 8 kd, aI G t5 8 nd, aI G t6 8 fw, (n, .inr (1, [.ref n1, .ref n2, .ref n3, .ref n4, .ref n5, .ref n6, .ref n7, .int lo, .int mi, .int sd])), aI G n1 9 ht, aI G n2 8 wm, aI G n3 8 se, aI G n4 8 cd, aI G n5 8 sl, aI G n6 8 od, aI G n7 72 ow] sz (fun (r : Int32) (_ : Unit) => True) (fun (_ : Unit) => [(h0, .inr (7, [.ref e0, .ref t, .ref k, .ref n, .ref j, .ref i0, .int kp, .ref b0, .ref s0, .ref q, .ref g])), (t, .inr (6, [.int ns, .int np, .int fu, .int fd, .int fi, .ref t1, .ref t2, .ref t3, .ref t4, .ref t5, .ref t6])), aI G t1 9 sz_, aI G t2 9 pt, aI G t3 9 fh, aI G t4 8 kd, aI G t5 8 nd, aI G t6 8 fw, (n, .inr (1, [.ref n1, .ref n2, .ref n3, .ref n4, .ref n5, .ref n6, .ref n7, .int lo, .int mi, .int sd])), aI G n1 9 ht, aI G n2 8 wm, aI G n3 8 se, aI G n4 8 cd, aI G n5 8 sl, aI G n6 8 od, aI G n7 72 ow]) :=
  c_X7_owned l G h0 t t1 t2 t3 t4 t5 t6 n n1 n2 n3 n4 n5 n6 n7 sz e0 k j i0 b0 s0 q g kp ns np fu fd fi sz_ pt fh kd nd fw ht wm se cd sl od ow lo mi sd x v (by
    sorry)

set_option maxHeartbeats 4000000 in
set_option maxRecDepth 100000 in
theorem c_X7_sit (l : Launch) (G : Gt) (h0 t t1 t2 t3 t4 t5 t6 n n1 n2 n3 n4 n5 n6 n7 : Nat) (sz : Nat) (e0 : Nat) (k : Nat) (j : Nat) (i0 : Nat) (b0 : Nat) (s0 : Nat) (q : Nat) (g : Nat) (kp : Int32) (ns : Int32) (np : Int32) (fu : Int32) (fd : Int32) (fi : Int32) (sz_ : Nat → Int32) (pt : Nat → Int32) (fh : Nat → Int32) (kd : Nat → Int32) (nd : Nat → Int32) (fw : Nat → Int32) (ht : Nat → Int32) (wm : Nat → Int32) (se : Nat → Int32) (cd : Nat → Int32) (sl : Nat → Int32) (od : Nat → Int32) (ow : Nat → Int32) (lo : Int32) (mi : Int32) (sd : Int32) (x : Int32) (v : Int32) (hv : (¬ (¬ x < 0 ∧ ¬ np ≤ x) → True) ∧ (¬ x < 0 ∧ ¬ np ≤ x → (v = (-1) → (vp_in x 8) ∧ ((v = (-1) → (vp_in x 8) ∧ (True)) ∧ (¬ (v = (-1)) → (v = (se x.toNatClampNeg) → (vp_in x 8) ∧ (True)) ∧ (¬ (v = (se x.toNatClampNeg)) → ∀ (r_6 : Int32), (True) → ((r_6 = (-1) → (vp_in x 8) ∧ (True)) ∧ (¬ (r_6 = (-1)) → True)))))) ∧ (¬ (v = (-1)) → (¬ v < 0 ∧ ¬ ns ≤ v → (vp_in x 8) ∧ ((v = (-1) → (vp_in x 8) ∧ (True)) ∧ (¬ (v = (-1)) → (v = (se x.toNatClampNeg) → (vp_in x 8) ∧ (True)) ∧ (¬ (v = (se x.toNatClampNeg)) → ∀ (r_12 : Int32), (True) → ((r_12 = (-1) → (vp_in x 8) ∧ (True)) ∧ (¬ (r_12 = (-1)) → True)))))) ∧ (¬ (¬ v < 0 ∧ ¬ ns ≤ v) → True)))) : MetI l yX7_sit wsX7_sit 1 22 G [.ref h0, .int x, .int v] [(h0, .inr (7, [.ref e0, .ref t, .ref k, .ref n, .ref j, .ref i0, .int kp, .ref b0, .ref s0, .ref q, .ref g])), (t, .inr (6, [.int ns, .int np, .int fu, .int fd, .int fi, .ref t1, .ref t2, .ref t3, .ref t4, .ref t5, .ref t6])), aI G t1 9 sz_, aI G t2 9 pt, aI G t3 9 fh, aI G t4 8 kd, aI G t5 8 nd, aI G t6 8 fw, (n, .inr (1, [.ref n1, .ref n2, .ref n3, .ref n4, .ref n5, .ref n6, .ref n7, .int lo, .int mi, .int sd])), aI G n1 9 ht, aI G n2 8 wm, aI G n3 8 se, aI G n4 8 cd, aI G n5 8 sl, aI G n6 8 od, aI G n7 72 ow] sz (fun (r : Int32) (u : (Nat → Int32)) => True) (fun (u : (Nat → Int32)) => [(h0, .inr (7, [.ref e0, .ref t, .ref k, .ref n, .ref j, .ref i0, .int kp, .ref b0, .ref s0, .ref q, .ref g])), (t, .inr (6, [.int ns, .int np, .int fu, .int fd, .int fi, .ref t1, .ref t2, .ref t3, .ref t4, .ref t5, .ref t6])), aI G t1 9 sz_, aI G t2 9 pt, aI G t3 9 fh, aI G t4 8 kd, aI G t5 8 nd, aI G t6 8 fw, (n, .inr (1, [.ref n1, .ref n2, .ref n3, .ref n4, .ref n5, .ref n6, .ref n7, .int lo, .int mi, .int sd])), aI G n1 9 ht, aI G n2 8 wm, aI G n3 8 u, aI G n4 8 cd, aI G n5 8 sl, aI G n6 8 od, aI G n7 72 ow]) := by
  refine x_startI (cc := cX7_sit) (maxL := 4) (ret := (some .int)) (by decide) rfl (Nat.le_of_ble_eq_true rfl) ?_
  intro p e s m args below meth c A R Q ls hRf hRl hQ C hP hD hS hA hSS hl
  obtain ⟨hx, hb, hr, hml, hown, hts, hlocks, hKK⟩ := C
  have hown : s.vm.findClass RX7 = some m.cls := hown
  have hl : lv_has ls 4 [(0, .ref h0), (1, .int x), (2, .int v)] := hl
  have hinX1 : ∀ w ∈ u_ws RX1 TX1 10, w ∈ wsX7_sit := by decide +kernel
  have hinX7 : ∀ w ∈ u_ws RX7 TX7 11, w ∈ wsX7_sit := by decide +kernel
  have kl143 := hts (.constant RX7 143 (-1000000001)) (by decide +kernel)
  have kl163 := hts (.fieldLink RX7 163 "WarmStones$Night" "seat" "[I") (by decide +kernel)
  have kl179 := hts (.constant RX7 179 (-1000000003)) (by decide +kernel)
  have kl19 := hts (.fieldLink RX7 19 "WarmStones" "town" "LWarmStones$Town;") (by decide +kernel)
  have kl29 := hts (.fieldLink RX7 29 "WarmStones" "night" "LWarmStones$Night;") (by decide +kernel)
  refine lv_aload_n hx hb dX7_sit_0 rfl (lv_at hl 0 rfl) ?_
  refine va_get (D := G.1) (ci := 7) (v := .ref t) (C := RX7) (T := TX7) (N := 11) hx hb hts hinX7 hown hKK.1 hP 0 rfl rfl 1 (by decide) kl19 (fun _ h9 => h9) rfl dX7_sit_1 ?_
  refine lv_iload_n hx hb dX7_sit_4 rfl (lv_at hl 1 rfl) ?_
  refine x_calliR (x_runV (As := [.int x]) (rest := []) (n := 1) (C := RX6) (ci := 6) ⟨hx, hb, hml, hown, hts⟩ (k_X6_hasPerson l G t t1 t2 t3 t4 t5 t6 _ ns np fu fd fi sz_ pt fh kd nd fw x) gX7_sit_X6_hasPerson rfl (by decide +kernel) ⟨Nat.le_trans (Nat.le_of_ble_eq_true rfl) hRf, Nat.le_trans (Nat.le_of_ble_eq_true rfl) hRl⟩ hKK hSS hS hA hP hD [1, 2, 3, 4, 5, 6, 7] (by decide) rfl rfl rfl 1 rfl rfl hl.1 rfl (Nat.le_of_ble_eq_true rfl) dX7_sit_5) hP hD hS hA [1, 2, 3, 4, 5, 6, 7] rfl (fun r_1 _ H locs hw hP hS => ?_)
  replace hw := hw.symm; subst hw
  refine lv_if_eq (tgt := 27) hx hb dX7_sit_8 (by decide) (fun hc_2 => ?_) (fun hc_2 => ?_)
  · have hv := hv.1 (tv_eq.mp hc_2)
    refine lv_ldc (v := (-1000000001)) hx hb hown kl143 dX7_sit_27 ?_
    exact x_iret (v := (-1000000001)) se hQ hx hb hr hlocks hS dX7_sit_29 hv hP hD
  · have hv := hv.2 (tv_eqn.mp hc_2)
    refine lv_iload_n hx hb dX7_sit_11 rfl (lv_at hl 2 rfl) ?_
    refine lv_iconst (v := (-1)) hx hb dX7_sit_12 (by decide) ?_
    refine lv_icmp_eq (tgt := 30) hx hb dX7_sit_13 (by decide) (fun hc_3 => ?_) (fun hc_3 => ?_)
    · have hv := hv.1 hc_3
      refine lv_aload_n hx hb dX7_sit_30 rfl (lv_at hl 0 rfl) ?_
      refine va_get (D := G.1) (ci := 7) (v := .ref n) (C := RX7) (T := TX7) (N := 11) hx hb hts hinX7 hown hKK.1 hP 0 rfl rfl 3 (by decide) kl29 (fun _ h9 => h9) rfl dX7_sit_31 ?_
      refine va_get (D := G.1) (ci := 1) (v := .ref n3) (C := RX1) (T := TX1) (N := 10) hx hb hts hinX1 hown hKK.1 hP 8 rfl rfl 2 (by decide) kl163 (fun _ h9 => h9) rfl dX7_sit_34 ?_
      refine lv_iload_n hx hb dX7_sit_37 rfl (lv_at hl 1 rfl) ?_
      obtain ⟨hin, hv⟩ := hv
      refine va_iald hx hb hKK.1 hP 11 0 rfl rfl hin dX7_sit_38 ?_
      refine lv_istore_n (lv' := [(3, .int (se x.toNatClampNeg)), (0, .ref h0), (1, .int x), (2, .int v)]) hx hb dX7_sit_39 rfl hl (by decide) rfl (fun ls hl => ?_)
      refine lv_iload_n hx hb dX7_sit_40 rfl (lv_at hl 3 rfl) ?_
      refine lv_iconst (v := (-1)) hx hb dX7_sit_41 (by decide) ?_
      refine lv_icmp_eq (tgt := 65) hx hb dX7_sit_42 (by decide) (fun hc_4 => ?_) (fun hc_4 => ?_)
      · have hv := hv.1 hc_4
        refine lv_aload_n hx hb dX7_sit_65 rfl (lv_at hl 1 rfl) ?_
        refine va_get (D := G.1) (ci := 7) (v := .ref n) (C := RX7) (T := TX7) (N := 11) hx hb hts hinX7 hown hKK.1 hP 0 rfl rfl 3 (by decide) kl29 (fun _ h9 => h9) rfl dX7_sit_66 ?_
        refine va_get (D := G.1) (ci := 1) (v := .ref n3) (C := RX1) (T := TX1) (N := 10) hx hb hts hinX1 hown hKK.1 hP 8 rfl rfl 2 (by decide) kl163 (fun _ h9 => h9) rfl dX7_sit_69 ?_
        refine lv_iload_n hx hb dX7_sit_72 rfl (lv_at hl 2 rfl) ?_
        refine lv_iload_n hx hb dX7_sit_73 rfl (lv_at hl 3 rfl) ?_
        obtain ⟨hin, hv⟩ := hv
        refine va_iast hx hb hKK.1 hP hD hS 11 0 rfl rfl hin dX7_sit_74 (fun H locs hP hD hS => ?_)
        have hP : va_P G.1 vwCl [(h0, .inr (7, [.ref e0, .ref t, .ref k, .ref n, .ref j, .ref i0, .int kp, .ref b0, .ref s0, .ref q, .ref g])), (t, .inr (6, [.int ns, .int np, .int fu, .int fd, .int fi, .ref t1, .ref t2, .ref t3, .ref t4, .ref t5, .ref t6])), aI G t1 9 sz_, aI G t2 9 pt, aI G t3 9 fh, aI G t4 8 kd, aI G t5 8 nd, aI G t6 8 fw, (n, .inr (1, [.ref n1, .ref n2, .ref n3, .ref n4, .ref n5, .ref n6, .ref n7, .int lo, .int mi, .int sd])), aI G n1 9 ht, aI G n2 8 wm, aI G n3 8 (upd se x.toNatClampNeg v), aI G n4 8 cd, aI G n5 8 sl, aI G n6 8 od, aI G n7 72 ow] H := hP
        have hD : va_D A [(h0, .inr (7, [.ref e0, .ref t, .ref k, .ref n, .ref j, .ref i0, .int kp, .ref b0, .ref s0, .ref q, .ref g])), (t, .inr (6, [.int ns, .int np, .int fu, .int fd, .int fi, .ref t1, .ref t2, .ref t3, .ref t4, .ref t5, .ref t6])), aI G t1 9 sz_, aI G t2 9 pt, aI G t3 9 fh, aI G t4 8 kd, aI G t5 8 nd, aI G t6 8 fw, (n, .inr (1, [.ref n1, .ref n2, .ref n3, .ref n4, .ref n5, .ref n6, .ref n7, .int lo, .int mi, .int sd])), aI G n1 9 ht, aI G n2 8 wm, aI G n3 8 (upd se x.toNatClampNeg v), aI G n4 8 cd, aI G n5 8 sl, aI G n6 8 od, aI G n7 72 ow] := hD
        refine lv_iload_n hx hb dX7_sit_75 rfl (lv_at hl 0 rfl) ?_
        exact x_iret (v := (se x.toNatClampNeg)) (upd se x.toNatClampNeg v) hQ hx hb hr hlocks hS dX7_sit_76 hv hP hD
      · have hv := hv.2 hc_4
        refine lv_iload_n hx hb dX7_sit_45 rfl (lv_at hl 3 rfl) ?_
        refine lv_iload_n hx hb dX7_sit_46 rfl (lv_at hl 0 rfl) ?_
        refine lv_icmp_eq (tgt := 65) hx hb dX7_sit_47 (by decide) (fun hc_5 => ?_) (fun hc_5 => ?_)
        · have hv := hv.1 hc_5
          refine lv_aload_n hx hb dX7_sit_65 rfl (lv_at hl 1 rfl) ?_
          refine va_get (D := G.1) (ci := 7) (v := .ref n) (C := RX7) (T := TX7) (N := 11) hx hb hts hinX7 hown hKK.1 hP 0 rfl rfl 3 (by decide) kl29 (fun _ h9 => h9) rfl dX7_sit_66 ?_
          refine va_get (D := G.1) (ci := 1) (v := .ref n3) (C := RX1) (T := TX1) (N := 10) hx hb hts hinX1 hown hKK.1 hP 8 rfl rfl 2 (by decide) kl163 (fun _ h9 => h9) rfl dX7_sit_69 ?_
          refine lv_iload_n hx hb dX7_sit_72 rfl (lv_at hl 2 rfl) ?_
          refine lv_iload_n hx hb dX7_sit_73 rfl (lv_at hl 3 rfl) ?_
          obtain ⟨hin, hv⟩ := hv
          refine va_iast hx hb hKK.1 hP hD hS 11 0 rfl rfl hin dX7_sit_74 (fun H locs hP hD hS => ?_)
          have hP : va_P G.1 vwCl [(h0, .inr (7, [.ref e0, .ref t, .ref k, .ref n, .ref j, .ref i0, .int kp, .ref b0, .ref s0, .ref q, .ref g])), (t, .inr (6, [.int ns, .int np, .int fu, .int fd, .int fi, .ref t1, .ref t2, .ref t3, .ref t4, .ref t5, .ref t6])), aI G t1 9 sz_, aI G t2 9 pt, aI G t3 9 fh, aI G t4 8 kd, aI G t5 8 nd, aI G t6 8 fw, (n, .inr (1, [.ref n1, .ref n2, .ref n3, .ref n4, .ref n5, .ref n6, .ref n7, .int lo, .int mi, .int sd])), aI G n1 9 ht, aI G n2 8 wm, aI G n3 8 (upd se x.toNatClampNeg v), aI G n4 8 cd, aI G n5 8 sl, aI G n6 8 od, aI G n7 72 ow] H := hP
          have hD : va_D A [(h0, .inr (7, [.ref e0, .ref t, .ref k, .ref n, .ref j, .ref i0, .int kp, .ref b0, .ref s0, .ref q, .ref g])), (t, .inr (6, [.int ns, .int np, .int fu, .int fd, .int fi, .ref t1, .ref t2, .ref t3, .ref t4, .ref t5, .ref t6])), aI G t1 9 sz_, aI G t2 9 pt, aI G t3 9 fh, aI G t4 8 kd, aI G t5 8 nd, aI G t6 8 fw, (n, .inr (1, [.ref n1, .ref n2, .ref n3, .ref n4, .ref n5, .ref n6, .ref n7, .int lo, .int mi, .int sd])), aI G n1 9 ht, aI G n2 8 wm, aI G n3 8 (upd se x.toNatClampNeg v), aI G n4 8 cd, aI G n5 8 sl, aI G n6 8 od, aI G n7 72 ow] := hD
          refine lv_iload_n hx hb dX7_sit_75 rfl (lv_at hl 0 rfl) ?_
          exact x_iret (v := (se x.toNatClampNeg)) (upd se x.toNatClampNeg v) hQ hx hb hr hlocks hS dX7_sit_76 hv hP hD
        · have hv := hv.2 hc_5
          refine lv_aload_n hx hb dX7_sit_50 rfl (lv_at hl 1 rfl) ?_
          refine va_get (D := G.1) (ci := 7) (v := .ref n) (C := RX7) (T := TX7) (N := 11) hx hb hts hinX7 hown hKK.1 hP 0 rfl rfl 3 (by decide) kl29 (fun _ h9 => h9) rfl dX7_sit_51 ?_
          refine lv_iload_n hx hb dX7_sit_54 rfl (lv_at hl 3 rfl) ?_
          refine x_calliR (x_runV (As := [.int v]) (rest := []) (n := 1) (C := RX1) (ci := 1) ⟨hx, hb, hml, hown, hts⟩ (k_X1_sitterOn l G n n1 n2 n3 n4 n5 n6 n7 _ ht wm se cd sl od ow lo mi sd v) gX7_sit_X1_sitterOn rfl (by decide +kernel) ⟨Nat.le_trans (Nat.le_of_ble_eq_true rfl) hRf, Nat.le_trans (Nat.le_of_ble_eq_true rfl) hRl⟩ hKK hSS hS hA hP hD [8, 9, 10, 11, 12, 13, 14, 15] (by decide) rfl rfl rfl 8 rfl rfl hl.1 rfl (Nat.le_of_ble_eq_true rfl) dX7_sit_55) hP hD hS hA [8, 9, 10, 11, 12, 13, 14, 15] rfl (fun r_6 _ H locs hw hP hS => ?_)
          have hv := hv r_6 hw
          refine lv_iconst (v := (-1)) hx hb dX7_sit_58 (by decide) ?_
          refine lv_icmp_eq (tgt := 65) hx hb dX7_sit_59 (by decide) (fun hc_7 => ?_) (fun hc_7 => ?_)
          · have hv := hv.1 hc_7
            refine lv_aload_n hx hb dX7_sit_65 rfl (lv_at hl 1 rfl) ?_
            refine va_get (D := G.1) (ci := 7) (v := .ref n) (C := RX7) (T := TX7) (N := 11) hx hb hts hinX7 hown hKK.1 hP 0 rfl rfl 3 (by decide) kl29 (fun _ h9 => h9) rfl dX7_sit_66 ?_
            refine va_get (D := G.1) (ci := 1) (v := .ref n3) (C := RX1) (T := TX1) (N := 10) hx hb hts hinX1 hown hKK.1 hP 8 rfl rfl 2 (by decide) kl163 (fun _ h9 => h9) rfl dX7_sit_69 ?_
            refine lv_iload_n hx hb dX7_sit_72 rfl (lv_at hl 2 rfl) ?_
            refine lv_iload_n hx hb dX7_sit_73 rfl (lv_at hl 3 rfl) ?_
            obtain ⟨hin, hv⟩ := hv
            refine va_iast hx hb hKK.1 hP hD hS 11 0 rfl rfl hin dX7_sit_74 (fun H locs hP hD hS => ?_)
            have hP : va_P G.1 vwCl [(h0, .inr (7, [.ref e0, .ref t, .ref k, .ref n, .ref j, .ref i0, .int kp, .ref b0, .ref s0, .ref q, .ref g])), (t, .inr (6, [.int ns, .int np, .int fu, .int fd, .int fi, .ref t1, .ref t2, .ref t3, .ref t4, .ref t5, .ref t6])), aI G t1 9 sz_, aI G t2 9 pt, aI G t3 9 fh, aI G t4 8 kd, aI G t5 8 nd, aI G t6 8 fw, (n, .inr (1, [.ref n1, .ref n2, .ref n3, .ref n4, .ref n5, .ref n6, .ref n7, .int lo, .int mi, .int sd])), aI G n1 9 ht, aI G n2 8 wm, aI G n3 8 (upd se x.toNatClampNeg v), aI G n4 8 cd, aI G n5 8 sl, aI G n6 8 od, aI G n7 72 ow] H := hP
            have hD : va_D A [(h0, .inr (7, [.ref e0, .ref t, .ref k, .ref n, .ref j, .ref i0, .int kp, .ref b0, .ref s0, .ref q, .ref g])), (t, .inr (6, [.int ns, .int np, .int fu, .int fd, .int fi, .ref t1, .ref t2, .ref t3, .ref t4, .ref t5, .ref t6])), aI G t1 9 sz_, aI G t2 9 pt, aI G t3 9 fh, aI G t4 8 kd, aI G t5 8 nd, aI G t6 8 fw, (n, .inr (1, [.ref n1, .ref n2, .ref n3, .ref n4, .ref n5, .ref n6, .ref n7, .int lo, .int mi, .int sd])), aI G n1 9 ht, aI G n2 8 wm, aI G n3 8 (upd se x.toNatClampNeg v), aI G n4 8 cd, aI G n5 8 sl, aI G n6 8 od, aI G n7 72 ow] := hD
            refine lv_iload_n hx hb dX7_sit_75 rfl (lv_at hl 0 rfl) ?_
            exact x_iret (v := (se x.toNatClampNeg)) (upd se x.toNatClampNeg v) hQ hx hb hr hlocks hS dX7_sit_76 hv hP hD
          · have hv := hv.2 hc_7
            refine lv_ldc (v := (-1000000003)) hx hb hown kl179 dX7_sit_62 ?_
            exact x_iret (v := (-1000000003)) se hQ hx hb hr hlocks hS dX7_sit_64 hv hP hD
    · have hv := hv.2 hc_3
      refine lv_aload_n hx hb dX7_sit_16 rfl (lv_at hl 0 rfl) ?_
      refine va_get (D := G.1) (ci := 7) (v := .ref t) (C := RX7) (T := TX7) (N := 11) hx hb hts hinX7 hown hKK.1 hP 0 rfl rfl 1 (by decide) kl19 (fun _ h9 => h9) rfl dX7_sit_17 ?_
      refine lv_iload_n hx hb dX7_sit_20 rfl (lv_at hl 2 rfl) ?_
      refine x_calliR (x_runV (As := [.int v]) (rest := []) (n := 1) (C := RX6) (ci := 6) ⟨hx, hb, hml, hown, hts⟩ (k_X6_hasStone l G t t1 t2 t3 t4 t5 t6 _ ns np fu fd fi sz_ pt fh kd nd fw v) gX7_sit_X6_hasStone rfl (by decide +kernel) ⟨Nat.le_trans (Nat.le_of_ble_eq_true rfl) hRf, Nat.le_trans (Nat.le_of_ble_eq_true rfl) hRl⟩ hKK hSS hS hA hP hD [1, 2, 3, 4, 5, 6, 7] (by decide) rfl rfl rfl 1 rfl rfl hl.1 rfl (Nat.le_of_ble_eq_true rfl) dX7_sit_21) hP hD hS hA [1, 2, 3, 4, 5, 6, 7] rfl (fun r_8 _ H locs hw hP hS => ?_)
      replace hw := hw.symm; subst hw
      refine lv_if_ne (tgt := 30) hx hb dX7_sit_24 (by decide) (fun hc_9 => ?_) (fun hc_9 => ?_)
      · have hv := hv.1 (tv_eqn.mp hc_9)
        refine lv_aload_n hx hb dX7_sit_30 rfl (lv_at hl 0 rfl) ?_
        refine va_get (D := G.1) (ci := 7) (v := .ref n) (C := RX7) (T := TX7) (N := 11) hx hb hts hinX7 hown hKK.1 hP 0 rfl rfl 3 (by decide) kl29 (fun _ h9 => h9) rfl dX7_sit_31 ?_
        refine va_get (D := G.1) (ci := 1) (v := .ref n3) (C := RX1) (T := TX1) (N := 10) hx hb hts hinX1 hown hKK.1 hP 8 rfl rfl 2 (by decide) kl163 (fun _ h9 => h9) rfl dX7_sit_34 ?_
        refine lv_iload_n hx hb dX7_sit_37 rfl (lv_at hl 1 rfl) ?_
        obtain ⟨hin, hv⟩ := hv
        refine va_iald hx hb hKK.1 hP 11 0 rfl rfl hin dX7_sit_38 ?_
        refine lv_istore_n (lv' := [(3, .int (se x.toNatClampNeg)), (0, .ref h0), (1, .int x), (2, .int v)]) hx hb dX7_sit_39 rfl hl (by decide) rfl (fun ls hl => ?_)
        refine lv_iload_n hx hb dX7_sit_40 rfl (lv_at hl 3 rfl) ?_
        refine lv_iconst (v := (-1)) hx hb dX7_sit_41 (by decide) ?_
        refine lv_icmp_eq (tgt := 65) hx hb dX7_sit_42 (by decide) (fun hc_10 => ?_) (fun hc_10 => ?_)
        · have hv := hv.1 hc_10
          refine lv_aload_n hx hb dX7_sit_65 rfl (lv_at hl 1 rfl) ?_
          refine va_get (D := G.1) (ci := 7) (v := .ref n) (C := RX7) (T := TX7) (N := 11) hx hb hts hinX7 hown hKK.1 hP 0 rfl rfl 3 (by decide) kl29 (fun _ h9 => h9) rfl dX7_sit_66 ?_
          refine va_get (D := G.1) (ci := 1) (v := .ref n3) (C := RX1) (T := TX1) (N := 10) hx hb hts hinX1 hown hKK.1 hP 8 rfl rfl 2 (by decide) kl163 (fun _ h9 => h9) rfl dX7_sit_69 ?_
          refine lv_iload_n hx hb dX7_sit_72 rfl (lv_at hl 2 rfl) ?_
          refine lv_iload_n hx hb dX7_sit_73 rfl (lv_at hl 3 rfl) ?_
          obtain ⟨hin, hv⟩ := hv
          refine va_iast hx hb hKK.1 hP hD hS 11 0 rfl rfl hin dX7_sit_74 (fun H locs hP hD hS => ?_)
          have hP : va_P G.1 vwCl [(h0, .inr (7, [.ref e0, .ref t, .ref k, .ref n, .ref j, .ref i0, .int kp, .ref b0, .ref s0, .ref q, .ref g])), (t, .inr (6, [.int ns, .int np, .int fu, .int fd, .int fi, .ref t1, .ref t2, .ref t3, .ref t4, .ref t5, .ref t6])), aI G t1 9 sz_, aI G t2 9 pt, aI G t3 9 fh, aI G t4 8 kd, aI G t5 8 nd, aI G t6 8 fw, (n, .inr (1, [.ref n1, .ref n2, .ref n3, .ref n4, .ref n5, .ref n6, .ref n7, .int lo, .int mi, .int sd])), aI G n1 9 ht, aI G n2 8 wm, aI G n3 8 (upd se x.toNatClampNeg v), aI G n4 8 cd, aI G n5 8 sl, aI G n6 8 od, aI G n7 72 ow] H := hP
          have hD : va_D A [(h0, .inr (7, [.ref e0, .ref t, .ref k, .ref n, .ref j, .ref i0, .int kp, .ref b0, .ref s0, .ref q, .ref g])), (t, .inr (6, [.int ns, .int np, .int fu, .int fd, .int fi, .ref t1, .ref t2, .ref t3, .ref t4, .ref t5, .ref t6])), aI G t1 9 sz_, aI G t2 9 pt, aI G t3 9 fh, aI G t4 8 kd, aI G t5 8 nd, aI G t6 8 fw, (n, .inr (1, [.ref n1, .ref n2, .ref n3, .ref n4, .ref n5, .ref n6, .ref n7, .int lo, .int mi, .int sd])), aI G n1 9 ht, aI G n2 8 wm, aI G n3 8 (upd se x.toNatClampNeg v), aI G n4 8 cd, aI G n5 8 sl, aI G n6 8 od, aI G n7 72 ow] := hD
          refine lv_iload_n hx hb dX7_sit_75 rfl (lv_at hl 0 rfl) ?_
          exact x_iret (v := (se x.toNatClampNeg)) (upd se x.toNatClampNeg v) hQ hx hb hr hlocks hS dX7_sit_76 hv hP hD
        · have hv := hv.2 hc_10
          refine lv_iload_n hx hb dX7_sit_45 rfl (lv_at hl 3 rfl) ?_
          refine lv_iload_n hx hb dX7_sit_46 rfl (lv_at hl 0 rfl) ?_
          refine lv_icmp_eq (tgt := 65) hx hb dX7_sit_47 (by decide) (fun hc_11 => ?_) (fun hc_11 => ?_)
          · have hv := hv.1 hc_11
            refine lv_aload_n hx hb dX7_sit_65 rfl (lv_at hl 1 rfl) ?_
            refine va_get (D := G.1) (ci := 7) (v := .ref n) (C := RX7) (T := TX7) (N := 11) hx hb hts hinX7 hown hKK.1 hP 0 rfl rfl 3 (by decide) kl29 (fun _ h9 => h9) rfl dX7_sit_66 ?_
            refine va_get (D := G.1) (ci := 1) (v := .ref n3) (C := RX1) (T := TX1) (N := 10) hx hb hts hinX1 hown hKK.1 hP 8 rfl rfl 2 (by decide) kl163 (fun _ h9 => h9) rfl dX7_sit_69 ?_
            refine lv_iload_n hx hb dX7_sit_72 rfl (lv_at hl 2 rfl) ?_
            refine lv_iload_n hx hb dX7_sit_73 rfl (lv_at hl 3 rfl) ?_
            obtain ⟨hin, hv⟩ := hv
            refine va_iast hx hb hKK.1 hP hD hS 11 0 rfl rfl hin dX7_sit_74 (fun H locs hP hD hS => ?_)
            have hP : va_P G.1 vwCl [(h0, .inr (7, [.ref e0, .ref t, .ref k, .ref n, .ref j, .ref i0, .int kp, .ref b0, .ref s0, .ref q, .ref g])), (t, .inr (6, [.int ns, .int np, .int fu, .int fd, .int fi, .ref t1, .ref t2, .ref t3, .ref t4, .ref t5, .ref t6])), aI G t1 9 sz_, aI G t2 9 pt, aI G t3 9 fh, aI G t4 8 kd, aI G t5 8 nd, aI G t6 8 fw, (n, .inr (1, [.ref n1, .ref n2, .ref n3, .ref n4, .ref n5, .ref n6, .ref n7, .int lo, .int mi, .int sd])), aI G n1 9 ht, aI G n2 8 wm, aI G n3 8 (upd se x.toNatClampNeg v), aI G n4 8 cd, aI G n5 8 sl, aI G n6 8 od, aI G n7 72 ow] H := hP
            have hD : va_D A [(h0, .inr (7, [.ref e0, .ref t, .ref k, .ref n, .ref j, .ref i0, .int kp, .ref b0, .ref s0, .ref q, .ref g])), (t, .inr (6, [.int ns, .int np, .int fu, .int fd, .int fi, .ref t1, .ref t2, .ref t3, .ref t4, .ref t5, .ref t6])), aI G t1 9 sz_, aI G t2 9 pt, aI G t3 9 fh, aI G t4 8 kd, aI G t5 8 nd, aI G t6 8 fw, (n, .inr (1, [.ref n1, .ref n2, .ref n3, .ref n4, .ref n5, .ref n6, .ref n7, .int lo, .int mi, .int sd])), aI G n1 9 ht, aI G n2 8 wm, aI G n3 8 (upd se x.toNatClampNeg v), aI G n4 8 cd, aI G n5 8 sl, aI G n6 8 od, aI G n7 72 ow] := hD
            refine lv_iload_n hx hb dX7_sit_75 rfl (lv_at hl 0 rfl) ?_
            exact x_iret (v := (se x.toNatClampNeg)) (upd se x.toNatClampNeg v) hQ hx hb hr hlocks hS dX7_sit_76 hv hP hD
          · have hv := hv.2 hc_11
            refine lv_aload_n hx hb dX7_sit_50 rfl (lv_at hl 1 rfl) ?_
            refine va_get (D := G.1) (ci := 7) (v := .ref n) (C := RX7) (T := TX7) (N := 11) hx hb hts hinX7 hown hKK.1 hP 0 rfl rfl 3 (by decide) kl29 (fun _ h9 => h9) rfl dX7_sit_51 ?_
            refine lv_iload_n hx hb dX7_sit_54 rfl (lv_at hl 3 rfl) ?_
            refine x_calliR (x_runV (As := [.int v]) (rest := []) (n := 1) (C := RX1) (ci := 1) ⟨hx, hb, hml, hown, hts⟩ (k_X1_sitterOn l G n n1 n2 n3 n4 n5 n6 n7 _ ht wm se cd sl od ow lo mi sd v) gX7_sit_X1_sitterOn rfl (by decide +kernel) ⟨Nat.le_trans (Nat.le_of_ble_eq_true rfl) hRf, Nat.le_trans (Nat.le_of_ble_eq_true rfl) hRl⟩ hKK hSS hS hA hP hD [8, 9, 10, 11, 12, 13, 14, 15] (by decide) rfl rfl rfl 8 rfl rfl hl.1 rfl (Nat.le_of_ble_eq_true rfl) dX7_sit_55) hP hD hS hA [8, 9, 10, 11, 12, 13, 14, 15] rfl (fun r_12 _ H locs hw hP hS => ?_)
            have hv := hv r_12 hw
            refine lv_iconst (v := (-1)) hx hb dX7_sit_58 (by decide) ?_
            refine lv_icmp_eq (tgt := 65) hx hb dX7_sit_59 (by decide) (fun hc_13 => ?_) (fun hc_13 => ?_)
            · have hv := hv.1 hc_13
              refine lv_aload_n hx hb dX7_sit_65 rfl (lv_at hl 1 rfl) ?_
              refine va_get (D := G.1) (ci := 7) (v := .ref n) (C := RX7) (T := TX7) (N := 11) hx hb hts hinX7 hown hKK.1 hP 0 rfl rfl 3 (by decide) kl29 (fun _ h9 => h9) rfl dX7_sit_66 ?_
              refine va_get (D := G.1) (ci := 1) (v := .ref n3) (C := RX1) (T := TX1) (N := 10) hx hb hts hinX1 hown hKK.1 hP 8 rfl rfl 2 (by decide) kl163 (fun _ h9 => h9) rfl dX7_sit_69 ?_
              refine lv_iload_n hx hb dX7_sit_72 rfl (lv_at hl 2 rfl) ?_
              refine lv_iload_n hx hb dX7_sit_73 rfl (lv_at hl 3 rfl) ?_
              obtain ⟨hin, hv⟩ := hv
              refine va_iast hx hb hKK.1 hP hD hS 11 0 rfl rfl hin dX7_sit_74 (fun H locs hP hD hS => ?_)
              have hP : va_P G.1 vwCl [(h0, .inr (7, [.ref e0, .ref t, .ref k, .ref n, .ref j, .ref i0, .int kp, .ref b0, .ref s0, .ref q, .ref g])), (t, .inr (6, [.int ns, .int np, .int fu, .int fd, .int fi, .ref t1, .ref t2, .ref t3, .ref t4, .ref t5, .ref t6])), aI G t1 9 sz_, aI G t2 9 pt, aI G t3 9 fh, aI G t4 8 kd, aI G t5 8 nd, aI G t6 8 fw, (n, .inr (1, [.ref n1, .ref n2, .ref n3, .ref n4, .ref n5, .ref n6, .ref n7, .int lo, .int mi, .int sd])), aI G n1 9 ht, aI G n2 8 wm, aI G n3 8 (upd se x.toNatClampNeg v), aI G n4 8 cd, aI G n5 8 sl, aI G n6 8 od, aI G n7 72 ow] H := hP
              have hD : va_D A [(h0, .inr (7, [.ref e0, .ref t, .ref k, .ref n, .ref j, .ref i0, .int kp, .ref b0, .ref s0, .ref q, .ref g])), (t, .inr (6, [.int ns, .int np, .int fu, .int fd, .int fi, .ref t1, .ref t2, .ref t3, .ref t4, .ref t5, .ref t6])), aI G t1 9 sz_, aI G t2 9 pt, aI G t3 9 fh, aI G t4 8 kd, aI G t5 8 nd, aI G t6 8 fw, (n, .inr (1, [.ref n1, .ref n2, .ref n3, .ref n4, .ref n5, .ref n6, .ref n7, .int lo, .int mi, .int sd])), aI G n1 9 ht, aI G n2 8 wm, aI G n3 8 (upd se x.toNatClampNeg v), aI G n4 8 cd, aI G n5 8 sl, aI G n6 8 od, aI G n7 72 ow] := hD
              refine lv_iload_n hx hb dX7_sit_75 rfl (lv_at hl 0 rfl) ?_
              exact x_iret (v := (se x.toNatClampNeg)) (upd se x.toNatClampNeg v) hQ hx hb hr hlocks hS dX7_sit_76 hv hP hD
            · have hv := hv.2 hc_13
              refine lv_ldc (v := (-1000000003)) hx hb hown kl179 dX7_sit_62 ?_
              exact x_iret (v := (-1000000003)) se hQ hx hb hr hlocks hS dX7_sit_64 hv hP hD
      · have hv := hv.2 (tv_eq.mp hc_9)
        refine lv_ldc (v := (-1000000001)) hx hb hown kl143 dX7_sit_27 ?_
        exact x_iret (v := (-1000000001)) se hQ hx hb hr hlocks hS dX7_sit_29 hv hP hD
theorem k_X7_sit (l : Launch) (G : Gt) (h0 t t1 t2 t3 t4 t5 t6 n n1 n2 n3 n4 n5 n6 n7 : Nat) (sz : Nat) (e0 : Nat) (k : Nat) (j : Nat) (i0 : Nat) (b0 : Nat) (s0 : Nat) (q : Nat) (g : Nat) (kp : Int32) (ns : Int32) (np : Int32) (fu : Int32) (fd : Int32) (fi : Int32) (sz_ : Nat → Int32) (pt : Nat → Int32) (fh : Nat → Int32) (kd : Nat → Int32) (nd : Nat → Int32) (fw : Nat → Int32) (ht : Nat → Int32) (wm : Nat → Int32) (se : Nat → Int32) (cd : Nat → Int32) (sl : Nat → Int32) (od : Nat → Int32) (ow : Nat → Int32) (lo : Int32) (mi : Int32) (sd : Int32) (x : Int32) (v : Int32) (hp : True) : MetI l yX7_sit wsX7_sit 1 22 G [.ref h0, .int x, .int v] [(h0, .inr (7, [.ref e0, .ref t, .ref k, .ref n, .ref j, .ref i0, .int kp, .ref b0, .ref s0, .ref q, .ref g])), (t, .inr (6, [.int ns, .int np, .int fu, .int fd, .int fi, .ref t1, .ref t2, .ref t3, .ref t4, .ref t5, .ref t6])), aI G t1 9 sz_, aI G t2 9 pt, aI G t3 9 fh, aI G t4 8 kd, aI G t5 8 nd, aI G t6 8 fw, (n, .inr (1, [.ref n1, .ref n2, .ref n3, .ref n4, .ref n5, .ref n6, .ref n7, .int lo, .int mi, .int sd])), aI G n1 9 ht, aI G n2 8 wm, aI G n3 8 se, aI G n4 8 cd, aI G n5 8 sl, aI G n6 8 od, aI G n7 72 ow] sz (fun (r : Int32) (u : (Nat → Int32)) => True) (fun (u : (Nat → Int32)) => [(h0, .inr (7, [.ref e0, .ref t, .ref k, .ref n, .ref j, .ref i0, .int kp, .ref b0, .ref s0, .ref q, .ref g])), (t, .inr (6, [.int ns, .int np, .int fu, .int fd, .int fi, .ref t1, .ref t2, .ref t3, .ref t4, .ref t5, .ref t6])), aI G t1 9 sz_, aI G t2 9 pt, aI G t3 9 fh, aI G t4 8 kd, aI G t5 8 nd, aI G t6 8 fw, (n, .inr (1, [.ref n1, .ref n2, .ref n3, .ref n4, .ref n5, .ref n6, .ref n7, .int lo, .int mi, .int sd])), aI G n1 9 ht, aI G n2 8 wm, aI G n3 8 u, aI G n4 8 cd, aI G n5 8 sl, aI G n6 8 od, aI G n7 72 ow]) :=
  c_X7_sit l G h0 t t1 t2 t3 t4 t5 t6 n n1 n2 n3 n4 n5 n6 n7 sz e0 k j i0 b0 s0 q g kp ns np fu fd fi sz_ pt fh kd nd fw ht wm se cd sl od ow lo mi sd x v (by
    sorry)

set_option maxHeartbeats 4000000 in
set_option maxRecDepth 100000 in
theorem c_X7_go (l : Launch) (G : Gt) (h0 t t1 t2 t3 t4 t5 t6 n n1 n2 n3 n4 n5 n6 n7 : Nat) (sz : Nat) (e0 : Nat) (k : Nat) (j : Nat) (i0 : Nat) (b0 : Nat) (s0 : Nat) (q : Nat) (g : Nat) (kp : Int32) (ns : Int32) (np : Int32) (fu : Int32) (fd : Int32) (fi : Int32) (sz_ : Nat → Int32) (pt : Nat → Int32) (fh : Nat → Int32) (kd : Nat → Int32) (nd : Nat → Int32) (fw : Nat → Int32) (ht : Nat → Int32) (wm : Nat → Int32) (se : Nat → Int32) (cd : Nat → Int32) (sl : Nat → Int32) (od : Nat → Int32) (ow : Nat → Int32) (lo : Int32) (mi : Int32) (sd : Int32) (x : Int32) (hv : (¬ x < 1 ∧ ¬ 999 < x → ∃ (I18_13 : (Nat → Int32) → (Nat → Int32) → (Nat → Int32) → (Nat → Int32) → (Nat → Int32) → (Nat → Int32) → Int32 → Int32 → Int32 → Int32 → Prop) (μ18_14 : (Nat → Int32) → (Nat → Int32) → (Nat → Int32) → (Nat → Int32) → (Nat → Int32) → (Nat → Int32) → Int32 → Int32 → Int32 → Int32 → Nat), I18_13 ht wm cd sl od ow lo mi 0 0 ∧ (∀ (fn1_3 : (Nat → Int32)) (fn2_4 : (Nat → Int32)) (fn4_5 : (Nat → Int32)) (fn5_6 : (Nat → Int32)) (fn6_7 : (Nat → Int32)) (fn7_8 : (Nat → Int32)) (gn7_9 : Int32) (gn8_10 : Int32) (x2_11 : Int32) (x3_12 : Int32), I18_13 fn1_3 fn2_4 fn4_5 fn5_6 fn6_7 fn7_8 gn7_9 gn8_10 x2_11 x3_12 → (x ≤ x3_12 → True) ∧ (¬ (x ≤ x3_12) → (True) ∧ (∀ (r_18 : Int32) (ht2_19 : Nat → Int32) (wm2_20 : Nat → Int32) (cd2_21 : Nat → Int32) (sl2_22 : Nat → Int32) (od2_23 : Nat → Int32) (ow2_24 : Nat → Int32) (lo2_25 : Int32) (mi2_26 : Int32), (True) → (I18_13 ht2_19 wm2_20 cd2_21 sl2_22 od2_23 ow2_24 lo2_25 mi2_26 r_18 (x3_12 + 1) ∧ μ18_14 ht2_19 wm2_20 cd2_21 sl2_22 od2_23 ow2_24 lo2_25 mi2_26 r_18 (x3_12 + 1) < μ18_14 fn1_3 fn2_4 fn4_5 fn5_6 fn6_7 fn7_8 gn7_9 gn8_10 x2_11 x3_12))))) ∧ (¬ (¬ x < 1 ∧ ¬ 999 < x) → True)) : MetI l yX7_go wsX7_go 4 95 G [.ref h0, .int x] [(h0, .inr (7, [.ref e0, .ref t, .ref k, .ref n, .ref j, .ref i0, .int kp, .ref b0, .ref s0, .ref q, .ref g])), (t, .inr (6, [.int ns, .int np, .int fu, .int fd, .int fi, .ref t1, .ref t2, .ref t3, .ref t4, .ref t5, .ref t6])), aI G t1 9 sz_, aI G t2 9 pt, aI G t3 9 fh, aI G t4 8 kd, aI G t5 8 nd, aI G t6 8 fw, (n, .inr (1, [.ref n1, .ref n2, .ref n3, .ref n4, .ref n5, .ref n6, .ref n7, .int lo, .int mi, .int sd])), aI G n1 9 ht, aI G n2 8 wm, aI G n3 8 se, aI G n4 8 cd, aI G n5 8 sl, aI G n6 8 od, aI G n7 72 ow] sz (fun (r : Int32) (u : (Nat → Int32) × (Nat → Int32) × (Nat → Int32) × (Nat → Int32) × (Nat → Int32) × (Nat → Int32) × (Int32) × (Int32)) => True) (fun (u : (Nat → Int32) × (Nat → Int32) × (Nat → Int32) × (Nat → Int32) × (Nat → Int32) × (Nat → Int32) × (Int32) × (Int32)) => [(h0, .inr (7, [.ref e0, .ref t, .ref k, .ref n, .ref j, .ref i0, .int kp, .ref b0, .ref s0, .ref q, .ref g])), (t, .inr (6, [.int ns, .int np, .int fu, .int fd, .int fi, .ref t1, .ref t2, .ref t3, .ref t4, .ref t5, .ref t6])), aI G t1 9 sz_, aI G t2 9 pt, aI G t3 9 fh, aI G t4 8 kd, aI G t5 8 nd, aI G t6 8 fw, (n, .inr (1, [.ref n1, .ref n2, .ref n3, .ref n4, .ref n5, .ref n6, .ref n7, .int u.2.2.2.2.2.2.1, .int u.2.2.2.2.2.2.2, .int sd])), aI G n1 9 u.1, aI G n2 8 u.2.1, aI G n3 8 se, aI G n4 8 u.2.2.1, aI G n5 8 u.2.2.2.1, aI G n6 8 u.2.2.2.2.1, aI G n7 72 u.2.2.2.2.2.1]) := by
  refine x_startI (cc := cX7_go) (maxL := 4) (ret := (some .int)) (by decide) rfl (Nat.le_of_ble_eq_true rfl) ?_
  intro p e s m args below meth c A R Q ls hRf hRl hQ C hP hD hS hA hSS hl
  obtain ⟨hx, hb, hr, hml, hown, hts, hlocks, hKK⟩ := C
  have hown : s.vm.findClass RX7 = some m.cls := hown
  have hl : lv_has ls 4 [(0, .ref h0), (1, .int x)] := hl
  have hinX7 : ∀ w ∈ u_ws RX7 TX7 11, w ∈ wsX7_go := by decide +kernel
  have kl19 := hts (.fieldLink RX7 19 "WarmStones" "town" "LWarmStones$Town;") (by decide +kernel)
  have kl29 := hts (.fieldLink RX7 29 "WarmStones" "night" "LWarmStones$Night;") (by decide +kernel)
  have kl72 := hts (.constant RX7 72 (-1000000002)) (by decide +kernel)
  refine lv_iload_n hx hb dX7_go_0 rfl (lv_at hl 1 rfl) ?_
  refine lv_iconst (v := 1) hx hb dX7_go_1 (by decide) ?_
  refine lv_sipush (v := 999) hx hb dX7_go_2 (by decide) ?_
  refine x_calliR (x_runS (As := [.int x, .int 1, .int 999]) (rest := []) (n := 3) ⟨hx, hb, hml, hown, hts⟩ (k_X7_within l G  _ x 1 999) gX7_go_X7_within rfl (by decide +kernel) ⟨Nat.le_trans (Nat.le_of_ble_eq_true rfl) hRf, Nat.le_trans (Nat.le_of_ble_eq_true rfl) hRl⟩ hKK hSS hS hA hP hD [] (by decide) rfl rfl hl.1 rfl (Nat.le_of_ble_eq_true rfl) dX7_go_5) hP hD hS hA [] rfl (fun r_1 _ H locs hw hP hS => ?_)
  replace hw := hw.symm; subst hw
  refine lv_if_ne (tgt := 14) hx hb dX7_go_8 (by decide) (fun hc_2 => ?_) (fun hc_2 => ?_)
  · have hv := hv.1 (tv_eqn.mp hc_2)
    refine lv_iconst (v := 0) hx hb dX7_go_14 (by decide) ?_
    refine lv_istore_n (lv' := [(2, .int 0), (0, .ref h0), (1, .int x)]) hx hb dX7_go_15 rfl hl (by decide) rfl (fun ls hl => ?_)
    refine lv_iconst (v := 0) hx hb dX7_go_16 (by decide) ?_
    refine lv_istore_n (lv' := [(3, .int 0), (2, .int 0), (0, .ref h0), (1, .int x)]) hx hb dX7_go_17 rfl hl (by decide) rfl (fun ls hl => ?_)
    obtain ⟨I18_13, μ18_14, hi0, hs_27⟩ := hv
    have Lm_29 : ∀ (n_28 : Nat) (fn1_3 : (Nat → Int32)) (fn2_4 : (Nat → Int32)) (fn4_5 : (Nat → Int32)) (fn5_6 : (Nat → Int32)) (fn6_7 : (Nat → Int32)) (fn7_8 : (Nat → Int32)) (gn7_9 : Int32) (gn8_10 : Int32) (x2_11 : Int32) (x3_12 : Int32) (H : Heap) (locs : List Loc) (ls : Array Slot), μ18_14 fn1_3 fn2_4 fn4_5 fn5_6 fn6_7 fn7_8 gn7_9 gn8_10 x2_11 x3_12 < n_28 → I18_13 fn1_3 fn2_4 fn4_5 fn5_6 fn6_7 fn7_8 gn7_9 gn8_10 x2_11 x3_12 → va_P G.1 vwCl [(h0, .inr (7, [.ref e0, .ref t, .ref k, .ref n, .ref j, .ref i0, .int kp, .ref b0, .ref s0, .ref q, .ref g])), (t, .inr (6, [.int ns, .int np, .int fu, .int fd, .int fi, .ref t1, .ref t2, .ref t3, .ref t4, .ref t5, .ref t6])), aI G t1 9 sz_, aI G t2 9 pt, aI G t3 9 fh, aI G t4 8 kd, aI G t5 8 nd, aI G t6 8 fw, (n, .inr (1, [.ref n1, .ref n2, .ref n3, .ref n4, .ref n5, .ref n6, .ref n7, .int gn7_9, .int gn8_10, .int sd])), aI G n1 9 fn1_3, aI G n2 8 fn2_4, aI G n3 8 se, aI G n4 8 fn4_5, aI G n5 8 fn5_6, aI G n6 8 fn6_7, aI G n7 72 fn7_8] H → va_D A [(h0, .inr (7, [.ref e0, .ref t, .ref k, .ref n, .ref j, .ref i0, .int kp, .ref b0, .ref s0, .ref q, .ref g])), (t, .inr (6, [.int ns, .int np, .int fu, .int fd, .int fi, .ref t1, .ref t2, .ref t3, .ref t4, .ref t5, .ref t6])), aI G t1 9 sz_, aI G t2 9 pt, aI G t3 9 fh, aI G t4 8 kd, aI G t5 8 nd, aI G t6 8 fw, (n, .inr (1, [.ref n1, .ref n2, .ref n3, .ref n4, .ref n5, .ref n6, .ref n7, .int gn7_9, .int gn8_10, .int sd])), aI G n1 9 fn1_3, aI G n2 8 fn2_4, aI G n3 8 se, aI G n4 8 fn4_5, aI G n5 8 fn5_6, aI G n6 8 fn6_7, aI G n7 72 fn7_8] → va_S A s.heap H locs → lv_has ls 4 [(3, .int x3_12), (2, .int x2_11), (0, .ref h0), (1, .int x)] → W p l e R s m args below meth c H locs 0 0 Q (F0 m 18 ls []) := by
      intro n_28
      induction n_28 with
      | zero => intro fn1_3 fn2_4 fn4_5 fn5_6 fn6_7 fn7_8 gn7_9 gn8_10 x2_11 x3_12 H locs ls hm; exact absurd hm (Nat.not_lt_zero _)
      | succ n_28 ih_15 =>
        intro fn1_3 fn2_4 fn4_5 fn5_6 fn6_7 fn7_8 gn7_9 gn8_10 x2_11 x3_12 H locs ls hI_16 hi hP hD hS hl
        have hv := hs_27 fn1_3 fn2_4 fn4_5 fn5_6 fn6_7 fn7_8 gn7_9 gn8_10 x2_11 x3_12 hi
        refine lv_iload_n hx hb dX7_go_18 rfl (lv_at hl 0 rfl) ?_
        refine lv_iload_n hx hb dX7_go_19 rfl (lv_at hl 3 rfl) ?_
        refine lv_icmp_ge (tgt := 41) hx hb dX7_go_20 (by decide) (fun hc_17 => ?_) (fun hc_17 => ?_)
        · have hv := hv.1 hc_17
          refine lv_iload_n hx hb dX7_go_41 rfl (lv_at hl 1 rfl) ?_
          exact x_iret (v := x2_11) (fn1_3, fn2_4, fn4_5, fn5_6, fn6_7, fn7_8, gn7_9, gn8_10) hQ hx hb hr hlocks hS dX7_go_42 hv hP hD
        · have hv := hv.2 hc_17
          refine lv_aload_n hx hb dX7_go_23 rfl (lv_at hl 2 rfl) ?_
          refine va_get (D := G.1) (ci := 7) (v := .ref n) (C := RX7) (T := TX7) (N := 11) hx hb hts hinX7 hown hKK.1 hP 0 rfl rfl 3 (by decide) kl29 (fun _ h9 => h9) rfl dX7_go_24 ?_
          refine lv_aload_n hx hb dX7_go_27 rfl (lv_at hl 2 rfl) ?_
          refine va_get (D := G.1) (ci := 7) (v := .ref t) (C := RX7) (T := TX7) (N := 11) hx hb hts hinX7 hown hKK.1 hP 0 rfl rfl 1 (by decide) kl19 (fun _ h9 => h9) rfl dX7_go_28 ?_
          obtain ⟨hp, hv⟩ := hv
          refine x_calli (wr := [(h0, .inr (7, [.ref e0, .ref t, .ref k, .ref n, .ref j, .ref i0, .int kp, .ref b0, .ref s0, .ref q, .ref g]))]) (w' := fun (u : (Nat → Int32) × (Nat → Int32) × (Nat → Int32) × (Nat → Int32) × (Nat → Int32) × (Nat → Int32) × (Int32) × (Int32)) => [(h0, .inr (7, [.ref e0, .ref t, .ref k, .ref n, .ref j, .ref i0, .int kp, .ref b0, .ref s0, .ref q, .ref g])), (t, .inr (6, [.int ns, .int np, .int fu, .int fd, .int fi, .ref t1, .ref t2, .ref t3, .ref t4, .ref t5, .ref t6])), aI G t1 9 sz_, aI G t2 9 pt, aI G t3 9 fh, aI G t4 8 kd, aI G t5 8 nd, aI G t6 8 fw, (n, .inr (1, [.ref n1, .ref n2, .ref n3, .ref n4, .ref n5, .ref n6, .ref n7, .int u.2.2.2.2.2.2.1, .int u.2.2.2.2.2.2.2, .int sd])), aI G n1 9 u.1, aI G n2 8 u.2.1, aI G n3 8 se, aI G n4 8 u.2.2.1, aI G n5 8 u.2.2.2.1, aI G n6 8 u.2.2.2.2.1, aI G n7 72 u.2.2.2.2.2.1]) (x_runV (As := [.ref t]) (rest := []) (n := 1) (C := RX1) (ci := 1) ⟨hx, hb, hml, hown, hts⟩ (k_X1_passMinute l G n n1 n2 n3 n4 n5 n6 n7 t t1 t2 t3 t4 t5 t6 _ fn1_3 fn2_4 se fn4_5 fn5_6 fn6_7 fn7_8 gn7_9 gn8_10 sd ns np fu fd fi sz_ pt fh kd nd fw hp) gX7_go_X1_passMinute rfl (by decide +kernel) ⟨Nat.le_trans (Nat.le_of_ble_eq_true rfl) hRf, Nat.le_trans (Nat.le_of_ble_eq_true rfl) hRl⟩ hKK hSS hS hA hP hD [8, 9, 10, 11, 12, 13, 14, 15, 1, 2, 3, 4, 5, 6, 7] (by decide) rfl rfl rfl 8 rfl rfl hl.1 rfl (Nat.le_of_ble_eq_true rfl) dX7_go_31) hP hD hS hA [8, 9, 10, 11, 12, 13, 14, 15, 1, 2, 3, 4, 5, 6, 7] [0] [0, 9, 10, 11, 12, 13, 14, 15, 1, 2, 3, 4, 5, 6, 7, 8] rfl rfl (by decide) (by decide) (by decide) (fun _ => rfl) (fun r_18 u H locs hw hP hD hS => ?_)
          obtain ⟨ht2_19, wm2_20, cd2_21, sl2_22, od2_23, ow2_24, lo2_25, mi2_26⟩ := u
          have hP : va_P G.1 vwCl [(h0, .inr (7, [.ref e0, .ref t, .ref k, .ref n, .ref j, .ref i0, .int kp, .ref b0, .ref s0, .ref q, .ref g])), (t, .inr (6, [.int ns, .int np, .int fu, .int fd, .int fi, .ref t1, .ref t2, .ref t3, .ref t4, .ref t5, .ref t6])), aI G t1 9 sz_, aI G t2 9 pt, aI G t3 9 fh, aI G t4 8 kd, aI G t5 8 nd, aI G t6 8 fw, (n, .inr (1, [.ref n1, .ref n2, .ref n3, .ref n4, .ref n5, .ref n6, .ref n7, .int lo2_25, .int mi2_26, .int sd])), aI G n1 9 ht2_19, aI G n2 8 wm2_20, aI G n3 8 se, aI G n4 8 cd2_21, aI G n5 8 sl2_22, aI G n6 8 od2_23, aI G n7 72 ow2_24] H := hP
          have hD : va_D A [(h0, .inr (7, [.ref e0, .ref t, .ref k, .ref n, .ref j, .ref i0, .int kp, .ref b0, .ref s0, .ref q, .ref g])), (t, .inr (6, [.int ns, .int np, .int fu, .int fd, .int fi, .ref t1, .ref t2, .ref t3, .ref t4, .ref t5, .ref t6])), aI G t1 9 sz_, aI G t2 9 pt, aI G t3 9 fh, aI G t4 8 kd, aI G t5 8 nd, aI G t6 8 fw, (n, .inr (1, [.ref n1, .ref n2, .ref n3, .ref n4, .ref n5, .ref n6, .ref n7, .int lo2_25, .int mi2_26, .int sd])), aI G n1 9 ht2_19, aI G n2 8 wm2_20, aI G n3 8 se, aI G n4 8 cd2_21, aI G n5 8 sl2_22, aI G n6 8 od2_23, aI G n7 72 ow2_24] := hD
          have hv := hv r_18 ht2_19 wm2_20 cd2_21 sl2_22 od2_23 ow2_24 lo2_25 mi2_26 hw
          refine lv_istore_n (lv' := [(2, .int r_18), (3, .int x3_12), (0, .ref h0), (1, .int x)]) hx hb dX7_go_34 rfl hl (by decide) rfl (fun ls hl => ?_)
          refine lv_iinc (v := (x3_12 + 1)) (lv' := [(3, .int (x3_12 + 1)), (2, .int r_18), (0, .ref h0), (1, .int x)]) hx hb dX7_go_35 hl (k := 1) rfl rfl (by decide) rfl (fun ls hl => ?_)
          refine lv_goto (tgt := 18) hx hb dX7_go_38 (by decide) ?_
          exact ih_15 _ _ _ _ _ _ _ _ _ _ _ _ _ (Nat.lt_of_lt_of_le hv.2 (Nat.le_of_lt_succ hI_16)) hv.1 hP hD hS hl
    exact Lm_29 _ _ _ _ _ _ _ _ _ _ _ _ _ _ (Nat.lt_succ_self _) hi0 hP hD hS hl
  · have hv := hv.2 (tv_eq.mp hc_2)
    refine lv_ldc (v := (-1000000002)) hx hb hown kl72 dX7_go_11 ?_
    exact x_iret (v := (-1000000002)) (ht, wm, cd, sl, od, ow, lo, mi) hQ hx hb hr hlocks hS dX7_go_13 hv hP hD
theorem k_X7_go (l : Launch) (G : Gt) (h0 t t1 t2 t3 t4 t5 t6 n n1 n2 n3 n4 n5 n6 n7 : Nat) (sz : Nat) (e0 : Nat) (k : Nat) (j : Nat) (i0 : Nat) (b0 : Nat) (s0 : Nat) (q : Nat) (g : Nat) (kp : Int32) (ns : Int32) (np : Int32) (fu : Int32) (fd : Int32) (fi : Int32) (sz_ : Nat → Int32) (pt : Nat → Int32) (fh : Nat → Int32) (kd : Nat → Int32) (nd : Nat → Int32) (fw : Nat → Int32) (ht : Nat → Int32) (wm : Nat → Int32) (se : Nat → Int32) (cd : Nat → Int32) (sl : Nat → Int32) (od : Nat → Int32) (ow : Nat → Int32) (lo : Int32) (mi : Int32) (sd : Int32) (x : Int32) (hp : True) : MetI l yX7_go wsX7_go 4 95 G [.ref h0, .int x] [(h0, .inr (7, [.ref e0, .ref t, .ref k, .ref n, .ref j, .ref i0, .int kp, .ref b0, .ref s0, .ref q, .ref g])), (t, .inr (6, [.int ns, .int np, .int fu, .int fd, .int fi, .ref t1, .ref t2, .ref t3, .ref t4, .ref t5, .ref t6])), aI G t1 9 sz_, aI G t2 9 pt, aI G t3 9 fh, aI G t4 8 kd, aI G t5 8 nd, aI G t6 8 fw, (n, .inr (1, [.ref n1, .ref n2, .ref n3, .ref n4, .ref n5, .ref n6, .ref n7, .int lo, .int mi, .int sd])), aI G n1 9 ht, aI G n2 8 wm, aI G n3 8 se, aI G n4 8 cd, aI G n5 8 sl, aI G n6 8 od, aI G n7 72 ow] sz (fun (r : Int32) (u : (Nat → Int32) × (Nat → Int32) × (Nat → Int32) × (Nat → Int32) × (Nat → Int32) × (Nat → Int32) × (Int32) × (Int32)) => True) (fun (u : (Nat → Int32) × (Nat → Int32) × (Nat → Int32) × (Nat → Int32) × (Nat → Int32) × (Nat → Int32) × (Int32) × (Int32)) => [(h0, .inr (7, [.ref e0, .ref t, .ref k, .ref n, .ref j, .ref i0, .int kp, .ref b0, .ref s0, .ref q, .ref g])), (t, .inr (6, [.int ns, .int np, .int fu, .int fd, .int fi, .ref t1, .ref t2, .ref t3, .ref t4, .ref t5, .ref t6])), aI G t1 9 sz_, aI G t2 9 pt, aI G t3 9 fh, aI G t4 8 kd, aI G t5 8 nd, aI G t6 8 fw, (n, .inr (1, [.ref n1, .ref n2, .ref n3, .ref n4, .ref n5, .ref n6, .ref n7, .int u.2.2.2.2.2.2.1, .int u.2.2.2.2.2.2.2, .int sd])), aI G n1 9 u.1, aI G n2 8 u.2.1, aI G n3 8 se, aI G n4 8 u.2.2.1, aI G n5 8 u.2.2.2.1, aI G n6 8 u.2.2.2.2.1, aI G n7 72 u.2.2.2.2.2.1]) :=
  c_X7_go l G h0 t t1 t2 t3 t4 t5 t6 n n1 n2 n3 n4 n5 n6 n7 sz e0 k j i0 b0 s0 q g kp ns np fu fd fi sz_ pt fh kd nd fw ht wm se cd sl od ow lo mi sd x (by
    sorry)

set_option maxHeartbeats 4000000 in
set_option maxRecDepth 100000 in
theorem c_X7_drift (l : Launch) (G : Gt) (h0 t t1 t2 t3 t4 t5 t6 n n1 n2 n3 n4 n5 n6 n7 : Nat) (sz : Nat) (e0 : Nat) (k : Nat) (j : Nat) (i0 : Nat) (b0 : Nat) (s0 : Nat) (q : Nat) (g : Nat) (kp : Int32) (ns : Int32) (np : Int32) (fu : Int32) (fd : Int32) (fi : Int32) (sz_ : Nat → Int32) (pt : Nat → Int32) (fh : Nat → Int32) (kd : Nat → Int32) (nd : Nat → Int32) (fw : Nat → Int32) (ht : Nat → Int32) (wm : Nat → Int32) (se : Nat → Int32) (cd : Nat → Int32) (sl : Nat → Int32) (od : Nat → Int32) (ow : Nat → Int32) (lo : Int32) (mi : Int32) (sd : Int32) (x : Int32) (hv : (¬ x < 1 ∧ ¬ 999 < x → ∃ (I18_15 : (Nat → Int32) → (Nat → Int32) → (Nat → Int32) → (Nat → Int32) → (Nat → Int32) → (Nat → Int32) → (Nat → Int32) → Int32 → Int32 → Int32 → Int32 → Int32 → Prop) (μ18_16 : (Nat → Int32) → (Nat → Int32) → (Nat → Int32) → (Nat → Int32) → (Nat → Int32) → (Nat → Int32) → (Nat → Int32) → Int32 → Int32 → Int32 → Int32 → Int32 → Nat), I18_15 ht wm se cd sl od ow lo mi sd 0 0 ∧ (∀ (fn1_3 : (Nat → Int32)) (fn2_4 : (Nat → Int32)) (fn3_5 : (Nat → Int32)) (fn4_6 : (Nat → Int32)) (fn5_7 : (Nat → Int32)) (fn6_8 : (Nat → Int32)) (fn7_9 : (Nat → Int32)) (gn7_10 : Int32) (gn8_11 : Int32) (gn9_12 : Int32) (x2_13 : Int32) (x3_14 : Int32), I18_15 fn1_3 fn2_4 fn3_5 fn4_6 fn5_7 fn6_8 fn7_9 gn7_10 gn8_11 gn9_12 x2_13 x3_14 → (x ≤ x3_14 → True) ∧ (¬ (x ≤ x3_14) → (True) ∧ (∀ (se2_21 : Nat → Int32) (sd2_22 : Int32), (True) → ((True) ∧ (∀ (r_23 : Int32) (ht2_24 : Nat → Int32) (wm2_25 : Nat → Int32) (cd2_26 : Nat → Int32) (sl2_27 : Nat → Int32) (od2_28 : Nat → Int32) (ow2_29 : Nat → Int32) (lo2_30 : Int32) (mi2_31 : Int32), (True) → (I18_15 ht2_24 wm2_25 se2_21 cd2_26 sl2_27 od2_28 ow2_29 lo2_30 mi2_31 sd2_22 r_23 (x3_14 + 1) ∧ μ18_16 ht2_24 wm2_25 se2_21 cd2_26 sl2_27 od2_28 ow2_29 lo2_30 mi2_31 sd2_22 r_23 (x3_14 + 1) < μ18_16 fn1_3 fn2_4 fn3_5 fn4_6 fn5_7 fn6_8 fn7_9 gn7_10 gn8_11 gn9_12 x2_13 x3_14))))))) ∧ (¬ (¬ x < 1 ∧ ¬ 999 < x) → True)) : MetI l yX7_drift wsX7_drift 4 95 G [.ref h0, .int x] [(h0, .inr (7, [.ref e0, .ref t, .ref k, .ref n, .ref j, .ref i0, .int kp, .ref b0, .ref s0, .ref q, .ref g])), (t, .inr (6, [.int ns, .int np, .int fu, .int fd, .int fi, .ref t1, .ref t2, .ref t3, .ref t4, .ref t5, .ref t6])), aI G t1 9 sz_, aI G t2 9 pt, aI G t3 9 fh, aI G t4 8 kd, aI G t5 8 nd, aI G t6 8 fw, (n, .inr (1, [.ref n1, .ref n2, .ref n3, .ref n4, .ref n5, .ref n6, .ref n7, .int lo, .int mi, .int sd])), aI G n1 9 ht, aI G n2 8 wm, aI G n3 8 se, aI G n4 8 cd, aI G n5 8 sl, aI G n6 8 od, aI G n7 72 ow] sz (fun (r : Int32) (u : (Nat → Int32) × (Nat → Int32) × (Nat → Int32) × (Nat → Int32) × (Nat → Int32) × (Nat → Int32) × (Nat → Int32) × (Int32) × (Int32) × (Int32)) => True) (fun (u : (Nat → Int32) × (Nat → Int32) × (Nat → Int32) × (Nat → Int32) × (Nat → Int32) × (Nat → Int32) × (Nat → Int32) × (Int32) × (Int32) × (Int32)) => [(h0, .inr (7, [.ref e0, .ref t, .ref k, .ref n, .ref j, .ref i0, .int kp, .ref b0, .ref s0, .ref q, .ref g])), (t, .inr (6, [.int ns, .int np, .int fu, .int fd, .int fi, .ref t1, .ref t2, .ref t3, .ref t4, .ref t5, .ref t6])), aI G t1 9 sz_, aI G t2 9 pt, aI G t3 9 fh, aI G t4 8 kd, aI G t5 8 nd, aI G t6 8 fw, (n, .inr (1, [.ref n1, .ref n2, .ref n3, .ref n4, .ref n5, .ref n6, .ref n7, .int u.2.2.2.2.2.2.2.1, .int u.2.2.2.2.2.2.2.2.1, .int u.2.2.2.2.2.2.2.2.2])), aI G n1 9 u.1, aI G n2 8 u.2.1, aI G n3 8 u.2.2.1, aI G n4 8 u.2.2.2.1, aI G n5 8 u.2.2.2.2.1, aI G n6 8 u.2.2.2.2.2.1, aI G n7 72 u.2.2.2.2.2.2.1]) := by
  refine x_startI (cc := cX7_drift) (maxL := 4) (ret := (some .int)) (by decide) rfl (Nat.le_of_ble_eq_true rfl) ?_
  intro p e s m args below meth c A R Q ls hRf hRl hQ C hP hD hS hA hSS hl
  obtain ⟨hx, hb, hr, hml, hown, hts, hlocks, hKK⟩ := C
  have hown : s.vm.findClass RX7 = some m.cls := hown
  have hl : lv_has ls 4 [(0, .ref h0), (1, .int x)] := hl
  have hinX7 : ∀ w ∈ u_ws RX7 TX7 11, w ∈ wsX7_drift := by decide +kernel
  have kl19 := hts (.fieldLink RX7 19 "WarmStones" "town" "LWarmStones$Town;") (by decide +kernel)
  have kl29 := hts (.fieldLink RX7 29 "WarmStones" "night" "LWarmStones$Night;") (by decide +kernel)
  have kl72 := hts (.constant RX7 72 (-1000000002)) (by decide +kernel)
  refine lv_iload_n hx hb dX7_drift_0 rfl (lv_at hl 1 rfl) ?_
  refine lv_iconst (v := 1) hx hb dX7_drift_1 (by decide) ?_
  refine lv_sipush (v := 999) hx hb dX7_drift_2 (by decide) ?_
  refine x_calliR (x_runS (As := [.int x, .int 1, .int 999]) (rest := []) (n := 3) ⟨hx, hb, hml, hown, hts⟩ (k_X7_within l G  _ x 1 999) gX7_drift_X7_within rfl (by decide +kernel) ⟨Nat.le_trans (Nat.le_of_ble_eq_true rfl) hRf, Nat.le_trans (Nat.le_of_ble_eq_true rfl) hRl⟩ hKK hSS hS hA hP hD [] (by decide) rfl rfl hl.1 rfl (Nat.le_of_ble_eq_true rfl) dX7_drift_5) hP hD hS hA [] rfl (fun r_1 _ H locs hw hP hS => ?_)
  replace hw := hw.symm; subst hw
  refine lv_if_ne (tgt := 14) hx hb dX7_drift_8 (by decide) (fun hc_2 => ?_) (fun hc_2 => ?_)
  · have hv := hv.1 (tv_eqn.mp hc_2)
    refine lv_iconst (v := 0) hx hb dX7_drift_14 (by decide) ?_
    refine lv_istore_n (lv' := [(2, .int 0), (0, .ref h0), (1, .int x)]) hx hb dX7_drift_15 rfl hl (by decide) rfl (fun ls hl => ?_)
    refine lv_iconst (v := 0) hx hb dX7_drift_16 (by decide) ?_
    refine lv_istore_n (lv' := [(3, .int 0), (2, .int 0), (0, .ref h0), (1, .int x)]) hx hb dX7_drift_17 rfl hl (by decide) rfl (fun ls hl => ?_)
    obtain ⟨I18_15, μ18_16, hi0, hs_32⟩ := hv
    have Lm_34 : ∀ (n_33 : Nat) (fn1_3 : (Nat → Int32)) (fn2_4 : (Nat → Int32)) (fn3_5 : (Nat → Int32)) (fn4_6 : (Nat → Int32)) (fn5_7 : (Nat → Int32)) (fn6_8 : (Nat → Int32)) (fn7_9 : (Nat → Int32)) (gn7_10 : Int32) (gn8_11 : Int32) (gn9_12 : Int32) (x2_13 : Int32) (x3_14 : Int32) (H : Heap) (locs : List Loc) (ls : Array Slot), μ18_16 fn1_3 fn2_4 fn3_5 fn4_6 fn5_7 fn6_8 fn7_9 gn7_10 gn8_11 gn9_12 x2_13 x3_14 < n_33 → I18_15 fn1_3 fn2_4 fn3_5 fn4_6 fn5_7 fn6_8 fn7_9 gn7_10 gn8_11 gn9_12 x2_13 x3_14 → va_P G.1 vwCl [(h0, .inr (7, [.ref e0, .ref t, .ref k, .ref n, .ref j, .ref i0, .int kp, .ref b0, .ref s0, .ref q, .ref g])), (t, .inr (6, [.int ns, .int np, .int fu, .int fd, .int fi, .ref t1, .ref t2, .ref t3, .ref t4, .ref t5, .ref t6])), aI G t1 9 sz_, aI G t2 9 pt, aI G t3 9 fh, aI G t4 8 kd, aI G t5 8 nd, aI G t6 8 fw, (n, .inr (1, [.ref n1, .ref n2, .ref n3, .ref n4, .ref n5, .ref n6, .ref n7, .int gn7_10, .int gn8_11, .int gn9_12])), aI G n1 9 fn1_3, aI G n2 8 fn2_4, aI G n3 8 fn3_5, aI G n4 8 fn4_6, aI G n5 8 fn5_7, aI G n6 8 fn6_8, aI G n7 72 fn7_9] H → va_D A [(h0, .inr (7, [.ref e0, .ref t, .ref k, .ref n, .ref j, .ref i0, .int kp, .ref b0, .ref s0, .ref q, .ref g])), (t, .inr (6, [.int ns, .int np, .int fu, .int fd, .int fi, .ref t1, .ref t2, .ref t3, .ref t4, .ref t5, .ref t6])), aI G t1 9 sz_, aI G t2 9 pt, aI G t3 9 fh, aI G t4 8 kd, aI G t5 8 nd, aI G t6 8 fw, (n, .inr (1, [.ref n1, .ref n2, .ref n3, .ref n4, .ref n5, .ref n6, .ref n7, .int gn7_10, .int gn8_11, .int gn9_12])), aI G n1 9 fn1_3, aI G n2 8 fn2_4, aI G n3 8 fn3_5, aI G n4 8 fn4_6, aI G n5 8 fn5_7, aI G n6 8 fn6_8, aI G n7 72 fn7_9] → va_S A s.heap H locs → lv_has ls 4 [(3, .int x3_14), (2, .int x2_13), (0, .ref h0), (1, .int x)] → W p l e R s m args below meth c H locs 0 0 Q (F0 m 18 ls []) := by
      intro n_33
      induction n_33 with
      | zero => intro fn1_3 fn2_4 fn3_5 fn4_6 fn5_7 fn6_8 fn7_9 gn7_10 gn8_11 gn9_12 x2_13 x3_14 H locs ls hm; exact absurd hm (Nat.not_lt_zero _)
      | succ n_33 ih_17 =>
        intro fn1_3 fn2_4 fn3_5 fn4_6 fn5_7 fn6_8 fn7_9 gn7_10 gn8_11 gn9_12 x2_13 x3_14 H locs ls hI_18 hi hP hD hS hl
        have hv := hs_32 fn1_3 fn2_4 fn3_5 fn4_6 fn5_7 fn6_8 fn7_9 gn7_10 gn8_11 gn9_12 x2_13 x3_14 hi
        refine lv_iload_n hx hb dX7_drift_18 rfl (lv_at hl 0 rfl) ?_
        refine lv_iload_n hx hb dX7_drift_19 rfl (lv_at hl 3 rfl) ?_
        refine lv_icmp_ge (tgt := 52) hx hb dX7_drift_20 (by decide) (fun hc_19 => ?_) (fun hc_19 => ?_)
        · have hv := hv.1 hc_19
          refine lv_iload_n hx hb dX7_drift_52 rfl (lv_at hl 1 rfl) ?_
          exact x_iret (v := x2_13) (fn1_3, fn2_4, fn3_5, fn4_6, fn5_7, fn6_8, fn7_9, gn7_10, gn8_11, gn9_12) hQ hx hb hr hlocks hS dX7_drift_53 hv hP hD
        · have hv := hv.2 hc_19
          refine lv_aload_n hx hb dX7_drift_23 rfl (lv_at hl 2 rfl) ?_
          refine va_get (D := G.1) (ci := 7) (v := .ref n) (C := RX7) (T := TX7) (N := 11) hx hb hts hinX7 hown hKK.1 hP 0 rfl rfl 3 (by decide) kl29 (fun _ h9 => h9) rfl dX7_drift_24 ?_
          refine lv_aload_n hx hb dX7_drift_27 rfl (lv_at hl 2 rfl) ?_
          refine va_get (D := G.1) (ci := 7) (v := .ref t) (C := RX7) (T := TX7) (N := 11) hx hb hts hinX7 hown hKK.1 hP 0 rfl rfl 1 (by decide) kl19 (fun _ h9 => h9) rfl dX7_drift_28 ?_
          obtain ⟨hp, hv⟩ := hv
          refine x_callv (wr := [(h0, .inr (7, [.ref e0, .ref t, .ref k, .ref n, .ref j, .ref i0, .int kp, .ref b0, .ref s0, .ref q, .ref g]))]) (w' := fun (u : (Nat → Int32) × (Int32)) => [(h0, .inr (7, [.ref e0, .ref t, .ref k, .ref n, .ref j, .ref i0, .int kp, .ref b0, .ref s0, .ref q, .ref g])), (t, .inr (6, [.int ns, .int np, .int fu, .int fd, .int fi, .ref t1, .ref t2, .ref t3, .ref t4, .ref t5, .ref t6])), aI G t1 9 sz_, aI G t2 9 pt, aI G t3 9 fh, aI G t4 8 kd, aI G t5 8 nd, aI G t6 8 fw, (n, .inr (1, [.ref n1, .ref n2, .ref n3, .ref n4, .ref n5, .ref n6, .ref n7, .int gn7_10, .int gn8_11, .int u.2])), aI G n1 9 fn1_3, aI G n2 8 fn2_4, aI G n3 8 u.1, aI G n4 8 fn4_6, aI G n5 8 fn5_7, aI G n6 8 fn6_8, aI G n7 72 fn7_9]) (x_runV (As := [.ref t]) (rest := []) (n := 1) (C := RX1) (ci := 1) ⟨hx, hb, hml, hown, hts⟩ (k_X1_moveByDraws l G n n1 n2 n3 n4 n5 n6 n7 t t1 t2 t3 t4 t5 t6 _ fn1_3 fn2_4 fn3_5 fn4_6 fn5_7 fn6_8 fn7_9 gn7_10 gn8_11 gn9_12 ns np fu fd fi sz_ pt fh kd nd fw hp) gX7_drift_X1_moveByDraws rfl (by decide +kernel) ⟨Nat.le_trans (Nat.le_of_ble_eq_true rfl) hRf, Nat.le_trans (Nat.le_of_ble_eq_true rfl) hRl⟩ hKK hSS hS hA hP hD [8, 9, 10, 11, 12, 13, 14, 15, 1, 2, 3, 4, 5, 6, 7] (by decide) rfl rfl rfl 8 rfl rfl hl.1 rfl (Nat.le_of_ble_eq_true rfl) dX7_drift_31) hP hD hS hA [8, 9, 10, 11, 12, 13, 14, 15, 1, 2, 3, 4, 5, 6, 7] [0] [0, 9, 10, 11, 12, 13, 14, 15, 1, 2, 3, 4, 5, 6, 7, 8] rfl rfl (by decide) (by decide) (by decide) (fun _ => rfl) (fun  u H locs hw hP hD hS => ?_)
          obtain ⟨se2_21, sd2_22⟩ := u
          have hP : va_P G.1 vwCl [(h0, .inr (7, [.ref e0, .ref t, .ref k, .ref n, .ref j, .ref i0, .int kp, .ref b0, .ref s0, .ref q, .ref g])), (t, .inr (6, [.int ns, .int np, .int fu, .int fd, .int fi, .ref t1, .ref t2, .ref t3, .ref t4, .ref t5, .ref t6])), aI G t1 9 sz_, aI G t2 9 pt, aI G t3 9 fh, aI G t4 8 kd, aI G t5 8 nd, aI G t6 8 fw, (n, .inr (1, [.ref n1, .ref n2, .ref n3, .ref n4, .ref n5, .ref n6, .ref n7, .int gn7_10, .int gn8_11, .int sd2_22])), aI G n1 9 fn1_3, aI G n2 8 fn2_4, aI G n3 8 se2_21, aI G n4 8 fn4_6, aI G n5 8 fn5_7, aI G n6 8 fn6_8, aI G n7 72 fn7_9] H := hP
          have hD : va_D A [(h0, .inr (7, [.ref e0, .ref t, .ref k, .ref n, .ref j, .ref i0, .int kp, .ref b0, .ref s0, .ref q, .ref g])), (t, .inr (6, [.int ns, .int np, .int fu, .int fd, .int fi, .ref t1, .ref t2, .ref t3, .ref t4, .ref t5, .ref t6])), aI G t1 9 sz_, aI G t2 9 pt, aI G t3 9 fh, aI G t4 8 kd, aI G t5 8 nd, aI G t6 8 fw, (n, .inr (1, [.ref n1, .ref n2, .ref n3, .ref n4, .ref n5, .ref n6, .ref n7, .int gn7_10, .int gn8_11, .int sd2_22])), aI G n1 9 fn1_3, aI G n2 8 fn2_4, aI G n3 8 se2_21, aI G n4 8 fn4_6, aI G n5 8 fn5_7, aI G n6 8 fn6_8, aI G n7 72 fn7_9] := hD
          have hv := hv se2_21 sd2_22 hw
          refine lv_aload_n hx hb dX7_drift_34 rfl (lv_at hl 2 rfl) ?_
          refine va_get (D := G.1) (ci := 7) (v := .ref n) (C := RX7) (T := TX7) (N := 11) hx hb hts hinX7 hown hKK.1 hP 0 rfl rfl 3 (by decide) kl29 (fun _ h9 => h9) rfl dX7_drift_35 ?_
          refine lv_aload_n hx hb dX7_drift_38 rfl (lv_at hl 2 rfl) ?_
          refine va_get (D := G.1) (ci := 7) (v := .ref t) (C := RX7) (T := TX7) (N := 11) hx hb hts hinX7 hown hKK.1 hP 0 rfl rfl 1 (by decide) kl19 (fun _ h9 => h9) rfl dX7_drift_39 ?_
          obtain ⟨hp, hv⟩ := hv
          refine x_calli (wr := [(h0, .inr (7, [.ref e0, .ref t, .ref k, .ref n, .ref j, .ref i0, .int kp, .ref b0, .ref s0, .ref q, .ref g]))]) (w' := fun (u : (Nat → Int32) × (Nat → Int32) × (Nat → Int32) × (Nat → Int32) × (Nat → Int32) × (Nat → Int32) × (Int32) × (Int32)) => [(h0, .inr (7, [.ref e0, .ref t, .ref k, .ref n, .ref j, .ref i0, .int kp, .ref b0, .ref s0, .ref q, .ref g])), (t, .inr (6, [.int ns, .int np, .int fu, .int fd, .int fi, .ref t1, .ref t2, .ref t3, .ref t4, .ref t5, .ref t6])), aI G t1 9 sz_, aI G t2 9 pt, aI G t3 9 fh, aI G t4 8 kd, aI G t5 8 nd, aI G t6 8 fw, (n, .inr (1, [.ref n1, .ref n2, .ref n3, .ref n4, .ref n5, .ref n6, .ref n7, .int u.2.2.2.2.2.2.1, .int u.2.2.2.2.2.2.2, .int sd2_22])), aI G n1 9 u.1, aI G n2 8 u.2.1, aI G n3 8 se2_21, aI G n4 8 u.2.2.1, aI G n5 8 u.2.2.2.1, aI G n6 8 u.2.2.2.2.1, aI G n7 72 u.2.2.2.2.2.1]) (x_runV (As := [.ref t]) (rest := []) (n := 1) (C := RX1) (ci := 1) ⟨hx, hb, hml, hown, hts⟩ (k_X1_passMinute l G n n1 n2 n3 n4 n5 n6 n7 t t1 t2 t3 t4 t5 t6 _ fn1_3 fn2_4 se2_21 fn4_6 fn5_7 fn6_8 fn7_9 gn7_10 gn8_11 sd2_22 ns np fu fd fi sz_ pt fh kd nd fw hp) gX7_drift_X1_passMinute rfl (by decide +kernel) ⟨Nat.le_trans (Nat.le_of_ble_eq_true rfl) hRf, Nat.le_trans (Nat.le_of_ble_eq_true rfl) hRl⟩ hKK hSS hS hA hP hD [8, 9, 10, 11, 12, 13, 14, 15, 1, 2, 3, 4, 5, 6, 7] (by decide) rfl rfl rfl 8 rfl rfl hl.1 rfl (Nat.le_of_ble_eq_true rfl) dX7_drift_42) hP hD hS hA [8, 9, 10, 11, 12, 13, 14, 15, 1, 2, 3, 4, 5, 6, 7] [0] [0, 9, 10, 11, 12, 13, 14, 15, 1, 2, 3, 4, 5, 6, 7, 8] rfl rfl (by decide) (by decide) (by decide) (fun _ => rfl) (fun r_23 u H locs hw hP hD hS => ?_)
          obtain ⟨ht2_24, wm2_25, cd2_26, sl2_27, od2_28, ow2_29, lo2_30, mi2_31⟩ := u
          have hP : va_P G.1 vwCl [(h0, .inr (7, [.ref e0, .ref t, .ref k, .ref n, .ref j, .ref i0, .int kp, .ref b0, .ref s0, .ref q, .ref g])), (t, .inr (6, [.int ns, .int np, .int fu, .int fd, .int fi, .ref t1, .ref t2, .ref t3, .ref t4, .ref t5, .ref t6])), aI G t1 9 sz_, aI G t2 9 pt, aI G t3 9 fh, aI G t4 8 kd, aI G t5 8 nd, aI G t6 8 fw, (n, .inr (1, [.ref n1, .ref n2, .ref n3, .ref n4, .ref n5, .ref n6, .ref n7, .int lo2_30, .int mi2_31, .int sd2_22])), aI G n1 9 ht2_24, aI G n2 8 wm2_25, aI G n3 8 se2_21, aI G n4 8 cd2_26, aI G n5 8 sl2_27, aI G n6 8 od2_28, aI G n7 72 ow2_29] H := hP
          have hD : va_D A [(h0, .inr (7, [.ref e0, .ref t, .ref k, .ref n, .ref j, .ref i0, .int kp, .ref b0, .ref s0, .ref q, .ref g])), (t, .inr (6, [.int ns, .int np, .int fu, .int fd, .int fi, .ref t1, .ref t2, .ref t3, .ref t4, .ref t5, .ref t6])), aI G t1 9 sz_, aI G t2 9 pt, aI G t3 9 fh, aI G t4 8 kd, aI G t5 8 nd, aI G t6 8 fw, (n, .inr (1, [.ref n1, .ref n2, .ref n3, .ref n4, .ref n5, .ref n6, .ref n7, .int lo2_30, .int mi2_31, .int sd2_22])), aI G n1 9 ht2_24, aI G n2 8 wm2_25, aI G n3 8 se2_21, aI G n4 8 cd2_26, aI G n5 8 sl2_27, aI G n6 8 od2_28, aI G n7 72 ow2_29] := hD
          have hv := hv r_23 ht2_24 wm2_25 cd2_26 sl2_27 od2_28 ow2_29 lo2_30 mi2_31 hw
          refine lv_istore_n (lv' := [(2, .int r_23), (3, .int x3_14), (0, .ref h0), (1, .int x)]) hx hb dX7_drift_45 rfl hl (by decide) rfl (fun ls hl => ?_)
          refine lv_iinc (v := (x3_14 + 1)) (lv' := [(3, .int (x3_14 + 1)), (2, .int r_23), (0, .ref h0), (1, .int x)]) hx hb dX7_drift_46 hl (k := 1) rfl rfl (by decide) rfl (fun ls hl => ?_)
          refine lv_goto (tgt := 18) hx hb dX7_drift_49 (by decide) ?_
          exact ih_17 _ _ _ _ _ _ _ _ _ _ _ _ _ _ _ (Nat.lt_of_lt_of_le hv.2 (Nat.le_of_lt_succ hI_18)) hv.1 hP hD hS hl
    exact Lm_34 _ _ _ _ _ _ _ _ _ _ _ _ _ _ _ _ (Nat.lt_succ_self _) hi0 hP hD hS hl
  · have hv := hv.2 (tv_eq.mp hc_2)
    refine lv_ldc (v := (-1000000002)) hx hb hown kl72 dX7_drift_11 ?_
    exact x_iret (v := (-1000000002)) (ht, wm, se, cd, sl, od, ow, lo, mi, sd) hQ hx hb hr hlocks hS dX7_drift_13 hv hP hD
theorem k_X7_drift (l : Launch) (G : Gt) (h0 t t1 t2 t3 t4 t5 t6 n n1 n2 n3 n4 n5 n6 n7 : Nat) (sz : Nat) (e0 : Nat) (k : Nat) (j : Nat) (i0 : Nat) (b0 : Nat) (s0 : Nat) (q : Nat) (g : Nat) (kp : Int32) (ns : Int32) (np : Int32) (fu : Int32) (fd : Int32) (fi : Int32) (sz_ : Nat → Int32) (pt : Nat → Int32) (fh : Nat → Int32) (kd : Nat → Int32) (nd : Nat → Int32) (fw : Nat → Int32) (ht : Nat → Int32) (wm : Nat → Int32) (se : Nat → Int32) (cd : Nat → Int32) (sl : Nat → Int32) (od : Nat → Int32) (ow : Nat → Int32) (lo : Int32) (mi : Int32) (sd : Int32) (x : Int32) (hp : True) : MetI l yX7_drift wsX7_drift 4 95 G [.ref h0, .int x] [(h0, .inr (7, [.ref e0, .ref t, .ref k, .ref n, .ref j, .ref i0, .int kp, .ref b0, .ref s0, .ref q, .ref g])), (t, .inr (6, [.int ns, .int np, .int fu, .int fd, .int fi, .ref t1, .ref t2, .ref t3, .ref t4, .ref t5, .ref t6])), aI G t1 9 sz_, aI G t2 9 pt, aI G t3 9 fh, aI G t4 8 kd, aI G t5 8 nd, aI G t6 8 fw, (n, .inr (1, [.ref n1, .ref n2, .ref n3, .ref n4, .ref n5, .ref n6, .ref n7, .int lo, .int mi, .int sd])), aI G n1 9 ht, aI G n2 8 wm, aI G n3 8 se, aI G n4 8 cd, aI G n5 8 sl, aI G n6 8 od, aI G n7 72 ow] sz (fun (r : Int32) (u : (Nat → Int32) × (Nat → Int32) × (Nat → Int32) × (Nat → Int32) × (Nat → Int32) × (Nat → Int32) × (Nat → Int32) × (Int32) × (Int32) × (Int32)) => True) (fun (u : (Nat → Int32) × (Nat → Int32) × (Nat → Int32) × (Nat → Int32) × (Nat → Int32) × (Nat → Int32) × (Nat → Int32) × (Int32) × (Int32) × (Int32)) => [(h0, .inr (7, [.ref e0, .ref t, .ref k, .ref n, .ref j, .ref i0, .int kp, .ref b0, .ref s0, .ref q, .ref g])), (t, .inr (6, [.int ns, .int np, .int fu, .int fd, .int fi, .ref t1, .ref t2, .ref t3, .ref t4, .ref t5, .ref t6])), aI G t1 9 sz_, aI G t2 9 pt, aI G t3 9 fh, aI G t4 8 kd, aI G t5 8 nd, aI G t6 8 fw, (n, .inr (1, [.ref n1, .ref n2, .ref n3, .ref n4, .ref n5, .ref n6, .ref n7, .int u.2.2.2.2.2.2.2.1, .int u.2.2.2.2.2.2.2.2.1, .int u.2.2.2.2.2.2.2.2.2])), aI G n1 9 u.1, aI G n2 8 u.2.1, aI G n3 8 u.2.2.1, aI G n4 8 u.2.2.2.1, aI G n5 8 u.2.2.2.2.1, aI G n6 8 u.2.2.2.2.2.1, aI G n7 72 u.2.2.2.2.2.2.1]) :=
  c_X7_drift l G h0 t t1 t2 t3 t4 t5 t6 n n1 n2 n3 n4 n5 n6 n7 sz e0 k j i0 b0 s0 q g kp ns np fu fd fi sz_ pt fh kd nd fw ht wm se cd sl od ow lo mi sd x (by
    sorry)

set_option maxHeartbeats 4000000 in
set_option maxRecDepth 100000 in
theorem c_X7_own (l : Launch) (G : Gt) (h0 t t1 t2 t3 t4 t5 t6 n n1 n2 n3 n4 n5 n6 n7 : Nat) (sz : Nat) (e0 : Nat) (k : Nat) (j : Nat) (i0 : Nat) (b0 : Nat) (s0 : Nat) (q : Nat) (g : Nat) (kp : Int32) (ns : Int32) (np : Int32) (fu : Int32) (fd : Int32) (fi : Int32) (sz_ : Nat → Int32) (pt : Nat → Int32) (fh : Nat → Int32) (kd : Nat → Int32) (nd : Nat → Int32) (fw : Nat → Int32) (ht : Nat → Int32) (wm : Nat → Int32) (se : Nat → Int32) (cd : Nat → Int32) (sl : Nat → Int32) (od : Nat → Int32) (ow : Nat → Int32) (lo : Int32) (mi : Int32) (sd : Int32) (x : Int32) (v : Int32) (w0 : Int32) (hv : (¬ (¬ x < 0 ∧ ¬ np ≤ x) → True) ∧ (¬ x < 0 ∧ ¬ np ≤ x → (¬ v < 0 ∧ ¬ ns ≤ v → (¬ w0 < 1 ∧ ¬ 9999 < w0 → (vp_in (x * 9 + v) 72) ∧ ((vp_in (x * 9 + v) 72) ∧ ((vp_in (x * 9 + v) 72) ∧ (True)))) ∧ (¬ (¬ w0 < 1 ∧ ¬ 9999 < w0) → True)) ∧ (¬ (¬ v < 0 ∧ ¬ ns ≤ v) → True))) : MetI l yX7_own wsX7_own 1 22 G [.ref h0, .int x, .int v, .int w0] [(h0, .inr (7, [.ref e0, .ref t, .ref k, .ref n, .ref j, .ref i0, .int kp, .ref b0, .ref s0, .ref q, .ref g])), (t, .inr (6, [.int ns, .int np, .int fu, .int fd, .int fi, .ref t1, .ref t2, .ref t3, .ref t4, .ref t5, .ref t6])), aI G t1 9 sz_, aI G t2 9 pt, aI G t3 9 fh, aI G t4 8 kd, aI G t5 8 nd, aI G t6 8 fw, (n, .inr (1, [.ref n1, .ref n2, .ref n3, .ref n4, .ref n5, .ref n6, .ref n7, .int lo, .int mi, .int sd])), aI G n1 9 ht, aI G n2 8 wm, aI G n3 8 se, aI G n4 8 cd, aI G n5 8 sl, aI G n6 8 od, aI G n7 72 ow] sz (fun (r : Int32) (u : (Nat → Int32)) => True) (fun (u : (Nat → Int32)) => [(h0, .inr (7, [.ref e0, .ref t, .ref k, .ref n, .ref j, .ref i0, .int kp, .ref b0, .ref s0, .ref q, .ref g])), (t, .inr (6, [.int ns, .int np, .int fu, .int fd, .int fi, .ref t1, .ref t2, .ref t3, .ref t4, .ref t5, .ref t6])), aI G t1 9 sz_, aI G t2 9 pt, aI G t3 9 fh, aI G t4 8 kd, aI G t5 8 nd, aI G t6 8 fw, (n, .inr (1, [.ref n1, .ref n2, .ref n3, .ref n4, .ref n5, .ref n6, .ref n7, .int lo, .int mi, .int sd])), aI G n1 9 ht, aI G n2 8 wm, aI G n3 8 se, aI G n4 8 cd, aI G n5 8 sl, aI G n6 8 od, aI G n7 72 u]) := by
  refine x_startI (cc := cX7_own) (maxL := 5) (ret := (some .int)) (by decide) rfl (Nat.le_of_ble_eq_true rfl) ?_
  intro p e s m args below meth c A R Q ls hRf hRl hQ C hP hD hS hA hSS hl
  obtain ⟨hx, hb, hr, hml, hown, hts, hlocks, hKK⟩ := C
  have hown : s.vm.findClass RX7 = some m.cls := hown
  have hl : lv_has ls 5 [(0, .ref h0), (1, .int x), (2, .int v), (3, .int w0)] := hl
  have hinX1 : ∀ w ∈ u_ws RX1 TX1 10, w ∈ wsX7_own := by decide +kernel
  have hinX7 : ∀ w ∈ u_ws RX7 TX7 11, w ∈ wsX7_own := by decide +kernel
  have kl143 := hts (.constant RX7 143 (-1000000001)) (by decide +kernel)
  have kl172 := hts (.fieldLink RX7 172 "WarmStones$Night" "owned" "[I") (by decide +kernel)
  have kl186 := hts (.constant RX7 186 (99999)) (by decide +kernel)
  have kl187 := hts (.methodLink RX7 187 Lib.Math.min.name) (by decide +kernel)
  have kl19 := hts (.fieldLink RX7 19 "WarmStones" "town" "LWarmStones$Town;") (by decide +kernel)
  have kl29 := hts (.fieldLink RX7 29 "WarmStones" "night" "LWarmStones$Night;") (by decide +kernel)
  have kl72 := hts (.constant RX7 72 (-1000000002)) (by decide +kernel)
  have km_c_min := hts (.code Lib.Math.min.name Lib.Math.min.code 2 (some .int)) (by decide +kernel)
  have km_i := hts (.initialized "java/lang/Math") (by decide +kernel)
  have km_s_min := hts (.static Lib.Math.min.name) (by decide +kernel)
  refine lv_aload_n hx hb dX7_own_0 rfl (lv_at hl 0 rfl) ?_
  refine va_get (D := G.1) (ci := 7) (v := .ref t) (C := RX7) (T := TX7) (N := 11) hx hb hts hinX7 hown hKK.1 hP 0 rfl rfl 1 (by decide) kl19 (fun _ h9 => h9) rfl dX7_own_1 ?_
  refine lv_iload_n hx hb dX7_own_4 rfl (lv_at hl 1 rfl) ?_
  refine x_calliR (x_runV (As := [.int x]) (rest := []) (n := 1) (C := RX6) (ci := 6) ⟨hx, hb, hml, hown, hts⟩ (k_X6_hasPerson l G t t1 t2 t3 t4 t5 t6 _ ns np fu fd fi sz_ pt fh kd nd fw x) gX7_own_X6_hasPerson rfl (by decide +kernel) ⟨Nat.le_trans (Nat.le_of_ble_eq_true rfl) hRf, Nat.le_trans (Nat.le_of_ble_eq_true rfl) hRl⟩ hKK hSS hS hA hP hD [1, 2, 3, 4, 5, 6, 7] (by decide) rfl rfl rfl 1 rfl rfl hl.1 rfl (Nat.le_of_ble_eq_true rfl) dX7_own_5) hP hD hS hA [1, 2, 3, 4, 5, 6, 7] rfl (fun r_1 _ H locs hw hP hS => ?_)
  replace hw := hw.symm; subst hw
  refine lv_if_eq (tgt := 22) hx hb dX7_own_8 (by decide) (fun hc_2 => ?_) (fun hc_2 => ?_)
  · have hv := hv.1 (tv_eq.mp hc_2)
    refine lv_ldc (v := (-1000000001)) hx hb hown kl143 dX7_own_22 ?_
    exact x_iret (v := (-1000000001)) ow hQ hx hb hr hlocks hS dX7_own_24 hv hP hD
  · have hv := hv.2 (tv_eqn.mp hc_2)
    refine lv_aload_n hx hb dX7_own_11 rfl (lv_at hl 0 rfl) ?_
    refine va_get (D := G.1) (ci := 7) (v := .ref t) (C := RX7) (T := TX7) (N := 11) hx hb hts hinX7 hown hKK.1 hP 0 rfl rfl 1 (by decide) kl19 (fun _ h9 => h9) rfl dX7_own_12 ?_
    refine lv_iload_n hx hb dX7_own_15 rfl (lv_at hl 2 rfl) ?_
    refine x_calliR (x_runV (As := [.int v]) (rest := []) (n := 1) (C := RX6) (ci := 6) ⟨hx, hb, hml, hown, hts⟩ (k_X6_hasStone l G t t1 t2 t3 t4 t5 t6 _ ns np fu fd fi sz_ pt fh kd nd fw v) gX7_own_X6_hasStone rfl (by decide +kernel) ⟨Nat.le_trans (Nat.le_of_ble_eq_true rfl) hRf, Nat.le_trans (Nat.le_of_ble_eq_true rfl) hRl⟩ hKK hSS hS hA hP hD [1, 2, 3, 4, 5, 6, 7] (by decide) rfl rfl rfl 1 rfl rfl hl.1 rfl (Nat.le_of_ble_eq_true rfl) dX7_own_16) hP hD hS hA [1, 2, 3, 4, 5, 6, 7] rfl (fun r_3 _ H locs hw hP hS => ?_)
    replace hw := hw.symm; subst hw
    refine lv_if_ne (tgt := 25) hx hb dX7_own_19 (by decide) (fun hc_4 => ?_) (fun hc_4 => ?_)
    · have hv := hv.1 (tv_eqn.mp hc_4)
      refine lv_iload_n hx hb dX7_own_25 rfl (lv_at hl 3 rfl) ?_
      refine lv_iconst (v := 1) hx hb dX7_own_26 (by decide) ?_
      refine lv_sipush (v := 9999) hx hb dX7_own_27 (by decide) ?_
      refine x_calliR (x_runS (As := [.int w0, .int 1, .int 9999]) (rest := []) (n := 3) ⟨hx, hb, hml, hown, hts⟩ (k_X7_within l G  _ w0 1 9999) gX7_own_X7_within rfl (by decide +kernel) ⟨Nat.le_trans (Nat.le_of_ble_eq_true rfl) hRf, Nat.le_trans (Nat.le_of_ble_eq_true rfl) hRl⟩ hKK hSS hS hA hP hD [] (by decide) rfl rfl hl.1 rfl (Nat.le_of_ble_eq_true rfl) dX7_own_30) hP hD hS hA [] rfl (fun r_5 _ H locs hw hP hS => ?_)
      replace hw := hw.symm; subst hw
      refine lv_if_ne (tgt := 39) hx hb dX7_own_33 (by decide) (fun hc_6 => ?_) (fun hc_6 => ?_)
      · have hv := hv.1 (tv_eqn.mp hc_6)
        refine lv_iload_n hx hb dX7_own_39 rfl (lv_at hl 1 rfl) ?_
        refine lv_iload_n hx hb dX7_own_40 rfl (lv_at hl 2 rfl) ?_
        refine x_calliR (x_runS (As := [.int x, .int v]) (rest := []) (n := 2) ⟨hx, hb, hml, hown, hts⟩ (k_X7_ownedAt l G  _ x v) gX7_own_X7_ownedAt rfl (by decide +kernel) ⟨Nat.le_trans (Nat.le_of_ble_eq_true rfl) hRf, Nat.le_trans (Nat.le_of_ble_eq_true rfl) hRl⟩ hKK hSS hS hA hP hD [] (by decide) rfl rfl hl.1 rfl (Nat.le_of_ble_eq_true rfl) dX7_own_41) hP hD hS hA [] rfl (fun r_7 _ H locs hw hP hS => ?_)
        replace hw := hw.symm; subst hw
        refine lv_istore (lv' := [(4, .int (x * 9 + v)), (0, .ref h0), (1, .int x), (2, .int v), (3, .int w0)]) hx hb dX7_own_44 hl (by decide) rfl (fun ls hl => ?_)
        refine lv_aload_n hx hb dX7_own_46 rfl (lv_at hl 1 rfl) ?_
        refine va_get (D := G.1) (ci := 7) (v := .ref n) (C := RX7) (T := TX7) (N := 11) hx hb hts hinX7 hown hKK.1 hP 0 rfl rfl 3 (by decide) kl29 (fun _ h9 => h9) rfl dX7_own_47 ?_
        refine va_get (D := G.1) (ci := 1) (v := .ref n7) (C := RX1) (T := TX1) (N := 10) hx hb hts hinX1 hown hKK.1 hP 8 rfl rfl 6 (by decide) kl172 (fun _ h9 => h9) rfl dX7_own_50 ?_
        refine lv_iload hx hb dX7_own_53 (lv_at hl 0 rfl) ?_
        refine lv_aload_n hx hb dX7_own_55 rfl (lv_at hl 1 rfl) ?_
        refine va_get (D := G.1) (ci := 7) (v := .ref n) (C := RX7) (T := TX7) (N := 11) hx hb hts hinX7 hown hKK.1 hP 0 rfl rfl 3 (by decide) kl29 (fun _ h9 => h9) rfl dX7_own_56 ?_
        refine va_get (D := G.1) (ci := 1) (v := .ref n7) (C := RX1) (T := TX1) (N := 10) hx hb hts hinX1 hown hKK.1 hP 8 rfl rfl 6 (by decide) kl172 (fun _ h9 => h9) rfl dX7_own_59 ?_
        refine lv_iload hx hb dX7_own_62 (lv_at hl 0 rfl) ?_
        obtain ⟨hin, hv⟩ := hv
        refine va_iald hx hb hKK.1 hP 15 0 rfl rfl hin dX7_own_64 ?_
        refine lv_iload_n hx hb dX7_own_65 rfl (lv_at hl 4 rfl) ?_
        refine lv_iadd hx hb dX7_own_66 ?_
        refine lv_ldc (v := 99999) hx hb hown kl186 dX7_own_67 ?_
        refine va_mmin hx hb (hml.trans hl.1.symm) hown kl187 km_s_min km_i km_c_min (Nat.le_trans (Nat.le_of_ble_eq_true rfl) hRf) (Nat.le_trans (Nat.le_of_ble_eq_true rfl) hRl) (Nat.zero_le _) (Nat.zero_le _) dX7_own_69 ?_
        obtain ⟨hin, hv⟩ := hv
        refine va_iast hx hb hKK.1 hP hD hS 15 0 rfl rfl hin dX7_own_72 (fun H locs hP hD hS => ?_)
        have hP : va_P G.1 vwCl [(h0, .inr (7, [.ref e0, .ref t, .ref k, .ref n, .ref j, .ref i0, .int kp, .ref b0, .ref s0, .ref q, .ref g])), (t, .inr (6, [.int ns, .int np, .int fu, .int fd, .int fi, .ref t1, .ref t2, .ref t3, .ref t4, .ref t5, .ref t6])), aI G t1 9 sz_, aI G t2 9 pt, aI G t3 9 fh, aI G t4 8 kd, aI G t5 8 nd, aI G t6 8 fw, (n, .inr (1, [.ref n1, .ref n2, .ref n3, .ref n4, .ref n5, .ref n6, .ref n7, .int lo, .int mi, .int sd])), aI G n1 9 ht, aI G n2 8 wm, aI G n3 8 se, aI G n4 8 cd, aI G n5 8 sl, aI G n6 8 od, aI G n7 72 (upd ow ((x * 9 + v).toNatClampNeg) (if 99999 < ((ow (x * 9 + v).toNatClampNeg) + w0) then 99999 else ((ow (x * 9 + v).toNatClampNeg) + w0)))] H := hP
        have hD : va_D A [(h0, .inr (7, [.ref e0, .ref t, .ref k, .ref n, .ref j, .ref i0, .int kp, .ref b0, .ref s0, .ref q, .ref g])), (t, .inr (6, [.int ns, .int np, .int fu, .int fd, .int fi, .ref t1, .ref t2, .ref t3, .ref t4, .ref t5, .ref t6])), aI G t1 9 sz_, aI G t2 9 pt, aI G t3 9 fh, aI G t4 8 kd, aI G t5 8 nd, aI G t6 8 fw, (n, .inr (1, [.ref n1, .ref n2, .ref n3, .ref n4, .ref n5, .ref n6, .ref n7, .int lo, .int mi, .int sd])), aI G n1 9 ht, aI G n2 8 wm, aI G n3 8 se, aI G n4 8 cd, aI G n5 8 sl, aI G n6 8 od, aI G n7 72 (upd ow ((x * 9 + v).toNatClampNeg) (if 99999 < ((ow (x * 9 + v).toNatClampNeg) + w0) then 99999 else ((ow (x * 9 + v).toNatClampNeg) + w0)))] := hD
        refine lv_aload_n hx hb dX7_own_73 rfl (lv_at hl 1 rfl) ?_
        refine va_get (D := G.1) (ci := 7) (v := .ref n) (C := RX7) (T := TX7) (N := 11) hx hb hts hinX7 hown hKK.1 hP 0 rfl rfl 3 (by decide) kl29 (fun _ h9 => h9) rfl dX7_own_74 ?_
        refine va_get (D := G.1) (ci := 1) (v := .ref n7) (C := RX1) (T := TX1) (N := 10) hx hb hts hinX1 hown hKK.1 hP 8 rfl rfl 6 (by decide) kl172 (fun _ h9 => h9) rfl dX7_own_77 ?_
        refine lv_iload hx hb dX7_own_80 (lv_at hl 0 rfl) ?_
        obtain ⟨hin, hv⟩ := hv
        refine va_iald hx hb hKK.1 hP 15 0 rfl rfl hin dX7_own_82 ?_
        exact x_iret (v := ((upd ow ((x * 9 + v).toNatClampNeg) (if 99999 < ((ow (x * 9 + v).toNatClampNeg) + w0) then 99999 else ((ow (x * 9 + v).toNatClampNeg) + w0))) (x * 9 + v).toNatClampNeg)) (upd ow ((x * 9 + v).toNatClampNeg) (if 99999 < ((ow (x * 9 + v).toNatClampNeg) + w0) then 99999 else ((ow (x * 9 + v).toNatClampNeg) + w0))) hQ hx hb hr hlocks hS dX7_own_83 hv hP hD
      · have hv := hv.2 (tv_eq.mp hc_6)
        refine lv_ldc (v := (-1000000002)) hx hb hown kl72 dX7_own_36 ?_
        exact x_iret (v := (-1000000002)) ow hQ hx hb hr hlocks hS dX7_own_38 hv hP hD
    · have hv := hv.2 (tv_eq.mp hc_4)
      refine lv_ldc (v := (-1000000001)) hx hb hown kl143 dX7_own_22 ?_
      exact x_iret (v := (-1000000001)) ow hQ hx hb hr hlocks hS dX7_own_24 hv hP hD
theorem k_X7_own (l : Launch) (G : Gt) (h0 t t1 t2 t3 t4 t5 t6 n n1 n2 n3 n4 n5 n6 n7 : Nat) (sz : Nat) (e0 : Nat) (k : Nat) (j : Nat) (i0 : Nat) (b0 : Nat) (s0 : Nat) (q : Nat) (g : Nat) (kp : Int32) (ns : Int32) (np : Int32) (fu : Int32) (fd : Int32) (fi : Int32) (sz_ : Nat → Int32) (pt : Nat → Int32) (fh : Nat → Int32) (kd : Nat → Int32) (nd : Nat → Int32) (fw : Nat → Int32) (ht : Nat → Int32) (wm : Nat → Int32) (se : Nat → Int32) (cd : Nat → Int32) (sl : Nat → Int32) (od : Nat → Int32) (ow : Nat → Int32) (lo : Int32) (mi : Int32) (sd : Int32) (x : Int32) (v : Int32) (w0 : Int32) (hp : True) : MetI l yX7_own wsX7_own 1 22 G [.ref h0, .int x, .int v, .int w0] [(h0, .inr (7, [.ref e0, .ref t, .ref k, .ref n, .ref j, .ref i0, .int kp, .ref b0, .ref s0, .ref q, .ref g])), (t, .inr (6, [.int ns, .int np, .int fu, .int fd, .int fi, .ref t1, .ref t2, .ref t3, .ref t4, .ref t5, .ref t6])), aI G t1 9 sz_, aI G t2 9 pt, aI G t3 9 fh, aI G t4 8 kd, aI G t5 8 nd, aI G t6 8 fw, (n, .inr (1, [.ref n1, .ref n2, .ref n3, .ref n4, .ref n5, .ref n6, .ref n7, .int lo, .int mi, .int sd])), aI G n1 9 ht, aI G n2 8 wm, aI G n3 8 se, aI G n4 8 cd, aI G n5 8 sl, aI G n6 8 od, aI G n7 72 ow] sz (fun (r : Int32) (u : (Nat → Int32)) => True) (fun (u : (Nat → Int32)) => [(h0, .inr (7, [.ref e0, .ref t, .ref k, .ref n, .ref j, .ref i0, .int kp, .ref b0, .ref s0, .ref q, .ref g])), (t, .inr (6, [.int ns, .int np, .int fu, .int fd, .int fi, .ref t1, .ref t2, .ref t3, .ref t4, .ref t5, .ref t6])), aI G t1 9 sz_, aI G t2 9 pt, aI G t3 9 fh, aI G t4 8 kd, aI G t5 8 nd, aI G t6 8 fw, (n, .inr (1, [.ref n1, .ref n2, .ref n3, .ref n4, .ref n5, .ref n6, .ref n7, .int lo, .int mi, .int sd])), aI G n1 9 ht, aI G n2 8 wm, aI G n3 8 se, aI G n4 8 cd, aI G n5 8 sl, aI G n6 8 od, aI G n7 72 u]) :=
  c_X7_own l G h0 t t1 t2 t3 t4 t5 t6 n n1 n2 n3 n4 n5 n6 n7 sz e0 k j i0 b0 s0 q g kp ns np fu fd fi sz_ pt fh kd nd fw ht wm se cd sl od ow lo mi sd x v w0 (by
    sorry)

set_option maxHeartbeats 4000000 in
set_option maxRecDepth 100000 in
theorem c_X7_trade (l : Launch) (G : Gt) (h0 t t1 t2 t3 t4 t5 t6 n n1 n2 n3 n4 n5 n6 n7 : Nat) (sz : Nat) (e0 : Nat) (k : Nat) (j : Nat) (i0 : Nat) (b0 : Nat) (s0 : Nat) (q : Nat) (g : Nat) (kp : Int32) (ns : Int32) (np : Int32) (fu : Int32) (fd : Int32) (fi : Int32) (sz_ : Nat → Int32) (pt : Nat → Int32) (fh : Nat → Int32) (kd : Nat → Int32) (nd : Nat → Int32) (fw : Nat → Int32) (ht : Nat → Int32) (wm : Nat → Int32) (se : Nat → Int32) (cd : Nat → Int32) (sl : Nat → Int32) (od : Nat → Int32) (ow : Nat → Int32) (lo : Int32) (mi : Int32) (sd : Int32) (x : Int32) (v : Int32) (w0 : Int32) (w1 : Int32) (hv : (¬ (¬ x < 0 ∧ ¬ np ≤ x) → True) ∧ (¬ x < 0 ∧ ¬ np ≤ x → (¬ (¬ v < 0 ∧ ¬ np ≤ v) → True) ∧ (¬ v < 0 ∧ ¬ np ≤ v → (x = v → True) ∧ (¬ (x = v) → (¬ w0 < 0 ∧ ¬ ns ≤ w0 → (¬ w1 < 1 ∧ ¬ 9999 < w1 → (vp_in (x * 9 + w0) 72) ∧ ((w1 ≤ (ow (x * 9 + w0).toNatClampNeg) → (vp_in (v * 9 + w0) 72) ∧ ((((ow (v * 9 + w0).toNatClampNeg) + w1) ≤ 99999 → (vp_in (x * 9 + w0) 72) ∧ ((vp_in (x * 9 + w0) 72) ∧ ((vp_in (v * 9 + w0) 72) ∧ ((vp_in (v * 9 + w0) 72) ∧ ((vp_in (x * 9 + w0) 72) ∧ (True)))))) ∧ (¬ (((ow (v * 9 + w0).toNatClampNeg) + w1) ≤ 99999) → True))) ∧ (¬ (w1 ≤ (ow (x * 9 + w0).toNatClampNeg)) → True))) ∧ (¬ (¬ w1 < 1 ∧ ¬ 9999 < w1) → True)) ∧ (¬ (¬ w0 < 0 ∧ ¬ ns ≤ w0) → True))))) : MetI l yX7_trade wsX7_trade 1 22 G [.ref h0, .int x, .int v, .int w0, .int w1] [(h0, .inr (7, [.ref e0, .ref t, .ref k, .ref n, .ref j, .ref i0, .int kp, .ref b0, .ref s0, .ref q, .ref g])), (t, .inr (6, [.int ns, .int np, .int fu, .int fd, .int fi, .ref t1, .ref t2, .ref t3, .ref t4, .ref t5, .ref t6])), aI G t1 9 sz_, aI G t2 9 pt, aI G t3 9 fh, aI G t4 8 kd, aI G t5 8 nd, aI G t6 8 fw, (n, .inr (1, [.ref n1, .ref n2, .ref n3, .ref n4, .ref n5, .ref n6, .ref n7, .int lo, .int mi, .int sd])), aI G n1 9 ht, aI G n2 8 wm, aI G n3 8 se, aI G n4 8 cd, aI G n5 8 sl, aI G n6 8 od, aI G n7 72 ow] sz (fun (r : Int32) (u : (Nat → Int32)) => True) (fun (u : (Nat → Int32)) => [(h0, .inr (7, [.ref e0, .ref t, .ref k, .ref n, .ref j, .ref i0, .int kp, .ref b0, .ref s0, .ref q, .ref g])), (t, .inr (6, [.int ns, .int np, .int fu, .int fd, .int fi, .ref t1, .ref t2, .ref t3, .ref t4, .ref t5, .ref t6])), aI G t1 9 sz_, aI G t2 9 pt, aI G t3 9 fh, aI G t4 8 kd, aI G t5 8 nd, aI G t6 8 fw, (n, .inr (1, [.ref n1, .ref n2, .ref n3, .ref n4, .ref n5, .ref n6, .ref n7, .int lo, .int mi, .int sd])), aI G n1 9 ht, aI G n2 8 wm, aI G n3 8 se, aI G n4 8 cd, aI G n5 8 sl, aI G n6 8 od, aI G n7 72 u]) := by
  refine x_startI (cc := cX7_trade) (maxL := 7) (ret := (some .int)) (by decide) rfl (Nat.le_of_ble_eq_true rfl) ?_
  intro p e s m args below meth c A R Q ls hRf hRl hQ C hP hD hS hA hSS hl
  obtain ⟨hx, hb, hr, hml, hown, hts, hlocks, hKK⟩ := C
  have hown : s.vm.findClass RX7 = some m.cls := hown
  have hl : lv_has ls 7 [(0, .ref h0), (1, .int x), (2, .int v), (3, .int w0), (4, .int w1)] := hl
  have hinX1 : ∀ w ∈ u_ws RX1 TX1 10, w ∈ wsX7_trade := by decide +kernel
  have hinX7 : ∀ w ∈ u_ws RX7 TX7 11, w ∈ wsX7_trade := by decide +kernel
  have kl143 := hts (.constant RX7 143 (-1000000001)) (by decide +kernel)
  have kl172 := hts (.fieldLink RX7 172 "WarmStones$Night" "owned" "[I") (by decide +kernel)
  have kl179 := hts (.constant RX7 179 (-1000000003)) (by decide +kernel)
  have kl186 := hts (.constant RX7 186 (99999)) (by decide +kernel)
  have kl19 := hts (.fieldLink RX7 19 "WarmStones" "town" "LWarmStones$Town;") (by decide +kernel)
  have kl29 := hts (.fieldLink RX7 29 "WarmStones" "night" "LWarmStones$Night;") (by decide +kernel)
  have kl72 := hts (.constant RX7 72 (-1000000002)) (by decide +kernel)
  have kl77 := hts (.constant RX7 77 (-1000000004)) (by decide +kernel)
  refine lv_aload_n hx hb dX7_trade_0 rfl (lv_at hl 0 rfl) ?_
  refine va_get (D := G.1) (ci := 7) (v := .ref t) (C := RX7) (T := TX7) (N := 11) hx hb hts hinX7 hown hKK.1 hP 0 rfl rfl 1 (by decide) kl19 (fun _ h9 => h9) rfl dX7_trade_1 ?_
  refine lv_iload_n hx hb dX7_trade_4 rfl (lv_at hl 1 rfl) ?_
  refine x_calliR (x_runV (As := [.int x]) (rest := []) (n := 1) (C := RX6) (ci := 6) ⟨hx, hb, hml, hown, hts⟩ (k_X6_hasPerson l G t t1 t2 t3 t4 t5 t6 _ ns np fu fd fi sz_ pt fh kd nd fw x) gX7_trade_X6_hasPerson rfl (by decide +kernel) ⟨Nat.le_trans (Nat.le_of_ble_eq_true rfl) hRf, Nat.le_trans (Nat.le_of_ble_eq_true rfl) hRl⟩ hKK hSS hS hA hP hD [1, 2, 3, 4, 5, 6, 7] (by decide) rfl rfl rfl 1 rfl rfl hl.1 rfl (Nat.le_of_ble_eq_true rfl) dX7_trade_5) hP hD hS hA [1, 2, 3, 4, 5, 6, 7] rfl (fun r_1 _ H locs hw hP hS => ?_)
  replace hw := hw.symm; subst hw
  refine lv_if_eq (tgt := 38) hx hb dX7_trade_8 (by decide) (fun hc_2 => ?_) (fun hc_2 => ?_)
  · have hv := hv.1 (tv_eq.mp hc_2)
    refine lv_ldc (v := (-1000000001)) hx hb hown kl143 dX7_trade_38 ?_
    exact x_iret (v := (-1000000001)) ow hQ hx hb hr hlocks hS dX7_trade_40 hv hP hD
  · have hv := hv.2 (tv_eqn.mp hc_2)
    refine lv_aload_n hx hb dX7_trade_11 rfl (lv_at hl 0 rfl) ?_
    refine va_get (D := G.1) (ci := 7) (v := .ref t) (C := RX7) (T := TX7) (N := 11) hx hb hts hinX7 hown hKK.1 hP 0 rfl rfl 1 (by decide) kl19 (fun _ h9 => h9) rfl dX7_trade_12 ?_
    refine lv_iload_n hx hb dX7_trade_15 rfl (lv_at hl 2 rfl) ?_
    refine x_calliR (x_runV (As := [.int v]) (rest := []) (n := 1) (C := RX6) (ci := 6) ⟨hx, hb, hml, hown, hts⟩ (k_X6_hasPerson l G t t1 t2 t3 t4 t5 t6 _ ns np fu fd fi sz_ pt fh kd nd fw v) gX7_trade_X6_hasPerson rfl (by decide +kernel) ⟨Nat.le_trans (Nat.le_of_ble_eq_true rfl) hRf, Nat.le_trans (Nat.le_of_ble_eq_true rfl) hRl⟩ hKK hSS hS hA hP hD [1, 2, 3, 4, 5, 6, 7] (by decide) rfl rfl rfl 1 rfl rfl hl.1 rfl (Nat.le_of_ble_eq_true rfl) dX7_trade_16) hP hD hS hA [1, 2, 3, 4, 5, 6, 7] rfl (fun r_3 _ H locs hw hP hS => ?_)
    replace hw := hw.symm; subst hw
    refine lv_if_eq (tgt := 38) hx hb dX7_trade_19 (by decide) (fun hc_4 => ?_) (fun hc_4 => ?_)
    · have hv := hv.1 (tv_eq.mp hc_4)
      refine lv_ldc (v := (-1000000001)) hx hb hown kl143 dX7_trade_38 ?_
      exact x_iret (v := (-1000000001)) ow hQ hx hb hr hlocks hS dX7_trade_40 hv hP hD
    · have hv := hv.2 (tv_eqn.mp hc_4)
      refine lv_iload_n hx hb dX7_trade_22 rfl (lv_at hl 1 rfl) ?_
      refine lv_iload_n hx hb dX7_trade_23 rfl (lv_at hl 2 rfl) ?_
      refine lv_icmp_eq (tgt := 38) hx hb dX7_trade_24 (by decide) (fun hc_5 => ?_) (fun hc_5 => ?_)
      · have hv := hv.1 hc_5
        refine lv_ldc (v := (-1000000001)) hx hb hown kl143 dX7_trade_38 ?_
        exact x_iret (v := (-1000000001)) ow hQ hx hb hr hlocks hS dX7_trade_40 hv hP hD
      · have hv := hv.2 hc_5
        refine lv_aload_n hx hb dX7_trade_27 rfl (lv_at hl 0 rfl) ?_
        refine va_get (D := G.1) (ci := 7) (v := .ref t) (C := RX7) (T := TX7) (N := 11) hx hb hts hinX7 hown hKK.1 hP 0 rfl rfl 1 (by decide) kl19 (fun _ h9 => h9) rfl dX7_trade_28 ?_
        refine lv_iload_n hx hb dX7_trade_31 rfl (lv_at hl 3 rfl) ?_
        refine x_calliR (x_runV (As := [.int w0]) (rest := []) (n := 1) (C := RX6) (ci := 6) ⟨hx, hb, hml, hown, hts⟩ (k_X6_hasStone l G t t1 t2 t3 t4 t5 t6 _ ns np fu fd fi sz_ pt fh kd nd fw w0) gX7_trade_X6_hasStone rfl (by decide +kernel) ⟨Nat.le_trans (Nat.le_of_ble_eq_true rfl) hRf, Nat.le_trans (Nat.le_of_ble_eq_true rfl) hRl⟩ hKK hSS hS hA hP hD [1, 2, 3, 4, 5, 6, 7] (by decide) rfl rfl rfl 1 rfl rfl hl.1 rfl (Nat.le_of_ble_eq_true rfl) dX7_trade_32) hP hD hS hA [1, 2, 3, 4, 5, 6, 7] rfl (fun r_6 _ H locs hw hP hS => ?_)
        replace hw := hw.symm; subst hw
        refine lv_if_ne (tgt := 41) hx hb dX7_trade_35 (by decide) (fun hc_7 => ?_) (fun hc_7 => ?_)
        · have hv := hv.1 (tv_eqn.mp hc_7)
          refine lv_iload hx hb dX7_trade_41 (lv_at hl 4 rfl) ?_
          refine lv_iconst (v := 1) hx hb dX7_trade_43 (by decide) ?_
          refine lv_sipush (v := 9999) hx hb dX7_trade_44 (by decide) ?_
          refine x_calliR (x_runS (As := [.int w1, .int 1, .int 9999]) (rest := []) (n := 3) ⟨hx, hb, hml, hown, hts⟩ (k_X7_within l G  _ w1 1 9999) gX7_trade_X7_within rfl (by decide +kernel) ⟨Nat.le_trans (Nat.le_of_ble_eq_true rfl) hRf, Nat.le_trans (Nat.le_of_ble_eq_true rfl) hRl⟩ hKK hSS hS hA hP hD [] (by decide) rfl rfl hl.1 rfl (Nat.le_of_ble_eq_true rfl) dX7_trade_47) hP hD hS hA [] rfl (fun r_8 _ H locs hw hP hS => ?_)
          replace hw := hw.symm; subst hw
          refine lv_if_ne (tgt := 56) hx hb dX7_trade_50 (by decide) (fun hc_9 => ?_) (fun hc_9 => ?_)
          · have hv := hv.1 (tv_eqn.mp hc_9)
            refine lv_iload_n hx hb dX7_trade_56 rfl (lv_at hl 1 rfl) ?_
            refine lv_iload_n hx hb dX7_trade_57 rfl (lv_at hl 3 rfl) ?_
            refine x_calliR (x_runS (As := [.int x, .int w0]) (rest := []) (n := 2) ⟨hx, hb, hml, hown, hts⟩ (k_X7_ownedAt l G  _ x w0) gX7_trade_X7_ownedAt rfl (by decide +kernel) ⟨Nat.le_trans (Nat.le_of_ble_eq_true rfl) hRf, Nat.le_trans (Nat.le_of_ble_eq_true rfl) hRl⟩ hKK hSS hS hA hP hD [] (by decide) rfl rfl hl.1 rfl (Nat.le_of_ble_eq_true rfl) dX7_trade_58) hP hD hS hA [] rfl (fun r_10 _ H locs hw hP hS => ?_)
            replace hw := hw.symm; subst hw
            refine lv_istore (lv' := [(5, .int (x * 9 + w0)), (0, .ref h0), (1, .int x), (2, .int v), (3, .int w0), (4, .int w1)]) hx hb dX7_trade_61 hl (by decide) rfl (fun ls hl => ?_)
            refine lv_iload_n hx hb dX7_trade_63 rfl (lv_at hl 3 rfl) ?_
            refine lv_iload_n hx hb dX7_trade_64 rfl (lv_at hl 4 rfl) ?_
            refine x_calliR (x_runS (As := [.int v, .int w0]) (rest := []) (n := 2) ⟨hx, hb, hml, hown, hts⟩ (k_X7_ownedAt l G  _ v w0) gX7_trade_X7_ownedAt rfl (by decide +kernel) ⟨Nat.le_trans (Nat.le_of_ble_eq_true rfl) hRf, Nat.le_trans (Nat.le_of_ble_eq_true rfl) hRl⟩ hKK hSS hS hA hP hD [] (by decide) rfl rfl hl.1 rfl (Nat.le_of_ble_eq_true rfl) dX7_trade_65) hP hD hS hA [] rfl (fun r_11 _ H locs hw hP hS => ?_)
            replace hw := hw.symm; subst hw
            refine lv_istore (lv' := [(6, .int (v * 9 + w0)), (5, .int (x * 9 + w0)), (0, .ref h0), (1, .int x), (2, .int v), (3, .int w0), (4, .int w1)]) hx hb dX7_trade_68 hl (by decide) rfl (fun ls hl => ?_)
            refine lv_aload_n hx hb dX7_trade_70 rfl (lv_at hl 2 rfl) ?_
            refine va_get (D := G.1) (ci := 7) (v := .ref n) (C := RX7) (T := TX7) (N := 11) hx hb hts hinX7 hown hKK.1 hP 0 rfl rfl 3 (by decide) kl29 (fun _ h9 => h9) rfl dX7_trade_71 ?_
            refine va_get (D := G.1) (ci := 1) (v := .ref n7) (C := RX1) (T := TX1) (N := 10) hx hb hts hinX1 hown hKK.1 hP 8 rfl rfl 6 (by decide) kl172 (fun _ h9 => h9) rfl dX7_trade_74 ?_
            refine lv_iload hx hb dX7_trade_77 (lv_at hl 1 rfl) ?_
            obtain ⟨hin, hv⟩ := hv
            refine va_iald hx hb hKK.1 hP 15 0 rfl rfl hin dX7_trade_79 ?_
            refine lv_iload hx hb dX7_trade_80 (lv_at hl 6 rfl) ?_
            refine lv_icmp_ge (tgt := 88) hx hb dX7_trade_82 (by decide) (fun hc_12 => ?_) (fun hc_12 => ?_)
            · have hv := hv.1 hc_12
              refine lv_aload_n hx hb dX7_trade_88 rfl (lv_at hl 2 rfl) ?_
              refine va_get (D := G.1) (ci := 7) (v := .ref n) (C := RX7) (T := TX7) (N := 11) hx hb hts hinX7 hown hKK.1 hP 0 rfl rfl 3 (by decide) kl29 (fun _ h9 => h9) rfl dX7_trade_89 ?_
              refine va_get (D := G.1) (ci := 1) (v := .ref n7) (C := RX1) (T := TX1) (N := 10) hx hb hts hinX1 hown hKK.1 hP 8 rfl rfl 6 (by decide) kl172 (fun _ h9 => h9) rfl dX7_trade_92 ?_
              refine lv_iload hx hb dX7_trade_95 (lv_at hl 0 rfl) ?_
              obtain ⟨hin, hv⟩ := hv
              refine va_iald hx hb hKK.1 hP 15 0 rfl rfl hin dX7_trade_97 ?_
              refine lv_iload hx hb dX7_trade_98 (lv_at hl 6 rfl) ?_
              refine lv_iadd hx hb dX7_trade_100 ?_
              refine lv_ldc (v := 99999) hx hb hown kl186 dX7_trade_101 ?_
              refine lv_icmp_le (tgt := 109) hx hb dX7_trade_103 (by decide) (fun hc_13 => ?_) (fun hc_13 => ?_)
              · have hv := hv.1 hc_13
                refine lv_aload_n hx hb dX7_trade_109 rfl (lv_at hl 2 rfl) ?_
                refine va_get (D := G.1) (ci := 7) (v := .ref n) (C := RX7) (T := TX7) (N := 11) hx hb hts hinX7 hown hKK.1 hP 0 rfl rfl 3 (by decide) kl29 (fun _ h9 => h9) rfl dX7_trade_110 ?_
                refine va_get (D := G.1) (ci := 1) (v := .ref n7) (C := RX1) (T := TX1) (N := 10) hx hb hts hinX1 hown hKK.1 hP 8 rfl rfl 6 (by decide) kl172 (fun _ h9 => h9) rfl dX7_trade_113 ?_
                refine lv_iload hx hb dX7_trade_116 (lv_at hl 1 rfl) ?_
                refine lv_dup2_11 hx hb dX7_trade_118 rfl rfl ?_
                obtain ⟨hin, hv⟩ := hv
                refine va_iald hx hb hKK.1 hP 15 0 rfl rfl hin dX7_trade_119 ?_
                refine lv_iload hx hb dX7_trade_120 (lv_at hl 6 rfl) ?_
                refine lv_isub hx hb dX7_trade_122 ?_
                obtain ⟨hin, hv⟩ := hv
                refine va_iast hx hb hKK.1 hP hD hS 15 0 rfl rfl hin dX7_trade_123 (fun H locs hP hD hS => ?_)
                have hP : va_P G.1 vwCl [(h0, .inr (7, [.ref e0, .ref t, .ref k, .ref n, .ref j, .ref i0, .int kp, .ref b0, .ref s0, .ref q, .ref g])), (t, .inr (6, [.int ns, .int np, .int fu, .int fd, .int fi, .ref t1, .ref t2, .ref t3, .ref t4, .ref t5, .ref t6])), aI G t1 9 sz_, aI G t2 9 pt, aI G t3 9 fh, aI G t4 8 kd, aI G t5 8 nd, aI G t6 8 fw, (n, .inr (1, [.ref n1, .ref n2, .ref n3, .ref n4, .ref n5, .ref n6, .ref n7, .int lo, .int mi, .int sd])), aI G n1 9 ht, aI G n2 8 wm, aI G n3 8 se, aI G n4 8 cd, aI G n5 8 sl, aI G n6 8 od, aI G n7 72 (upd ow ((x * 9 + w0).toNatClampNeg) ((ow (x * 9 + w0).toNatClampNeg) - w1))] H := hP
                have hD : va_D A [(h0, .inr (7, [.ref e0, .ref t, .ref k, .ref n, .ref j, .ref i0, .int kp, .ref b0, .ref s0, .ref q, .ref g])), (t, .inr (6, [.int ns, .int np, .int fu, .int fd, .int fi, .ref t1, .ref t2, .ref t3, .ref t4, .ref t5, .ref t6])), aI G t1 9 sz_, aI G t2 9 pt, aI G t3 9 fh, aI G t4 8 kd, aI G t5 8 nd, aI G t6 8 fw, (n, .inr (1, [.ref n1, .ref n2, .ref n3, .ref n4, .ref n5, .ref n6, .ref n7, .int lo, .int mi, .int sd])), aI G n1 9 ht, aI G n2 8 wm, aI G n3 8 se, aI G n4 8 cd, aI G n5 8 sl, aI G n6 8 od, aI G n7 72 (upd ow ((x * 9 + w0).toNatClampNeg) ((ow (x * 9 + w0).toNatClampNeg) - w1))] := hD
                refine lv_aload_n hx hb dX7_trade_124 rfl (lv_at hl 2 rfl) ?_
                refine va_get (D := G.1) (ci := 7) (v := .ref n) (C := RX7) (T := TX7) (N := 11) hx hb hts hinX7 hown hKK.1 hP 0 rfl rfl 3 (by decide) kl29 (fun _ h9 => h9) rfl dX7_trade_125 ?_
                refine va_get (D := G.1) (ci := 1) (v := .ref n7) (C := RX1) (T := TX1) (N := 10) hx hb hts hinX1 hown hKK.1 hP 8 rfl rfl 6 (by decide) kl172 (fun _ h9 => h9) rfl dX7_trade_128 ?_
                refine lv_iload hx hb dX7_trade_131 (lv_at hl 0 rfl) ?_
                refine lv_dup2_11 hx hb dX7_trade_133 rfl rfl ?_
                obtain ⟨hin, hv⟩ := hv
                refine va_iald hx hb hKK.1 hP 15 0 rfl rfl hin dX7_trade_134 ?_
                refine lv_iload hx hb dX7_trade_135 (lv_at hl 6 rfl) ?_
                refine lv_iadd hx hb dX7_trade_137 ?_
                obtain ⟨hin, hv⟩ := hv
                refine va_iast hx hb hKK.1 hP hD hS 15 0 rfl rfl hin dX7_trade_138 (fun H locs hP hD hS => ?_)
                have hP : va_P G.1 vwCl [(h0, .inr (7, [.ref e0, .ref t, .ref k, .ref n, .ref j, .ref i0, .int kp, .ref b0, .ref s0, .ref q, .ref g])), (t, .inr (6, [.int ns, .int np, .int fu, .int fd, .int fi, .ref t1, .ref t2, .ref t3, .ref t4, .ref t5, .ref t6])), aI G t1 9 sz_, aI G t2 9 pt, aI G t3 9 fh, aI G t4 8 kd, aI G t5 8 nd, aI G t6 8 fw, (n, .inr (1, [.ref n1, .ref n2, .ref n3, .ref n4, .ref n5, .ref n6, .ref n7, .int lo, .int mi, .int sd])), aI G n1 9 ht, aI G n2 8 wm, aI G n3 8 se, aI G n4 8 cd, aI G n5 8 sl, aI G n6 8 od, aI G n7 72 (upd (upd ow ((x * 9 + w0).toNatClampNeg) ((ow (x * 9 + w0).toNatClampNeg) - w1)) ((v * 9 + w0).toNatClampNeg) (((upd ow ((x * 9 + w0).toNatClampNeg) ((ow (x * 9 + w0).toNatClampNeg) - w1)) (v * 9 + w0).toNatClampNeg) + w1))] H := hP
                have hD : va_D A [(h0, .inr (7, [.ref e0, .ref t, .ref k, .ref n, .ref j, .ref i0, .int kp, .ref b0, .ref s0, .ref q, .ref g])), (t, .inr (6, [.int ns, .int np, .int fu, .int fd, .int fi, .ref t1, .ref t2, .ref t3, .ref t4, .ref t5, .ref t6])), aI G t1 9 sz_, aI G t2 9 pt, aI G t3 9 fh, aI G t4 8 kd, aI G t5 8 nd, aI G t6 8 fw, (n, .inr (1, [.ref n1, .ref n2, .ref n3, .ref n4, .ref n5, .ref n6, .ref n7, .int lo, .int mi, .int sd])), aI G n1 9 ht, aI G n2 8 wm, aI G n3 8 se, aI G n4 8 cd, aI G n5 8 sl, aI G n6 8 od, aI G n7 72 (upd (upd ow ((x * 9 + w0).toNatClampNeg) ((ow (x * 9 + w0).toNatClampNeg) - w1)) ((v * 9 + w0).toNatClampNeg) (((upd ow ((x * 9 + w0).toNatClampNeg) ((ow (x * 9 + w0).toNatClampNeg) - w1)) (v * 9 + w0).toNatClampNeg) + w1))] := hD
                refine lv_aload_n hx hb dX7_trade_139 rfl (lv_at hl 2 rfl) ?_
                refine va_get (D := G.1) (ci := 7) (v := .ref n) (C := RX7) (T := TX7) (N := 11) hx hb hts hinX7 hown hKK.1 hP 0 rfl rfl 3 (by decide) kl29 (fun _ h9 => h9) rfl dX7_trade_140 ?_
                refine va_get (D := G.1) (ci := 1) (v := .ref n7) (C := RX1) (T := TX1) (N := 10) hx hb hts hinX1 hown hKK.1 hP 8 rfl rfl 6 (by decide) kl172 (fun _ h9 => h9) rfl dX7_trade_143 ?_
                refine lv_iload hx hb dX7_trade_146 (lv_at hl 1 rfl) ?_
                obtain ⟨hin, hv⟩ := hv
                refine va_iald hx hb hKK.1 hP 15 0 rfl rfl hin dX7_trade_148 ?_
                exact x_iret (v := ((upd (upd ow ((x * 9 + w0).toNatClampNeg) ((ow (x * 9 + w0).toNatClampNeg) - w1)) ((v * 9 + w0).toNatClampNeg) (((upd ow ((x * 9 + w0).toNatClampNeg) ((ow (x * 9 + w0).toNatClampNeg) - w1)) (v * 9 + w0).toNatClampNeg) + w1)) (x * 9 + w0).toNatClampNeg)) (upd (upd ow ((x * 9 + w0).toNatClampNeg) ((ow (x * 9 + w0).toNatClampNeg) - w1)) ((v * 9 + w0).toNatClampNeg) (((upd ow ((x * 9 + w0).toNatClampNeg) ((ow (x * 9 + w0).toNatClampNeg) - w1)) (v * 9 + w0).toNatClampNeg) + w1)) hQ hx hb hr hlocks hS dX7_trade_149 hv hP hD
              · have hv := hv.2 hc_13
                refine lv_ldc (v := (-1000000004)) hx hb hown kl77 dX7_trade_106 ?_
                exact x_iret (v := (-1000000004)) ow hQ hx hb hr hlocks hS dX7_trade_108 hv hP hD
            · have hv := hv.2 hc_12
              refine lv_ldc (v := (-1000000003)) hx hb hown kl179 dX7_trade_85 ?_
              exact x_iret (v := (-1000000003)) ow hQ hx hb hr hlocks hS dX7_trade_87 hv hP hD
          · have hv := hv.2 (tv_eq.mp hc_9)
            refine lv_ldc (v := (-1000000002)) hx hb hown kl72 dX7_trade_53 ?_
            exact x_iret (v := (-1000000002)) ow hQ hx hb hr hlocks hS dX7_trade_55 hv hP hD
        · have hv := hv.2 (tv_eq.mp hc_7)
          refine lv_ldc (v := (-1000000001)) hx hb hown kl143 dX7_trade_38 ?_
          exact x_iret (v := (-1000000001)) ow hQ hx hb hr hlocks hS dX7_trade_40 hv hP hD
theorem k_X7_trade (l : Launch) (G : Gt) (h0 t t1 t2 t3 t4 t5 t6 n n1 n2 n3 n4 n5 n6 n7 : Nat) (sz : Nat) (e0 : Nat) (k : Nat) (j : Nat) (i0 : Nat) (b0 : Nat) (s0 : Nat) (q : Nat) (g : Nat) (kp : Int32) (ns : Int32) (np : Int32) (fu : Int32) (fd : Int32) (fi : Int32) (sz_ : Nat → Int32) (pt : Nat → Int32) (fh : Nat → Int32) (kd : Nat → Int32) (nd : Nat → Int32) (fw : Nat → Int32) (ht : Nat → Int32) (wm : Nat → Int32) (se : Nat → Int32) (cd : Nat → Int32) (sl : Nat → Int32) (od : Nat → Int32) (ow : Nat → Int32) (lo : Int32) (mi : Int32) (sd : Int32) (x : Int32) (v : Int32) (w0 : Int32) (w1 : Int32) (hp : True) : MetI l yX7_trade wsX7_trade 1 22 G [.ref h0, .int x, .int v, .int w0, .int w1] [(h0, .inr (7, [.ref e0, .ref t, .ref k, .ref n, .ref j, .ref i0, .int kp, .ref b0, .ref s0, .ref q, .ref g])), (t, .inr (6, [.int ns, .int np, .int fu, .int fd, .int fi, .ref t1, .ref t2, .ref t3, .ref t4, .ref t5, .ref t6])), aI G t1 9 sz_, aI G t2 9 pt, aI G t3 9 fh, aI G t4 8 kd, aI G t5 8 nd, aI G t6 8 fw, (n, .inr (1, [.ref n1, .ref n2, .ref n3, .ref n4, .ref n5, .ref n6, .ref n7, .int lo, .int mi, .int sd])), aI G n1 9 ht, aI G n2 8 wm, aI G n3 8 se, aI G n4 8 cd, aI G n5 8 sl, aI G n6 8 od, aI G n7 72 ow] sz (fun (r : Int32) (u : (Nat → Int32)) => True) (fun (u : (Nat → Int32)) => [(h0, .inr (7, [.ref e0, .ref t, .ref k, .ref n, .ref j, .ref i0, .int kp, .ref b0, .ref s0, .ref q, .ref g])), (t, .inr (6, [.int ns, .int np, .int fu, .int fd, .int fi, .ref t1, .ref t2, .ref t3, .ref t4, .ref t5, .ref t6])), aI G t1 9 sz_, aI G t2 9 pt, aI G t3 9 fh, aI G t4 8 kd, aI G t5 8 nd, aI G t6 8 fw, (n, .inr (1, [.ref n1, .ref n2, .ref n3, .ref n4, .ref n5, .ref n6, .ref n7, .int lo, .int mi, .int sd])), aI G n1 9 ht, aI G n2 8 wm, aI G n3 8 se, aI G n4 8 cd, aI G n5 8 sl, aI G n6 8 od, aI G n7 72 u]) :=
  c_X7_trade l G h0 t t1 t2 t3 t4 t5 t6 n n1 n2 n3 n4 n5 n6 n7 sz e0 k j i0 b0 s0 q g kp ns np fu fd fi sz_ pt fh kd nd fw ht wm se cd sl od ow lo mi sd x v w0 w1 (by
    sorry)

set_option maxHeartbeats 4000000 in
set_option maxRecDepth 100000 in
theorem c_X7_forgive (l : Launch) (G : Gt) (h0 t t1 t2 t3 t4 t5 t6 n n1 n2 n3 n4 n5 n6 n7 : Nat) (sz : Nat) (e0 : Nat) (k : Nat) (j : Nat) (i0 : Nat) (b0 : Nat) (s0 : Nat) (q : Nat) (g : Nat) (kp : Int32) (ns : Int32) (np : Int32) (fu : Int32) (fd : Int32) (fi : Int32) (sz_ : Nat → Int32) (pt : Nat → Int32) (fh : Nat → Int32) (kd : Nat → Int32) (nd : Nat → Int32) (fw : Nat → Int32) (ht : Nat → Int32) (wm : Nat → Int32) (se : Nat → Int32) (cd : Nat → Int32) (sl : Nat → Int32) (od : Nat → Int32) (ow : Nat → Int32) (lo : Int32) (mi : Int32) (sd : Int32) (x : Int32) (hv : (¬ x < 0 ∧ ¬ np ≤ x → (vp_in x 8) ∧ ((vp_in x 8) ∧ ((vp_in x 8) ∧ (True)))) ∧ (¬ (¬ x < 0 ∧ ¬ np ≤ x) → True)) : MetI l yX7_forgive wsX7_forgive 1 21 G [.ref h0, .int x] [(h0, .inr (7, [.ref e0, .ref t, .ref k, .ref n, .ref j, .ref i0, .int kp, .ref b0, .ref s0, .ref q, .ref g])), (t, .inr (6, [.int ns, .int np, .int fu, .int fd, .int fi, .ref t1, .ref t2, .ref t3, .ref t4, .ref t5, .ref t6])), aI G t1 9 sz_, aI G t2 9 pt, aI G t3 9 fh, aI G t4 8 kd, aI G t5 8 nd, aI G t6 8 fw, (n, .inr (1, [.ref n1, .ref n2, .ref n3, .ref n4, .ref n5, .ref n6, .ref n7, .int lo, .int mi, .int sd])), aI G n1 9 ht, aI G n2 8 wm, aI G n3 8 se, aI G n4 8 cd, aI G n5 8 sl, aI G n6 8 od, aI G n7 72 ow] sz (fun (r : Int32) (u : (Nat → Int32) × (Nat → Int32)) => True) (fun (u : (Nat → Int32) × (Nat → Int32)) => [(h0, .inr (7, [.ref e0, .ref t, .ref k, .ref n, .ref j, .ref i0, .int kp, .ref b0, .ref s0, .ref q, .ref g])), (t, .inr (6, [.int ns, .int np, .int fu, .int fd, .int fi, .ref t1, .ref t2, .ref t3, .ref t4, .ref t5, .ref t6])), aI G t1 9 sz_, aI G t2 9 pt, aI G t3 9 fh, aI G t4 8 kd, aI G t5 8 nd, aI G t6 8 fw, (n, .inr (1, [.ref n1, .ref n2, .ref n3, .ref n4, .ref n5, .ref n6, .ref n7, .int lo, .int mi, .int sd])), aI G n1 9 ht, aI G n2 8 wm, aI G n3 8 se, aI G n4 8 cd, aI G n5 8 u.1, aI G n6 8 u.2, aI G n7 72 ow]) := by
  refine x_startI (cc := cX7_forgive) (maxL := 3) (ret := (some .int)) (by decide) rfl (Nat.le_of_ble_eq_true rfl) ?_
  intro p e s m args below meth c A R Q ls hRf hRl hQ C hP hD hS hA hSS hl
  obtain ⟨hx, hb, hr, hml, hown, hts, hlocks, hKK⟩ := C
  have hown : s.vm.findClass RX7 = some m.cls := hown
  have hl : lv_has ls 3 [(0, .ref h0), (1, .int x)] := hl
  have hinX1 : ∀ w ∈ u_ws RX1 TX1 10, w ∈ wsX7_forgive := by decide +kernel
  have hinX7 : ∀ w ∈ u_ws RX7 TX7 11, w ∈ wsX7_forgive := by decide +kernel
  have kl143 := hts (.constant RX7 143 (-1000000001)) (by decide +kernel)
  have kl166 := hts (.fieldLink RX7 166 "WarmStones$Night" "stolen" "[I") (by decide +kernel)
  have kl169 := hts (.fieldLink RX7 169 "WarmStones$Night" "owed" "[I") (by decide +kernel)
  have kl19 := hts (.fieldLink RX7 19 "WarmStones" "town" "LWarmStones$Town;") (by decide +kernel)
  have kl29 := hts (.fieldLink RX7 29 "WarmStones" "night" "LWarmStones$Night;") (by decide +kernel)
  refine lv_aload_n hx hb dX7_forgive_0 rfl (lv_at hl 0 rfl) ?_
  refine va_get (D := G.1) (ci := 7) (v := .ref t) (C := RX7) (T := TX7) (N := 11) hx hb hts hinX7 hown hKK.1 hP 0 rfl rfl 1 (by decide) kl19 (fun _ h9 => h9) rfl dX7_forgive_1 ?_
  refine lv_iload_n hx hb dX7_forgive_4 rfl (lv_at hl 1 rfl) ?_
  refine x_calliR (x_runV (As := [.int x]) (rest := []) (n := 1) (C := RX6) (ci := 6) ⟨hx, hb, hml, hown, hts⟩ (k_X6_hasPerson l G t t1 t2 t3 t4 t5 t6 _ ns np fu fd fi sz_ pt fh kd nd fw x) gX7_forgive_X6_hasPerson rfl (by decide +kernel) ⟨Nat.le_trans (Nat.le_of_ble_eq_true rfl) hRf, Nat.le_trans (Nat.le_of_ble_eq_true rfl) hRl⟩ hKK hSS hS hA hP hD [1, 2, 3, 4, 5, 6, 7] (by decide) rfl rfl rfl 1 rfl rfl hl.1 rfl (Nat.le_of_ble_eq_true rfl) dX7_forgive_5) hP hD hS hA [1, 2, 3, 4, 5, 6, 7] rfl (fun r_1 _ H locs hw hP hS => ?_)
  replace hw := hw.symm; subst hw
  refine lv_if_ne (tgt := 14) hx hb dX7_forgive_8 (by decide) (fun hc_2 => ?_) (fun hc_2 => ?_)
  · have hv := hv.1 (tv_eqn.mp hc_2)
    refine lv_aload_n hx hb dX7_forgive_14 rfl (lv_at hl 0 rfl) ?_
    refine va_get (D := G.1) (ci := 7) (v := .ref n) (C := RX7) (T := TX7) (N := 11) hx hb hts hinX7 hown hKK.1 hP 0 rfl rfl 3 (by decide) kl29 (fun _ h9 => h9) rfl dX7_forgive_15 ?_
    refine va_get (D := G.1) (ci := 1) (v := .ref n6) (C := RX1) (T := TX1) (N := 10) hx hb hts hinX1 hown hKK.1 hP 8 rfl rfl 5 (by decide) kl169 (fun _ h9 => h9) rfl dX7_forgive_18 ?_
    refine lv_iload_n hx hb dX7_forgive_21 rfl (lv_at hl 1 rfl) ?_
    obtain ⟨hin, hv⟩ := hv
    refine va_iald hx hb hKK.1 hP 14 0 rfl rfl hin dX7_forgive_22 ?_
    refine lv_istore_n (lv' := [(2, .int (od x.toNatClampNeg)), (0, .ref h0), (1, .int x)]) hx hb dX7_forgive_23 rfl hl (by decide) rfl (fun ls hl => ?_)
    refine lv_aload_n hx hb dX7_forgive_24 rfl (lv_at hl 1 rfl) ?_
    refine va_get (D := G.1) (ci := 7) (v := .ref n) (C := RX7) (T := TX7) (N := 11) hx hb hts hinX7 hown hKK.1 hP 0 rfl rfl 3 (by decide) kl29 (fun _ h9 => h9) rfl dX7_forgive_25 ?_
    refine va_get (D := G.1) (ci := 1) (v := .ref n6) (C := RX1) (T := TX1) (N := 10) hx hb hts hinX1 hown hKK.1 hP 8 rfl rfl 5 (by decide) kl169 (fun _ h9 => h9) rfl dX7_forgive_28 ?_
    refine lv_iload_n hx hb dX7_forgive_31 rfl (lv_at hl 2 rfl) ?_
    refine lv_iconst (v := 0) hx hb dX7_forgive_32 (by decide) ?_
    obtain ⟨hin, hv⟩ := hv
    refine va_iast hx hb hKK.1 hP hD hS 14 0 rfl rfl hin dX7_forgive_33 (fun H locs hP hD hS => ?_)
    have hP : va_P G.1 vwCl [(h0, .inr (7, [.ref e0, .ref t, .ref k, .ref n, .ref j, .ref i0, .int kp, .ref b0, .ref s0, .ref q, .ref g])), (t, .inr (6, [.int ns, .int np, .int fu, .int fd, .int fi, .ref t1, .ref t2, .ref t3, .ref t4, .ref t5, .ref t6])), aI G t1 9 sz_, aI G t2 9 pt, aI G t3 9 fh, aI G t4 8 kd, aI G t5 8 nd, aI G t6 8 fw, (n, .inr (1, [.ref n1, .ref n2, .ref n3, .ref n4, .ref n5, .ref n6, .ref n7, .int lo, .int mi, .int sd])), aI G n1 9 ht, aI G n2 8 wm, aI G n3 8 se, aI G n4 8 cd, aI G n5 8 sl, aI G n6 8 (upd od x.toNatClampNeg 0), aI G n7 72 ow] H := hP
    have hD : va_D A [(h0, .inr (7, [.ref e0, .ref t, .ref k, .ref n, .ref j, .ref i0, .int kp, .ref b0, .ref s0, .ref q, .ref g])), (t, .inr (6, [.int ns, .int np, .int fu, .int fd, .int fi, .ref t1, .ref t2, .ref t3, .ref t4, .ref t5, .ref t6])), aI G t1 9 sz_, aI G t2 9 pt, aI G t3 9 fh, aI G t4 8 kd, aI G t5 8 nd, aI G t6 8 fw, (n, .inr (1, [.ref n1, .ref n2, .ref n3, .ref n4, .ref n5, .ref n6, .ref n7, .int lo, .int mi, .int sd])), aI G n1 9 ht, aI G n2 8 wm, aI G n3 8 se, aI G n4 8 cd, aI G n5 8 sl, aI G n6 8 (upd od x.toNatClampNeg 0), aI G n7 72 ow] := hD
    refine lv_aload_n hx hb dX7_forgive_34 rfl (lv_at hl 1 rfl) ?_
    refine va_get (D := G.1) (ci := 7) (v := .ref n) (C := RX7) (T := TX7) (N := 11) hx hb hts hinX7 hown hKK.1 hP 0 rfl rfl 3 (by decide) kl29 (fun _ h9 => h9) rfl dX7_forgive_35 ?_
    refine va_get (D := G.1) (ci := 1) (v := .ref n5) (C := RX1) (T := TX1) (N := 10) hx hb hts hinX1 hown hKK.1 hP 8 rfl rfl 4 (by decide) kl166 (fun _ h9 => h9) rfl dX7_forgive_38 ?_
    refine lv_iload_n hx hb dX7_forgive_41 rfl (lv_at hl 2 rfl) ?_
    refine lv_iconst (v := 0) hx hb dX7_forgive_42 (by decide) ?_
    obtain ⟨hin, hv⟩ := hv
    refine va_iast hx hb hKK.1 hP hD hS 13 0 rfl rfl hin dX7_forgive_43 (fun H locs hP hD hS => ?_)
    have hP : va_P G.1 vwCl [(h0, .inr (7, [.ref e0, .ref t, .ref k, .ref n, .ref j, .ref i0, .int kp, .ref b0, .ref s0, .ref q, .ref g])), (t, .inr (6, [.int ns, .int np, .int fu, .int fd, .int fi, .ref t1, .ref t2, .ref t3, .ref t4, .ref t5, .ref t6])), aI G t1 9 sz_, aI G t2 9 pt, aI G t3 9 fh, aI G t4 8 kd, aI G t5 8 nd, aI G t6 8 fw, (n, .inr (1, [.ref n1, .ref n2, .ref n3, .ref n4, .ref n5, .ref n6, .ref n7, .int lo, .int mi, .int sd])), aI G n1 9 ht, aI G n2 8 wm, aI G n3 8 se, aI G n4 8 cd, aI G n5 8 (upd sl x.toNatClampNeg 0), aI G n6 8 (upd od x.toNatClampNeg 0), aI G n7 72 ow] H := hP
    have hD : va_D A [(h0, .inr (7, [.ref e0, .ref t, .ref k, .ref n, .ref j, .ref i0, .int kp, .ref b0, .ref s0, .ref q, .ref g])), (t, .inr (6, [.int ns, .int np, .int fu, .int fd, .int fi, .ref t1, .ref t2, .ref t3, .ref t4, .ref t5, .ref t6])), aI G t1 9 sz_, aI G t2 9 pt, aI G t3 9 fh, aI G t4 8 kd, aI G t5 8 nd, aI G t6 8 fw, (n, .inr (1, [.ref n1, .ref n2, .ref n3, .ref n4, .ref n5, .ref n6, .ref n7, .int lo, .int mi, .int sd])), aI G n1 9 ht, aI G n2 8 wm, aI G n3 8 se, aI G n4 8 cd, aI G n5 8 (upd sl x.toNatClampNeg 0), aI G n6 8 (upd od x.toNatClampNeg 0), aI G n7 72 ow] := hD
    refine lv_iload_n hx hb dX7_forgive_44 rfl (lv_at hl 0 rfl) ?_
    exact x_iret (v := (od x.toNatClampNeg)) ((upd sl x.toNatClampNeg 0), (upd od x.toNatClampNeg 0)) hQ hx hb hr hlocks hS dX7_forgive_45 hv hP hD
  · have hv := hv.2 (tv_eq.mp hc_2)
    refine lv_ldc (v := (-1000000001)) hx hb hown kl143 dX7_forgive_11 ?_
    exact x_iret (v := (-1000000001)) (sl, od) hQ hx hb hr hlocks hS dX7_forgive_13 hv hP hD
theorem k_X7_forgive (l : Launch) (G : Gt) (h0 t t1 t2 t3 t4 t5 t6 n n1 n2 n3 n4 n5 n6 n7 : Nat) (sz : Nat) (e0 : Nat) (k : Nat) (j : Nat) (i0 : Nat) (b0 : Nat) (s0 : Nat) (q : Nat) (g : Nat) (kp : Int32) (ns : Int32) (np : Int32) (fu : Int32) (fd : Int32) (fi : Int32) (sz_ : Nat → Int32) (pt : Nat → Int32) (fh : Nat → Int32) (kd : Nat → Int32) (nd : Nat → Int32) (fw : Nat → Int32) (ht : Nat → Int32) (wm : Nat → Int32) (se : Nat → Int32) (cd : Nat → Int32) (sl : Nat → Int32) (od : Nat → Int32) (ow : Nat → Int32) (lo : Int32) (mi : Int32) (sd : Int32) (x : Int32) (hp : True) : MetI l yX7_forgive wsX7_forgive 1 21 G [.ref h0, .int x] [(h0, .inr (7, [.ref e0, .ref t, .ref k, .ref n, .ref j, .ref i0, .int kp, .ref b0, .ref s0, .ref q, .ref g])), (t, .inr (6, [.int ns, .int np, .int fu, .int fd, .int fi, .ref t1, .ref t2, .ref t3, .ref t4, .ref t5, .ref t6])), aI G t1 9 sz_, aI G t2 9 pt, aI G t3 9 fh, aI G t4 8 kd, aI G t5 8 nd, aI G t6 8 fw, (n, .inr (1, [.ref n1, .ref n2, .ref n3, .ref n4, .ref n5, .ref n6, .ref n7, .int lo, .int mi, .int sd])), aI G n1 9 ht, aI G n2 8 wm, aI G n3 8 se, aI G n4 8 cd, aI G n5 8 sl, aI G n6 8 od, aI G n7 72 ow] sz (fun (r : Int32) (u : (Nat → Int32) × (Nat → Int32)) => True) (fun (u : (Nat → Int32) × (Nat → Int32)) => [(h0, .inr (7, [.ref e0, .ref t, .ref k, .ref n, .ref j, .ref i0, .int kp, .ref b0, .ref s0, .ref q, .ref g])), (t, .inr (6, [.int ns, .int np, .int fu, .int fd, .int fi, .ref t1, .ref t2, .ref t3, .ref t4, .ref t5, .ref t6])), aI G t1 9 sz_, aI G t2 9 pt, aI G t3 9 fh, aI G t4 8 kd, aI G t5 8 nd, aI G t6 8 fw, (n, .inr (1, [.ref n1, .ref n2, .ref n3, .ref n4, .ref n5, .ref n6, .ref n7, .int lo, .int mi, .int sd])), aI G n1 9 ht, aI G n2 8 wm, aI G n3 8 se, aI G n4 8 cd, aI G n5 8 u.1, aI G n6 8 u.2, aI G n7 72 ow]) :=
  c_X7_forgive l G h0 t t1 t2 t3 t4 t5 t6 n n1 n2 n3 n4 n5 n6 n7 sz e0 k j i0 b0 s0 q g kp ns np fu fd fi sz_ pt fh kd nd fw ht wm se cd sl od ow lo mi sd x (by
    sorry)

set_option maxHeartbeats 4000000 in
set_option maxRecDepth 100000 in
theorem c_X7_seating (l : Launch) (G : Gt) (h0 t t1 t2 t3 t4 t5 t6 n n1 n2 n3 n4 n5 n6 n7 q q1 q2 q3 q4 s1 : Nat) (sz : Nat) (e0 : Nat) (k : Nat) (j : Nat) (i0 : Nat) (b0 : Nat) (s0 : Nat) (g : Nat) (kp : Int32) (ns : Int32) (np : Int32) (fu : Int32) (fd : Int32) (fi : Int32) (sz_ : Nat → Int32) (pt : Nat → Int32) (fh : Nat → Int32) (kd : Nat → Int32) (nd : Nat → Int32) (fw : Nat → Int32) (ht : Nat → Int32) (wm : Nat → Int32) (se : Nat → Int32) (cd : Nat → Int32) (sl : Nat → Int32) (od : Nat → Int32) (ow : Nat → Int32) (lo : Int32) (mi : Int32) (sd : Int32) (bc : Int32) (bl : Int32) (co : Nat → Int32) (wo : Nat → Int32) (ch : Nat → Int32) (be : Nat → Int32) (sw1 : Int32) (sh1 : Int32) (x : Int32) (v : Int32) (hv : (¬ (¬ x < 1 ∧ ¬ 60 < x) → True) ∧ (¬ x < 1 ∧ ¬ 60 < x → (v < 0 → True) ∧ (¬ (v < 0) → (v ≤ 1 → (¬ np < 1 ∧ ¬ 4 < np → (True) ∧ (∀ (co2_8 : Nat → Int32) (wo2_9 : Nat → Int32) (ch2_10 : Nat → Int32) (be2_11 : Nat → Int32) (bc2_12 : Int32) (bl2_13 : Int32) (sw2_14 : Int32) (sh2_15 : Int32), (True) → (True))) ∧ (¬ (¬ np < 1 ∧ ¬ 4 < np) → True)) ∧ (¬ (v ≤ 1) → (¬ (v - 2) < 0 ∧ ¬ np ≤ (v - 2) → (¬ np < 1 ∧ ¬ 4 < np → (True) ∧ (∀ (co2_22 : Nat → Int32) (wo2_23 : Nat → Int32) (ch2_24 : Nat → Int32) (be2_25 : Nat → Int32) (bc2_26 : Int32) (bl2_27 : Int32) (sw2_28 : Int32) (sh2_29 : Int32), (True) → (True))) ∧ (¬ (¬ np < 1 ∧ ¬ 4 < np) → True)) ∧ (¬ (¬ (v - 2) < 0 ∧ ¬ np ≤ (v - 2)) → True))))) : MetI l yX7_seating wsX7_seating 9 245 G [.ref h0, .int x, .int v] [(h0, .inr (7, [.ref e0, .ref t, .ref k, .ref n, .ref j, .ref i0, .int kp, .ref b0, .ref s0, .ref q, .ref g])), (t, .inr (6, [.int ns, .int np, .int fu, .int fd, .int fi, .ref t1, .ref t2, .ref t3, .ref t4, .ref t5, .ref t6])), aI G t1 9 sz_, aI G t2 9 pt, aI G t3 9 fh, aI G t4 8 kd, aI G t5 8 nd, aI G t6 8 fw, (n, .inr (1, [.ref n1, .ref n2, .ref n3, .ref n4, .ref n5, .ref n6, .ref n7, .int lo, .int mi, .int sd])), aI G n1 9 ht, aI G n2 8 wm, aI G n3 8 se, aI G n4 8 cd, aI G n5 8 sl, aI G n6 8 od, aI G n7 72 ow, (q, .inr (3, [.ref s1, .ref q1, .ref q2, .ref q3, .ref q4, .int bc, .int bl])), aI G q1 40 co, aI G q2 40 wo, aI G q3 4 ch, aI G q4 4 be, (s1, .inr (4, [.int sw1, .int sh1]))] sz (fun (r : Int32) (u : (Nat → Int32) × (Nat → Int32) × (Nat → Int32) × (Nat → Int32) × (Int32) × (Int32) × (Int32) × (Int32)) => True) (fun (u : (Nat → Int32) × (Nat → Int32) × (Nat → Int32) × (Nat → Int32) × (Int32) × (Int32) × (Int32) × (Int32)) => [(h0, .inr (7, [.ref e0, .ref t, .ref k, .ref n, .ref j, .ref i0, .int kp, .ref b0, .ref s0, .ref q, .ref g])), (t, .inr (6, [.int ns, .int np, .int fu, .int fd, .int fi, .ref t1, .ref t2, .ref t3, .ref t4, .ref t5, .ref t6])), aI G t1 9 sz_, aI G t2 9 pt, aI G t3 9 fh, aI G t4 8 kd, aI G t5 8 nd, aI G t6 8 fw, (n, .inr (1, [.ref n1, .ref n2, .ref n3, .ref n4, .ref n5, .ref n6, .ref n7, .int lo, .int mi, .int sd])), aI G n1 9 ht, aI G n2 8 wm, aI G n3 8 se, aI G n4 8 cd, aI G n5 8 sl, aI G n6 8 od, aI G n7 72 ow, (q, .inr (3, [.ref s1, .ref q1, .ref q2, .ref q3, .ref q4, .int u.2.2.2.2.1, .int u.2.2.2.2.2.1])), aI G q1 40 u.1, aI G q2 40 u.2.1, aI G q3 4 u.2.2.1, aI G q4 4 u.2.2.2.1, (s1, .inr (4, [.int u.2.2.2.2.2.2.1, .int u.2.2.2.2.2.2.2]))]) := by
  refine x_startI (cc := cX7_seating) (maxL := 3) (ret := (some .int)) (by decide) rfl (Nat.le_of_ble_eq_true rfl) ?_
  intro p e s m args below meth c A R Q ls hRf hRl hQ C hP hD hS hA hSS hl
  obtain ⟨hx, hb, hr, hml, hown, hts, hlocks, hKK⟩ := C
  have hown : s.vm.findClass RX7 = some m.cls := hown
  have hl : lv_has ls 3 [(0, .ref h0), (1, .int x), (2, .int v)] := hl
  have hinX6 : ∀ w ∈ u_ws RX6 TX6 11, w ∈ wsX7_seating := by decide +kernel
  have hinX7 : ∀ w ∈ u_ws RX7 TX7 11, w ∈ wsX7_seating := by decide +kernel
  have kl106 := hts (.fieldLink RX7 106 "WarmStones$Town" "persons" "I") (by decide +kernel)
  have kl179 := hts (.constant RX7 179 (-1000000003)) (by decide +kernel)
  have kl19 := hts (.fieldLink RX7 19 "WarmStones" "town" "LWarmStones$Town;") (by decide +kernel)
  have kl29 := hts (.fieldLink RX7 29 "WarmStones" "night" "LWarmStones$Night;") (by decide +kernel)
  have kl57 := hts (.fieldLink RX7 57 "WarmStones" "seats" "LWarmStones$Seating;") (by decide +kernel)
  have kl72 := hts (.constant RX7 72 (-1000000002)) (by decide +kernel)
  refine lv_iload_n hx hb dX7_seating_0 rfl (lv_at hl 1 rfl) ?_
  refine lv_iconst (v := 1) hx hb dX7_seating_1 (by decide) ?_
  refine lv_bipush (v := 60) hx hb dX7_seating_2 (by decide) ?_
  refine x_calliR (x_runS (As := [.int x, .int 1, .int 60]) (rest := []) (n := 3) ⟨hx, hb, hml, hown, hts⟩ (k_X7_within l G  _ x 1 60) gX7_seating_X7_within rfl (by decide +kernel) ⟨Nat.le_trans (Nat.le_of_ble_eq_true rfl) hRf, Nat.le_trans (Nat.le_of_ble_eq_true rfl) hRl⟩ hKK hSS hS hA hP hD [] (by decide) rfl rfl hl.1 rfl (Nat.le_of_ble_eq_true rfl) dX7_seating_4) hP hD hS hA [] rfl (fun r_1 _ H locs hw hP hS => ?_)
  replace hw := hw.symm; subst hw
  refine lv_if_eq (tgt := 32) hx hb dX7_seating_7 (by decide) (fun hc_2 => ?_) (fun hc_2 => ?_)
  · have hv := hv.1 (tv_eq.mp hc_2)
    refine lv_ldc (v := (-1000000002)) hx hb hown kl72 dX7_seating_32 ?_
    exact x_iret (v := (-1000000002)) (co, wo, ch, be, bc, bl, sw1, sh1) hQ hx hb hr hlocks hS dX7_seating_34 hv hP hD
  · have hv := hv.2 (tv_eqn.mp hc_2)
    refine lv_iload_n hx hb dX7_seating_10 rfl (lv_at hl 2 rfl) ?_
    refine lv_if_lt (tgt := 32) hx hb dX7_seating_11 (by decide) (fun hc_3 => ?_) (fun hc_3 => ?_)
    · have hv := hv.1 hc_3
      refine lv_ldc (v := (-1000000002)) hx hb hown kl72 dX7_seating_32 ?_
      exact x_iret (v := (-1000000002)) (co, wo, ch, be, bc, bl, sw1, sh1) hQ hx hb hr hlocks hS dX7_seating_34 hv hP hD
    · have hv := hv.2 hc_3
      refine lv_iload_n hx hb dX7_seating_14 rfl (lv_at hl 2 rfl) ?_
      refine lv_iconst (v := 1) hx hb dX7_seating_15 (by decide) ?_
      refine lv_icmp_le (tgt := 35) hx hb dX7_seating_16 (by decide) (fun hc_4 => ?_) (fun hc_4 => ?_)
      · have hv := hv.1 hc_4
        refine lv_aload_n hx hb dX7_seating_35 rfl (lv_at hl 0 rfl) ?_
        refine va_get (D := G.1) (ci := 7) (v := .ref t) (C := RX7) (T := TX7) (N := 11) hx hb hts hinX7 hown hKK.1 hP 0 rfl rfl 1 (by decide) kl19 (fun _ h9 => h9) rfl dX7_seating_36 ?_
        refine va_get (D := G.1) (ci := 6) (v := .int np) (C := RX6) (T := TX6) (N := 11) hx hb hts hinX6 hown hKK.1 hP 1 rfl rfl 1 (by decide) kl106 (fun _ h9 => h9) rfl dX7_seating_39 ?_
        refine lv_iconst (v := 1) hx hb dX7_seating_42 (by decide) ?_
        refine lv_iconst (v := 4) hx hb dX7_seating_43 (by decide) ?_
        refine x_calliR (x_runS (As := [.int np, .int 1, .int 4]) (rest := []) (n := 3) ⟨hx, hb, hml, hown, hts⟩ (k_X7_within l G  _ np 1 4) gX7_seating_X7_within rfl (by decide +kernel) ⟨Nat.le_trans (Nat.le_of_ble_eq_true rfl) hRf, Nat.le_trans (Nat.le_of_ble_eq_true rfl) hRl⟩ hKK hSS hS hA hP hD [] (by decide) rfl rfl hl.1 rfl (Nat.le_of_ble_eq_true rfl) dX7_seating_44) hP hD hS hA [] rfl (fun r_5 _ H locs hw hP hS => ?_)
        replace hw := hw.symm; subst hw
        refine lv_if_ne (tgt := 53) hx hb dX7_seating_47 (by decide) (fun hc_6 => ?_) (fun hc_6 => ?_)
        · have hv := hv.1 (tv_eqn.mp hc_6)
          refine lv_aload_n hx hb dX7_seating_53 rfl (lv_at hl 0 rfl) ?_
          refine va_get (D := G.1) (ci := 7) (v := .ref q) (C := RX7) (T := TX7) (N := 11) hx hb hts hinX7 hown hKK.1 hP 0 rfl rfl 9 (by decide) kl57 (fun _ h9 => h9) rfl dX7_seating_54 ?_
          refine lv_aload_n hx hb dX7_seating_57 rfl (lv_at hl 0 rfl) ?_
          refine va_get (D := G.1) (ci := 7) (v := .ref t) (C := RX7) (T := TX7) (N := 11) hx hb hts hinX7 hown hKK.1 hP 0 rfl rfl 1 (by decide) kl19 (fun _ h9 => h9) rfl dX7_seating_58 ?_
          refine lv_aload_n hx hb dX7_seating_61 rfl (lv_at hl 0 rfl) ?_
          refine va_get (D := G.1) (ci := 7) (v := .ref n) (C := RX7) (T := TX7) (N := 11) hx hb hts hinX7 hown hKK.1 hP 0 rfl rfl 3 (by decide) kl29 (fun _ h9 => h9) rfl dX7_seating_62 ?_
          refine lv_iload_n hx hb dX7_seating_65 rfl (lv_at hl 1 rfl) ?_
          obtain ⟨hp, hv⟩ := hv
          refine x_callv (wr := [(h0, .inr (7, [.ref e0, .ref t, .ref k, .ref n, .ref j, .ref i0, .int kp, .ref b0, .ref s0, .ref q, .ref g]))]) (w' := fun (u : (Nat → Int32) × (Nat → Int32) × (Nat → Int32) × (Nat → Int32) × (Int32) × (Int32) × (Int32) × (Int32)) => [(h0, .inr (7, [.ref e0, .ref t, .ref k, .ref n, .ref j, .ref i0, .int kp, .ref b0, .ref s0, .ref q, .ref g])), (t, .inr (6, [.int ns, .int np, .int fu, .int fd, .int fi, .ref t1, .ref t2, .ref t3, .ref t4, .ref t5, .ref t6])), aI G t1 9 sz_, aI G t2 9 pt, aI G t3 9 fh, aI G t4 8 kd, aI G t5 8 nd, aI G t6 8 fw, (n, .inr (1, [.ref n1, .ref n2, .ref n3, .ref n4, .ref n5, .ref n6, .ref n7, .int lo, .int mi, .int sd])), aI G n1 9 ht, aI G n2 8 wm, aI G n3 8 se, aI G n4 8 cd, aI G n5 8 sl, aI G n6 8 od, aI G n7 72 ow, (q, .inr (3, [.ref s1, .ref q1, .ref q2, .ref q3, .ref q4, .int u.2.2.2.2.1, .int u.2.2.2.2.2.1])), aI G q1 40 u.1, aI G q2 40 u.2.1, aI G q3 4 u.2.2.1, aI G q4 4 u.2.2.2.1, (s1, .inr (4, [.int u.2.2.2.2.2.2.1, .int u.2.2.2.2.2.2.2]))]) (x_runV (As := [.ref t, .ref n, .int x]) (rest := []) (n := 3) (C := RX3) (ci := 3) ⟨hx, hb, hml, hown, hts⟩ (k_X3_search l G q q1 q2 q3 q4 s1 t t1 t2 t3 t4 t5 t6 n n1 n2 n3 n4 n5 n6 n7 _ bc bl co wo ch be sw1 sh1 ns np fu fd fi sz_ pt fh kd nd fw ht wm se cd sl od ow lo mi sd x hp) gX7_seating_X3_search rfl (by decide +kernel) ⟨Nat.le_trans (Nat.le_of_ble_eq_true rfl) hRf, Nat.le_trans (Nat.le_of_ble_eq_true rfl) hRl⟩ hKK hSS hS hA hP hD [16, 17, 18, 19, 20, 21, 1, 2, 3, 4, 5, 6, 7, 8, 9, 10, 11, 12, 13, 14, 15] (by decide) rfl rfl rfl 16 rfl rfl hl.1 rfl (Nat.le_of_ble_eq_true rfl) dX7_seating_66) hP hD hS hA [16, 17, 18, 19, 20, 21, 1, 2, 3, 4, 5, 6, 7, 8, 9, 10, 11, 12, 13, 14, 15] [0] [0, 7, 8, 9, 10, 11, 12, 13, 14, 15, 16, 17, 18, 19, 20, 21, 1, 2, 3, 4, 5, 6] rfl rfl (by decide) (by decide) (by decide) (fun _ => rfl) (fun  u H locs hw hP hD hS => ?_)
          obtain ⟨co2_8, wo2_9, ch2_10, be2_11, bc2_12, bl2_13, sw2_14, sh2_15⟩ := u
          have hP : va_P G.1 vwCl [(h0, .inr (7, [.ref e0, .ref t, .ref k, .ref n, .ref j, .ref i0, .int kp, .ref b0, .ref s0, .ref q, .ref g])), (t, .inr (6, [.int ns, .int np, .int fu, .int fd, .int fi, .ref t1, .ref t2, .ref t3, .ref t4, .ref t5, .ref t6])), aI G t1 9 sz_, aI G t2 9 pt, aI G t3 9 fh, aI G t4 8 kd, aI G t5 8 nd, aI G t6 8 fw, (n, .inr (1, [.ref n1, .ref n2, .ref n3, .ref n4, .ref n5, .ref n6, .ref n7, .int lo, .int mi, .int sd])), aI G n1 9 ht, aI G n2 8 wm, aI G n3 8 se, aI G n4 8 cd, aI G n5 8 sl, aI G n6 8 od, aI G n7 72 ow, (q, .inr (3, [.ref s1, .ref q1, .ref q2, .ref q3, .ref q4, .int bc2_12, .int bl2_13])), aI G q1 40 co2_8, aI G q2 40 wo2_9, aI G q3 4 ch2_10, aI G q4 4 be2_11, (s1, .inr (4, [.int sw2_14, .int sh2_15]))] H := hP
          have hD : va_D A [(h0, .inr (7, [.ref e0, .ref t, .ref k, .ref n, .ref j, .ref i0, .int kp, .ref b0, .ref s0, .ref q, .ref g])), (t, .inr (6, [.int ns, .int np, .int fu, .int fd, .int fi, .ref t1, .ref t2, .ref t3, .ref t4, .ref t5, .ref t6])), aI G t1 9 sz_, aI G t2 9 pt, aI G t3 9 fh, aI G t4 8 kd, aI G t5 8 nd, aI G t6 8 fw, (n, .inr (1, [.ref n1, .ref n2, .ref n3, .ref n4, .ref n5, .ref n6, .ref n7, .int lo, .int mi, .int sd])), aI G n1 9 ht, aI G n2 8 wm, aI G n3 8 se, aI G n4 8 cd, aI G n5 8 sl, aI G n6 8 od, aI G n7 72 ow, (q, .inr (3, [.ref s1, .ref q1, .ref q2, .ref q3, .ref q4, .int bc2_12, .int bl2_13])), aI G q1 40 co2_8, aI G q2 40 wo2_9, aI G q3 4 ch2_10, aI G q4 4 be2_11, (s1, .inr (4, [.int sw2_14, .int sh2_15]))] := hD
          have hv := hv co2_8 wo2_9 ch2_10 be2_11 bc2_12 bl2_13 sw2_14 sh2_15 hw
          refine lv_aload_n hx hb dX7_seating_69 rfl (lv_at hl 0 rfl) ?_
          refine va_get (D := G.1) (ci := 7) (v := .ref q) (C := RX7) (T := TX7) (N := 11) hx hb hts hinX7 hown hKK.1 hP 0 rfl rfl 9 (by decide) kl57 (fun _ h9 => h9) rfl dX7_seating_70 ?_
          refine lv_iload_n hx hb dX7_seating_73 rfl (lv_at hl 2 rfl) ?_
          refine x_calliR (x_runV (As := [.int v]) (rest := []) (n := 1) (C := RX3) (ci := 3) ⟨hx, hb, hml, hown, hts⟩ (k_X3_answer l G q q1 q2 q3 q4 _ s1 bc2_12 bl2_13 co2_8 wo2_9 ch2_10 be2_11 v) gX7_seating_X3_answer rfl (by decide +kernel) ⟨Nat.le_trans (Nat.le_of_ble_eq_true rfl) hRf, Nat.le_trans (Nat.le_of_ble_eq_true rfl) hRl⟩ hKK hSS hS hA hP hD [16, 17, 18, 19, 20] (by decide) rfl rfl rfl 16 rfl rfl hl.1 rfl (Nat.le_of_ble_eq_true rfl) dX7_seating_74) hP hD hS hA [16, 17, 18, 19, 20] rfl (fun r_16 _ H locs hw hP hS => ?_)
          replace hw := hw.symm; subst hw
          exact x_iret (v := (if v = 0 then bc2_12 else if v = 1 then bl2_13 else if ¬ v - 2 < 0 ∧ ¬ 3 < v - 2 then be2_11 (v - 2).toNatClampNeg else (-1000000002))) (co2_8, wo2_9, ch2_10, be2_11, bc2_12, bl2_13, sw2_14, sh2_15) hQ hx hb hr hlocks hS dX7_seating_77 hv hP hD
        · have hv := hv.2 (tv_eq.mp hc_6)
          refine lv_ldc (v := (-1000000003)) hx hb hown kl179 dX7_seating_50 ?_
          exact x_iret (v := (-1000000003)) (co, wo, ch, be, bc, bl, sw1, sh1) hQ hx hb hr hlocks hS dX7_seating_52 hv hP hD
      · have hv := hv.2 hc_4
        refine lv_aload_n hx hb dX7_seating_19 rfl (lv_at hl 0 rfl) ?_
        refine va_get (D := G.1) (ci := 7) (v := .ref t) (C := RX7) (T := TX7) (N := 11) hx hb hts hinX7 hown hKK.1 hP 0 rfl rfl 1 (by decide) kl19 (fun _ h9 => h9) rfl dX7_seating_20 ?_
        refine lv_iload_n hx hb dX7_seating_23 rfl (lv_at hl 2 rfl) ?_
        refine lv_iconst (v := 2) hx hb dX7_seating_24 (by decide) ?_
        refine lv_isub hx hb dX7_seating_25 ?_
        refine x_calliR (x_runV (As := [.int (v - 2)]) (rest := []) (n := 1) (C := RX6) (ci := 6) ⟨hx, hb, hml, hown, hts⟩ (k_X6_hasPerson l G t t1 t2 t3 t4 t5 t6 _ ns np fu fd fi sz_ pt fh kd nd fw (v - 2)) gX7_seating_X6_hasPerson rfl (by decide +kernel) ⟨Nat.le_trans (Nat.le_of_ble_eq_true rfl) hRf, Nat.le_trans (Nat.le_of_ble_eq_true rfl) hRl⟩ hKK hSS hS hA hP hD [1, 2, 3, 4, 5, 6, 7] (by decide) rfl rfl rfl 1 rfl rfl hl.1 rfl (Nat.le_of_ble_eq_true rfl) dX7_seating_26) hP hD hS hA [1, 2, 3, 4, 5, 6, 7] rfl (fun r_17 _ H locs hw hP hS => ?_)
        replace hw := hw.symm; subst hw
        refine lv_if_ne (tgt := 35) hx hb dX7_seating_29 (by decide) (fun hc_18 => ?_) (fun hc_18 => ?_)
        · have hv := hv.1 (tv_eqn.mp hc_18)
          refine lv_aload_n hx hb dX7_seating_35 rfl (lv_at hl 0 rfl) ?_
          refine va_get (D := G.1) (ci := 7) (v := .ref t) (C := RX7) (T := TX7) (N := 11) hx hb hts hinX7 hown hKK.1 hP 0 rfl rfl 1 (by decide) kl19 (fun _ h9 => h9) rfl dX7_seating_36 ?_
          refine va_get (D := G.1) (ci := 6) (v := .int np) (C := RX6) (T := TX6) (N := 11) hx hb hts hinX6 hown hKK.1 hP 1 rfl rfl 1 (by decide) kl106 (fun _ h9 => h9) rfl dX7_seating_39 ?_
          refine lv_iconst (v := 1) hx hb dX7_seating_42 (by decide) ?_
          refine lv_iconst (v := 4) hx hb dX7_seating_43 (by decide) ?_
          refine x_calliR (x_runS (As := [.int np, .int 1, .int 4]) (rest := []) (n := 3) ⟨hx, hb, hml, hown, hts⟩ (k_X7_within l G  _ np 1 4) gX7_seating_X7_within rfl (by decide +kernel) ⟨Nat.le_trans (Nat.le_of_ble_eq_true rfl) hRf, Nat.le_trans (Nat.le_of_ble_eq_true rfl) hRl⟩ hKK hSS hS hA hP hD [] (by decide) rfl rfl hl.1 rfl (Nat.le_of_ble_eq_true rfl) dX7_seating_44) hP hD hS hA [] rfl (fun r_19 _ H locs hw hP hS => ?_)
          replace hw := hw.symm; subst hw
          refine lv_if_ne (tgt := 53) hx hb dX7_seating_47 (by decide) (fun hc_20 => ?_) (fun hc_20 => ?_)
          · have hv := hv.1 (tv_eqn.mp hc_20)
            refine lv_aload_n hx hb dX7_seating_53 rfl (lv_at hl 0 rfl) ?_
            refine va_get (D := G.1) (ci := 7) (v := .ref q) (C := RX7) (T := TX7) (N := 11) hx hb hts hinX7 hown hKK.1 hP 0 rfl rfl 9 (by decide) kl57 (fun _ h9 => h9) rfl dX7_seating_54 ?_
            refine lv_aload_n hx hb dX7_seating_57 rfl (lv_at hl 0 rfl) ?_
            refine va_get (D := G.1) (ci := 7) (v := .ref t) (C := RX7) (T := TX7) (N := 11) hx hb hts hinX7 hown hKK.1 hP 0 rfl rfl 1 (by decide) kl19 (fun _ h9 => h9) rfl dX7_seating_58 ?_
            refine lv_aload_n hx hb dX7_seating_61 rfl (lv_at hl 0 rfl) ?_
            refine va_get (D := G.1) (ci := 7) (v := .ref n) (C := RX7) (T := TX7) (N := 11) hx hb hts hinX7 hown hKK.1 hP 0 rfl rfl 3 (by decide) kl29 (fun _ h9 => h9) rfl dX7_seating_62 ?_
            refine lv_iload_n hx hb dX7_seating_65 rfl (lv_at hl 1 rfl) ?_
            obtain ⟨hp, hv⟩ := hv
            refine x_callv (wr := [(h0, .inr (7, [.ref e0, .ref t, .ref k, .ref n, .ref j, .ref i0, .int kp, .ref b0, .ref s0, .ref q, .ref g]))]) (w' := fun (u : (Nat → Int32) × (Nat → Int32) × (Nat → Int32) × (Nat → Int32) × (Int32) × (Int32) × (Int32) × (Int32)) => [(h0, .inr (7, [.ref e0, .ref t, .ref k, .ref n, .ref j, .ref i0, .int kp, .ref b0, .ref s0, .ref q, .ref g])), (t, .inr (6, [.int ns, .int np, .int fu, .int fd, .int fi, .ref t1, .ref t2, .ref t3, .ref t4, .ref t5, .ref t6])), aI G t1 9 sz_, aI G t2 9 pt, aI G t3 9 fh, aI G t4 8 kd, aI G t5 8 nd, aI G t6 8 fw, (n, .inr (1, [.ref n1, .ref n2, .ref n3, .ref n4, .ref n5, .ref n6, .ref n7, .int lo, .int mi, .int sd])), aI G n1 9 ht, aI G n2 8 wm, aI G n3 8 se, aI G n4 8 cd, aI G n5 8 sl, aI G n6 8 od, aI G n7 72 ow, (q, .inr (3, [.ref s1, .ref q1, .ref q2, .ref q3, .ref q4, .int u.2.2.2.2.1, .int u.2.2.2.2.2.1])), aI G q1 40 u.1, aI G q2 40 u.2.1, aI G q3 4 u.2.2.1, aI G q4 4 u.2.2.2.1, (s1, .inr (4, [.int u.2.2.2.2.2.2.1, .int u.2.2.2.2.2.2.2]))]) (x_runV (As := [.ref t, .ref n, .int x]) (rest := []) (n := 3) (C := RX3) (ci := 3) ⟨hx, hb, hml, hown, hts⟩ (k_X3_search l G q q1 q2 q3 q4 s1 t t1 t2 t3 t4 t5 t6 n n1 n2 n3 n4 n5 n6 n7 _ bc bl co wo ch be sw1 sh1 ns np fu fd fi sz_ pt fh kd nd fw ht wm se cd sl od ow lo mi sd x hp) gX7_seating_X3_search rfl (by decide +kernel) ⟨Nat.le_trans (Nat.le_of_ble_eq_true rfl) hRf, Nat.le_trans (Nat.le_of_ble_eq_true rfl) hRl⟩ hKK hSS hS hA hP hD [16, 17, 18, 19, 20, 21, 1, 2, 3, 4, 5, 6, 7, 8, 9, 10, 11, 12, 13, 14, 15] (by decide) rfl rfl rfl 16 rfl rfl hl.1 rfl (Nat.le_of_ble_eq_true rfl) dX7_seating_66) hP hD hS hA [16, 17, 18, 19, 20, 21, 1, 2, 3, 4, 5, 6, 7, 8, 9, 10, 11, 12, 13, 14, 15] [0] [0, 7, 8, 9, 10, 11, 12, 13, 14, 15, 16, 17, 18, 19, 20, 21, 1, 2, 3, 4, 5, 6] rfl rfl (by decide) (by decide) (by decide) (fun _ => rfl) (fun  u H locs hw hP hD hS => ?_)
            obtain ⟨co2_22, wo2_23, ch2_24, be2_25, bc2_26, bl2_27, sw2_28, sh2_29⟩ := u
            have hP : va_P G.1 vwCl [(h0, .inr (7, [.ref e0, .ref t, .ref k, .ref n, .ref j, .ref i0, .int kp, .ref b0, .ref s0, .ref q, .ref g])), (t, .inr (6, [.int ns, .int np, .int fu, .int fd, .int fi, .ref t1, .ref t2, .ref t3, .ref t4, .ref t5, .ref t6])), aI G t1 9 sz_, aI G t2 9 pt, aI G t3 9 fh, aI G t4 8 kd, aI G t5 8 nd, aI G t6 8 fw, (n, .inr (1, [.ref n1, .ref n2, .ref n3, .ref n4, .ref n5, .ref n6, .ref n7, .int lo, .int mi, .int sd])), aI G n1 9 ht, aI G n2 8 wm, aI G n3 8 se, aI G n4 8 cd, aI G n5 8 sl, aI G n6 8 od, aI G n7 72 ow, (q, .inr (3, [.ref s1, .ref q1, .ref q2, .ref q3, .ref q4, .int bc2_26, .int bl2_27])), aI G q1 40 co2_22, aI G q2 40 wo2_23, aI G q3 4 ch2_24, aI G q4 4 be2_25, (s1, .inr (4, [.int sw2_28, .int sh2_29]))] H := hP
            have hD : va_D A [(h0, .inr (7, [.ref e0, .ref t, .ref k, .ref n, .ref j, .ref i0, .int kp, .ref b0, .ref s0, .ref q, .ref g])), (t, .inr (6, [.int ns, .int np, .int fu, .int fd, .int fi, .ref t1, .ref t2, .ref t3, .ref t4, .ref t5, .ref t6])), aI G t1 9 sz_, aI G t2 9 pt, aI G t3 9 fh, aI G t4 8 kd, aI G t5 8 nd, aI G t6 8 fw, (n, .inr (1, [.ref n1, .ref n2, .ref n3, .ref n4, .ref n5, .ref n6, .ref n7, .int lo, .int mi, .int sd])), aI G n1 9 ht, aI G n2 8 wm, aI G n3 8 se, aI G n4 8 cd, aI G n5 8 sl, aI G n6 8 od, aI G n7 72 ow, (q, .inr (3, [.ref s1, .ref q1, .ref q2, .ref q3, .ref q4, .int bc2_26, .int bl2_27])), aI G q1 40 co2_22, aI G q2 40 wo2_23, aI G q3 4 ch2_24, aI G q4 4 be2_25, (s1, .inr (4, [.int sw2_28, .int sh2_29]))] := hD
            have hv := hv co2_22 wo2_23 ch2_24 be2_25 bc2_26 bl2_27 sw2_28 sh2_29 hw
            refine lv_aload_n hx hb dX7_seating_69 rfl (lv_at hl 0 rfl) ?_
            refine va_get (D := G.1) (ci := 7) (v := .ref q) (C := RX7) (T := TX7) (N := 11) hx hb hts hinX7 hown hKK.1 hP 0 rfl rfl 9 (by decide) kl57 (fun _ h9 => h9) rfl dX7_seating_70 ?_
            refine lv_iload_n hx hb dX7_seating_73 rfl (lv_at hl 2 rfl) ?_
            refine x_calliR (x_runV (As := [.int v]) (rest := []) (n := 1) (C := RX3) (ci := 3) ⟨hx, hb, hml, hown, hts⟩ (k_X3_answer l G q q1 q2 q3 q4 _ s1 bc2_26 bl2_27 co2_22 wo2_23 ch2_24 be2_25 v) gX7_seating_X3_answer rfl (by decide +kernel) ⟨Nat.le_trans (Nat.le_of_ble_eq_true rfl) hRf, Nat.le_trans (Nat.le_of_ble_eq_true rfl) hRl⟩ hKK hSS hS hA hP hD [16, 17, 18, 19, 20] (by decide) rfl rfl rfl 16 rfl rfl hl.1 rfl (Nat.le_of_ble_eq_true rfl) dX7_seating_74) hP hD hS hA [16, 17, 18, 19, 20] rfl (fun r_30 _ H locs hw hP hS => ?_)
            replace hw := hw.symm; subst hw
            exact x_iret (v := (if v = 0 then bc2_26 else if v = 1 then bl2_27 else if ¬ v - 2 < 0 ∧ ¬ 3 < v - 2 then be2_25 (v - 2).toNatClampNeg else (-1000000002))) (co2_22, wo2_23, ch2_24, be2_25, bc2_26, bl2_27, sw2_28, sh2_29) hQ hx hb hr hlocks hS dX7_seating_77 hv hP hD
          · have hv := hv.2 (tv_eq.mp hc_20)
            refine lv_ldc (v := (-1000000003)) hx hb hown kl179 dX7_seating_50 ?_
            exact x_iret (v := (-1000000003)) (co, wo, ch, be, bc, bl, sw1, sh1) hQ hx hb hr hlocks hS dX7_seating_52 hv hP hD
        · have hv := hv.2 (tv_eq.mp hc_18)
          refine lv_ldc (v := (-1000000002)) hx hb hown kl72 dX7_seating_32 ?_
          exact x_iret (v := (-1000000002)) (co, wo, ch, be, bc, bl, sw1, sh1) hQ hx hb hr hlocks hS dX7_seating_34 hv hP hD
theorem k_X7_seating (l : Launch) (G : Gt) (h0 t t1 t2 t3 t4 t5 t6 n n1 n2 n3 n4 n5 n6 n7 q q1 q2 q3 q4 s1 : Nat) (sz : Nat) (e0 : Nat) (k : Nat) (j : Nat) (i0 : Nat) (b0 : Nat) (s0 : Nat) (g : Nat) (kp : Int32) (ns : Int32) (np : Int32) (fu : Int32) (fd : Int32) (fi : Int32) (sz_ : Nat → Int32) (pt : Nat → Int32) (fh : Nat → Int32) (kd : Nat → Int32) (nd : Nat → Int32) (fw : Nat → Int32) (ht : Nat → Int32) (wm : Nat → Int32) (se : Nat → Int32) (cd : Nat → Int32) (sl : Nat → Int32) (od : Nat → Int32) (ow : Nat → Int32) (lo : Int32) (mi : Int32) (sd : Int32) (bc : Int32) (bl : Int32) (co : Nat → Int32) (wo : Nat → Int32) (ch : Nat → Int32) (be : Nat → Int32) (sw1 : Int32) (sh1 : Int32) (x : Int32) (v : Int32) (hp : True) : MetI l yX7_seating wsX7_seating 9 245 G [.ref h0, .int x, .int v] [(h0, .inr (7, [.ref e0, .ref t, .ref k, .ref n, .ref j, .ref i0, .int kp, .ref b0, .ref s0, .ref q, .ref g])), (t, .inr (6, [.int ns, .int np, .int fu, .int fd, .int fi, .ref t1, .ref t2, .ref t3, .ref t4, .ref t5, .ref t6])), aI G t1 9 sz_, aI G t2 9 pt, aI G t3 9 fh, aI G t4 8 kd, aI G t5 8 nd, aI G t6 8 fw, (n, .inr (1, [.ref n1, .ref n2, .ref n3, .ref n4, .ref n5, .ref n6, .ref n7, .int lo, .int mi, .int sd])), aI G n1 9 ht, aI G n2 8 wm, aI G n3 8 se, aI G n4 8 cd, aI G n5 8 sl, aI G n6 8 od, aI G n7 72 ow, (q, .inr (3, [.ref s1, .ref q1, .ref q2, .ref q3, .ref q4, .int bc, .int bl])), aI G q1 40 co, aI G q2 40 wo, aI G q3 4 ch, aI G q4 4 be, (s1, .inr (4, [.int sw1, .int sh1]))] sz (fun (r : Int32) (u : (Nat → Int32) × (Nat → Int32) × (Nat → Int32) × (Nat → Int32) × (Int32) × (Int32) × (Int32) × (Int32)) => True) (fun (u : (Nat → Int32) × (Nat → Int32) × (Nat → Int32) × (Nat → Int32) × (Int32) × (Int32) × (Int32) × (Int32)) => [(h0, .inr (7, [.ref e0, .ref t, .ref k, .ref n, .ref j, .ref i0, .int kp, .ref b0, .ref s0, .ref q, .ref g])), (t, .inr (6, [.int ns, .int np, .int fu, .int fd, .int fi, .ref t1, .ref t2, .ref t3, .ref t4, .ref t5, .ref t6])), aI G t1 9 sz_, aI G t2 9 pt, aI G t3 9 fh, aI G t4 8 kd, aI G t5 8 nd, aI G t6 8 fw, (n, .inr (1, [.ref n1, .ref n2, .ref n3, .ref n4, .ref n5, .ref n6, .ref n7, .int lo, .int mi, .int sd])), aI G n1 9 ht, aI G n2 8 wm, aI G n3 8 se, aI G n4 8 cd, aI G n5 8 sl, aI G n6 8 od, aI G n7 72 ow, (q, .inr (3, [.ref s1, .ref q1, .ref q2, .ref q3, .ref q4, .int u.2.2.2.2.1, .int u.2.2.2.2.2.1])), aI G q1 40 u.1, aI G q2 40 u.2.1, aI G q3 4 u.2.2.1, aI G q4 4 u.2.2.2.1, (s1, .inr (4, [.int u.2.2.2.2.2.2.1, .int u.2.2.2.2.2.2.2]))]) :=
  c_X7_seating l G h0 t t1 t2 t3 t4 t5 t6 n n1 n2 n3 n4 n5 n6 n7 q q1 q2 q3 q4 s1 sz e0 k j i0 b0 s0 g kp ns np fu fd fi sz_ pt fh kd nd fw ht wm se cd sl od ow lo mi sd bc bl co wo ch be sw1 sh1 x v (by
    sorry)

set_option maxHeartbeats 4000000 in
set_option maxRecDepth 100000 in
theorem c_X7_passed (l : Launch) (G : Gt) (h0 t t1 t2 t3 t4 t5 t6 n n1 n2 n3 n4 n5 n6 n7 g g1 g2 g3 s2 : Nat) (sz : Nat) (e0 : Nat) (k : Nat) (j : Nat) (i0 : Nat) (b0 : Nat) (s0 : Nat) (q : Nat) (kp : Int32) (ns : Int32) (np : Int32) (fu : Int32) (fd : Int32) (fi : Int32) (sz_ : Nat → Int32) (pt : Nat → Int32) (fh : Nat → Int32) (kd : Nat → Int32) (nd : Nat → Int32) (fw : Nat → Int32) (ht : Nat → Int32) (wm : Nat → Int32) (se : Nat → Int32) (cd : Nat → Int32) (sl : Nat → Int32) (od : Nat → Int32) (ow : Nat → Int32) (lo : Int32) (mi : Int32) (sd : Int32) (gs : Int32) (gm : Int32) (gb : Int32) (go : Nat → Int32) (gz : Nat → Int32) (gf : Nat → Int32) (sw2 : Int32) (sh2 : Int32) (x : Int32) (v : Int32) (w0 : Int32) (w1 : Int32) (hv : (¬ (¬ x < 0 ∧ ¬ ns ≤ x) → True) ∧ (¬ x < 0 ∧ ¬ ns ≤ x → (((v).toUInt32 >>> ((np : Int32).toUInt32 &&& Int32.toUInt32 31)).toInt32 = 0 → ∀ (r_4 : Int32), (True) → ((¬ (¬ w0 < 1 ∧ ¬ 60 < w0) → True) ∧ (¬ w0 < 1 ∧ ¬ 60 < w0 → (¬ (¬ r_4 < 1 ∧ ¬ 6 < r_4) → True) ∧ (¬ r_4 < 1 ∧ ¬ 6 < r_4 → (¬ w1 < 0 ∧ ¬ r_4 < w1 → (True) ∧ (∀ (go2_12 : Nat → Int32) (gz2_13 : Nat → Int32) (gf2_14 : Nat → Int32) (gb2_15 : Int32) (sw2_16 : Int32) (sh2_17 : Int32) (gs2_18 : Int32) (gm2_19 : Int32), (True) → (True))) ∧ (¬ (¬ w1 < 0 ∧ ¬ r_4 < w1) → True))))) ∧ (¬ (((v).toUInt32 >>> ((np : Int32).toUInt32 &&& Int32.toUInt32 31)).toInt32 = 0) → True))) : MetI l yX7_passed wsX7_passed 13 331 G [.ref h0, .int x, .int v, .int w0, .int w1] [(h0, .inr (7, [.ref e0, .ref t, .ref k, .ref n, .ref j, .ref i0, .int kp, .ref b0, .ref s0, .ref q, .ref g])), (t, .inr (6, [.int ns, .int np, .int fu, .int fd, .int fi, .ref t1, .ref t2, .ref t3, .ref t4, .ref t5, .ref t6])), aI G t1 9 sz_, aI G t2 9 pt, aI G t3 9 fh, aI G t4 8 kd, aI G t5 8 nd, aI G t6 8 fw, (n, .inr (1, [.ref n1, .ref n2, .ref n3, .ref n4, .ref n5, .ref n6, .ref n7, .int lo, .int mi, .int sd])), aI G n1 9 ht, aI G n2 8 wm, aI G n3 8 se, aI G n4 8 cd, aI G n5 8 sl, aI G n6 8 od, aI G n7 72 ow, (g, .inr (2, [.ref s2, .ref g1, .ref g2, .ref g3, .int gs, .int gm, .int gb])), aI G g1 6 go, aI G g2 6 gz, aI G g3 256 gf, (s2, .inr (4, [.int sw2, .int sh2]))] sz (fun (r : Int32) (u : (Nat → Int32) × (Nat → Int32) × (Nat → Int32) × (Int32) × (Int32) × (Int32) × (Int32) × (Int32)) => True) (fun (u : (Nat → Int32) × (Nat → Int32) × (Nat → Int32) × (Int32) × (Int32) × (Int32) × (Int32) × (Int32)) => [(h0, .inr (7, [.ref e0, .ref t, .ref k, .ref n, .ref j, .ref i0, .int kp, .ref b0, .ref s0, .ref q, .ref g])), (t, .inr (6, [.int ns, .int np, .int fu, .int fd, .int fi, .ref t1, .ref t2, .ref t3, .ref t4, .ref t5, .ref t6])), aI G t1 9 sz_, aI G t2 9 pt, aI G t3 9 fh, aI G t4 8 kd, aI G t5 8 nd, aI G t6 8 fw, (n, .inr (1, [.ref n1, .ref n2, .ref n3, .ref n4, .ref n5, .ref n6, .ref n7, .int lo, .int mi, .int sd])), aI G n1 9 ht, aI G n2 8 wm, aI G n3 8 se, aI G n4 8 cd, aI G n5 8 sl, aI G n6 8 od, aI G n7 72 ow, (g, .inr (2, [.ref s2, .ref g1, .ref g2, .ref g3, .int u.2.2.2.2.1, .int u.2.2.2.2.2.1, .int u.2.2.2.1])), aI G g1 6 u.1, aI G g2 6 u.2.1, aI G g3 256 u.2.2.1, (s2, .inr (4, [.int u.2.2.2.2.2.2.1, .int u.2.2.2.2.2.2.2]))]) := by
  refine x_startI (cc := cX7_passed) (maxL := 6) (ret := (some .int)) (by decide) rfl (Nat.le_of_ble_eq_true rfl) ?_
  intro p e s m args below meth c A R Q ls hRf hRl hQ C hP hD hS hA hSS hl
  obtain ⟨hx, hb, hr, hml, hown, hts, hlocks, hKK⟩ := C
  have hown : s.vm.findClass RX7 = some m.cls := hown
  have hl : lv_has ls 6 [(0, .ref h0), (1, .int x), (2, .int v), (3, .int w0), (4, .int w1)] := hl
  have hinX6 : ∀ w ∈ u_ws RX6 TX6 11, w ∈ wsX7_passed := by decide +kernel
  have hinX7 : ∀ w ∈ u_ws RX7 TX7 11, w ∈ wsX7_passed := by decide +kernel
  have kl106 := hts (.fieldLink RX7 106 "WarmStones$Town" "persons" "I") (by decide +kernel)
  have kl143 := hts (.constant RX7 143 (-1000000001)) (by decide +kernel)
  have kl19 := hts (.fieldLink RX7 19 "WarmStones" "town" "LWarmStones$Town;") (by decide +kernel)
  have kl29 := hts (.fieldLink RX7 29 "WarmStones" "night" "LWarmStones$Night;") (by decide +kernel)
  have kl64 := hts (.fieldLink RX7 64 "WarmStones" "passing" "LWarmStones$Passing;") (by decide +kernel)
  have kl72 := hts (.constant RX7 72 (-1000000002)) (by decide +kernel)
  refine lv_aload_n hx hb dX7_passed_0 rfl (lv_at hl 0 rfl) ?_
  refine va_get (D := G.1) (ci := 7) (v := .ref t) (C := RX7) (T := TX7) (N := 11) hx hb hts hinX7 hown hKK.1 hP 0 rfl rfl 1 (by decide) kl19 (fun _ h9 => h9) rfl dX7_passed_1 ?_
  refine lv_iload_n hx hb dX7_passed_4 rfl (lv_at hl 1 rfl) ?_
  refine x_calliR (x_runV (As := [.int x]) (rest := []) (n := 1) (C := RX6) (ci := 6) ⟨hx, hb, hml, hown, hts⟩ (k_X6_hasStone l G t t1 t2 t3 t4 t5 t6 _ ns np fu fd fi sz_ pt fh kd nd fw x) gX7_passed_X6_hasStone rfl (by decide +kernel) ⟨Nat.le_trans (Nat.le_of_ble_eq_true rfl) hRf, Nat.le_trans (Nat.le_of_ble_eq_true rfl) hRl⟩ hKK hSS hS hA hP hD [1, 2, 3, 4, 5, 6, 7] (by decide) rfl rfl rfl 1 rfl rfl hl.1 rfl (Nat.le_of_ble_eq_true rfl) dX7_passed_5) hP hD hS hA [1, 2, 3, 4, 5, 6, 7] rfl (fun r_1 _ H locs hw hP hS => ?_)
  replace hw := hw.symm; subst hw
  refine lv_if_eq (tgt := 23) hx hb dX7_passed_8 (by decide) (fun hc_2 => ?_) (fun hc_2 => ?_)
  · have hv := hv.1 (tv_eq.mp hc_2)
    refine lv_ldc (v := (-1000000001)) hx hb hown kl143 dX7_passed_23 ?_
    exact x_iret (v := (-1000000001)) (go, gz, gf, gb, gs, gm, sw2, sh2) hQ hx hb hr hlocks hS dX7_passed_25 hv hP hD
  · have hv := hv.2 (tv_eqn.mp hc_2)
    refine lv_iload_n hx hb dX7_passed_11 rfl (lv_at hl 2 rfl) ?_
    refine lv_aload_n hx hb dX7_passed_12 rfl (lv_at hl 0 rfl) ?_
    refine va_get (D := G.1) (ci := 7) (v := .ref t) (C := RX7) (T := TX7) (N := 11) hx hb hts hinX7 hown hKK.1 hP 0 rfl rfl 1 (by decide) kl19 (fun _ h9 => h9) rfl dX7_passed_13 ?_
    refine va_get (D := G.1) (ci := 6) (v := .int np) (C := RX6) (T := TX6) (N := 11) hx hb hts hinX6 hown hKK.1 hP 1 rfl rfl 1 (by decide) kl106 (fun _ h9 => h9) rfl dX7_passed_16 ?_
    refine lv_iushr hx hb dX7_passed_19 rfl ?_
    refine lv_if_eq (tgt := 26) hx hb dX7_passed_20 (by decide) (fun hc_3 => ?_) (fun hc_3 => ?_)
    · have hv := hv.1 hc_3
      refine lv_iload_n hx hb dX7_passed_26 rfl (lv_at hl 2 rfl) ?_
      refine x_calliR (x_runS (As := [.int v]) (rest := []) (n := 1) ⟨hx, hb, hml, hown, hts⟩ (k_J6_bitCount_0f7a4 l G  _ v) gX7_passed_J6_bitCount_0f7a4 rfl (by decide +kernel) ⟨Nat.le_trans (Nat.le_of_ble_eq_true rfl) hRf, Nat.le_trans (Nat.le_of_ble_eq_true rfl) hRl⟩ hKK hSS hS hA hP hD [] (by decide) rfl rfl hl.1 rfl (Nat.le_of_ble_eq_true rfl) dX7_passed_27) hP hD hS hA [] rfl (fun r_4 _ H locs hw hP hS => ?_)
      have hv := hv r_4 hw
      refine lv_istore (lv' := [(5, .int r_4), (0, .ref h0), (1, .int x), (2, .int v), (3, .int w0), (4, .int w1)]) hx hb dX7_passed_30 hl (by decide) rfl (fun ls hl => ?_)
      refine lv_iload_n hx hb dX7_passed_32 rfl (lv_at hl 4 rfl) ?_
      refine lv_iconst (v := 1) hx hb dX7_passed_33 (by decide) ?_
      refine lv_bipush (v := 60) hx hb dX7_passed_34 (by decide) ?_
      refine x_calliR (x_runS (As := [.int w0, .int 1, .int 60]) (rest := []) (n := 3) ⟨hx, hb, hml, hown, hts⟩ (k_X7_within l G  _ w0 1 60) gX7_passed_X7_within rfl (by decide +kernel) ⟨Nat.le_trans (Nat.le_of_ble_eq_true rfl) hRf, Nat.le_trans (Nat.le_of_ble_eq_true rfl) hRl⟩ hKK hSS hS hA hP hD [] (by decide) rfl rfl hl.1 rfl (Nat.le_of_ble_eq_true rfl) dX7_passed_36) hP hD hS hA [] rfl (fun r_5 _ H locs hw hP hS => ?_)
      replace hw := hw.symm; subst hw
      refine lv_if_eq (tgt := 64) hx hb dX7_passed_39 (by decide) (fun hc_6 => ?_) (fun hc_6 => ?_)
      · have hv := hv.1 (tv_eq.mp hc_6)
        refine lv_ldc (v := (-1000000002)) hx hb hown kl72 dX7_passed_64 ?_
        exact x_iret (v := (-1000000002)) (go, gz, gf, gb, gs, gm, sw2, sh2) hQ hx hb hr hlocks hS dX7_passed_66 hv hP hD
      · have hv := hv.2 (tv_eqn.mp hc_6)
        refine lv_iload hx hb dX7_passed_42 (lv_at hl 0 rfl) ?_
        refine lv_iconst (v := 1) hx hb dX7_passed_44 (by decide) ?_
        refine lv_bipush (v := 6) hx hb dX7_passed_45 (by decide) ?_
        refine x_calliR (x_runS (As := [.int r_4, .int 1, .int 6]) (rest := []) (n := 3) ⟨hx, hb, hml, hown, hts⟩ (k_X7_within l G  _ r_4 1 6) gX7_passed_X7_within rfl (by decide +kernel) ⟨Nat.le_trans (Nat.le_of_ble_eq_true rfl) hRf, Nat.le_trans (Nat.le_of_ble_eq_true rfl) hRl⟩ hKK hSS hS hA hP hD [] (by decide) rfl rfl hl.1 rfl (Nat.le_of_ble_eq_true rfl) dX7_passed_47) hP hD hS hA [] rfl (fun r_7 _ H locs hw hP hS => ?_)
        replace hw := hw.symm; subst hw
        refine lv_if_eq (tgt := 64) hx hb dX7_passed_50 (by decide) (fun hc_8 => ?_) (fun hc_8 => ?_)
        · have hv := hv.1 (tv_eq.mp hc_8)
          refine lv_ldc (v := (-1000000002)) hx hb hown kl72 dX7_passed_64 ?_
          exact x_iret (v := (-1000000002)) (go, gz, gf, gb, gs, gm, sw2, sh2) hQ hx hb hr hlocks hS dX7_passed_66 hv hP hD
        · have hv := hv.2 (tv_eqn.mp hc_8)
          refine lv_iload hx hb dX7_passed_53 (lv_at hl 5 rfl) ?_
          refine lv_iconst (v := 0) hx hb dX7_passed_55 (by decide) ?_
          refine lv_iload hx hb dX7_passed_56 (lv_at hl 0 rfl) ?_
          refine x_calliR (x_runS (As := [.int w1, .int 0, .int r_4]) (rest := []) (n := 3) ⟨hx, hb, hml, hown, hts⟩ (k_X7_within l G  _ w1 0 r_4) gX7_passed_X7_within rfl (by decide +kernel) ⟨Nat.le_trans (Nat.le_of_ble_eq_true rfl) hRf, Nat.le_trans (Nat.le_of_ble_eq_true rfl) hRl⟩ hKK hSS hS hA hP hD [] (by decide) rfl rfl hl.1 rfl (Nat.le_of_ble_eq_true rfl) dX7_passed_58) hP hD hS hA [] rfl (fun r_9 _ H locs hw hP hS => ?_)
          replace hw := hw.symm; subst hw
          refine lv_if_ne (tgt := 67) hx hb dX7_passed_61 (by decide) (fun hc_10 => ?_) (fun hc_10 => ?_)
          · have hv := hv.1 (tv_eqn.mp hc_10)
            refine lv_aload_n hx hb dX7_passed_67 rfl (lv_at hl 1 rfl) ?_
            refine va_get (D := G.1) (ci := 7) (v := .ref g) (C := RX7) (T := TX7) (N := 11) hx hb hts hinX7 hown hKK.1 hP 0 rfl rfl 10 (by decide) kl64 (fun _ h9 => h9) rfl dX7_passed_68 ?_
            refine lv_aload_n hx hb dX7_passed_71 rfl (lv_at hl 1 rfl) ?_
            refine va_get (D := G.1) (ci := 7) (v := .ref t) (C := RX7) (T := TX7) (N := 11) hx hb hts hinX7 hown hKK.1 hP 0 rfl rfl 1 (by decide) kl19 (fun _ h9 => h9) rfl dX7_passed_72 ?_
            refine lv_aload_n hx hb dX7_passed_75 rfl (lv_at hl 1 rfl) ?_
            refine va_get (D := G.1) (ci := 7) (v := .ref n) (C := RX7) (T := TX7) (N := 11) hx hb hts hinX7 hown hKK.1 hP 0 rfl rfl 3 (by decide) kl29 (fun _ h9 => h9) rfl dX7_passed_76 ?_
            refine lv_iload_n hx hb dX7_passed_79 rfl (lv_at hl 2 rfl) ?_
            refine lv_iload_n hx hb dX7_passed_80 rfl (lv_at hl 3 rfl) ?_
            refine lv_iload_n hx hb dX7_passed_81 rfl (lv_at hl 4 rfl) ?_
            obtain ⟨hp, hv⟩ := hv
            refine x_callv (wr := [(h0, .inr (7, [.ref e0, .ref t, .ref k, .ref n, .ref j, .ref i0, .int kp, .ref b0, .ref s0, .ref q, .ref g]))]) (w' := fun (u : (Nat → Int32) × (Nat → Int32) × (Nat → Int32) × (Int32) × (Int32) × (Int32) × (Int32) × (Int32)) => [(h0, .inr (7, [.ref e0, .ref t, .ref k, .ref n, .ref j, .ref i0, .int kp, .ref b0, .ref s0, .ref q, .ref g])), (t, .inr (6, [.int ns, .int np, .int fu, .int fd, .int fi, .ref t1, .ref t2, .ref t3, .ref t4, .ref t5, .ref t6])), aI G t1 9 sz_, aI G t2 9 pt, aI G t3 9 fh, aI G t4 8 kd, aI G t5 8 nd, aI G t6 8 fw, (n, .inr (1, [.ref n1, .ref n2, .ref n3, .ref n4, .ref n5, .ref n6, .ref n7, .int lo, .int mi, .int sd])), aI G n1 9 ht, aI G n2 8 wm, aI G n3 8 se, aI G n4 8 cd, aI G n5 8 sl, aI G n6 8 od, aI G n7 72 ow, (g, .inr (2, [.ref s2, .ref g1, .ref g2, .ref g3, .int u.2.2.2.2.2.2.1, .int u.2.2.2.2.2.2.2, .int u.2.2.2.1])), aI G g1 6 u.1, aI G g2 6 u.2.1, aI G g3 256 u.2.2.1, (s2, .inr (4, [.int u.2.2.2.2.1, .int u.2.2.2.2.2.1]))]) (x_runV (As := [.ref t, .ref n, .int x, .int v, .int w0]) (rest := []) (n := 5) (C := RX2) (ci := 2) ⟨hx, hb, hml, hown, hts⟩ (k_X2_search l G g g1 g2 g3 s2 t t1 t2 t3 t4 t5 t6 n n1 n2 n3 n4 n5 n6 n7 _ gs gm gb go gz gf sw2 sh2 ns np fu fd fi sz_ pt fh kd nd fw ht wm se cd sl od ow lo mi sd x v w0 hp) gX7_passed_X2_search rfl (by decide +kernel) ⟨Nat.le_trans (Nat.le_of_ble_eq_true rfl) hRf, Nat.le_trans (Nat.le_of_ble_eq_true rfl) hRl⟩ hKK hSS hS hA hP hD [16, 17, 18, 19, 20, 1, 2, 3, 4, 5, 6, 7, 8, 9, 10, 11, 12, 13, 14, 15] (by decide) rfl rfl rfl 16 rfl rfl hl.1 rfl (Nat.le_of_ble_eq_true rfl) dX7_passed_82) hP hD hS hA [16, 17, 18, 19, 20, 1, 2, 3, 4, 5, 6, 7, 8, 9, 10, 11, 12, 13, 14, 15] [0] [0, 6, 7, 8, 9, 10, 11, 12, 13, 14, 15, 16, 17, 18, 19, 20, 1, 2, 3, 4, 5] rfl rfl (by decide) (by decide) (by decide) (fun _ => rfl) (fun  u H locs hw hP hD hS => ?_)
            obtain ⟨go2_12, gz2_13, gf2_14, gb2_15, sw2_16, sh2_17, gs2_18, gm2_19⟩ := u
            have hP : va_P G.1 vwCl [(h0, .inr (7, [.ref e0, .ref t, .ref k, .ref n, .ref j, .ref i0, .int kp, .ref b0, .ref s0, .ref q, .ref g])), (t, .inr (6, [.int ns, .int np, .int fu, .int fd, .int fi, .ref t1, .ref t2, .ref t3, .ref t4, .ref t5, .ref t6])), aI G t1 9 sz_, aI G t2 9 pt, aI G t3 9 fh, aI G t4 8 kd, aI G t5 8 nd, aI G t6 8 fw, (n, .inr (1, [.ref n1, .ref n2, .ref n3, .ref n4, .ref n5, .ref n6, .ref n7, .int lo, .int mi, .int sd])), aI G n1 9 ht, aI G n2 8 wm, aI G n3 8 se, aI G n4 8 cd, aI G n5 8 sl, aI G n6 8 od, aI G n7 72 ow, (g, .inr (2, [.ref s2, .ref g1, .ref g2, .ref g3, .int gs2_18, .int gm2_19, .int gb2_15])), aI G g1 6 go2_12, aI G g2 6 gz2_13, aI G g3 256 gf2_14, (s2, .inr (4, [.int sw2_16, .int sh2_17]))] H := hP
            have hD : va_D A [(h0, .inr (7, [.ref e0, .ref t, .ref k, .ref n, .ref j, .ref i0, .int kp, .ref b0, .ref s0, .ref q, .ref g])), (t, .inr (6, [.int ns, .int np, .int fu, .int fd, .int fi, .ref t1, .ref t2, .ref t3, .ref t4, .ref t5, .ref t6])), aI G t1 9 sz_, aI G t2 9 pt, aI G t3 9 fh, aI G t4 8 kd, aI G t5 8 nd, aI G t6 8 fw, (n, .inr (1, [.ref n1, .ref n2, .ref n3, .ref n4, .ref n5, .ref n6, .ref n7, .int lo, .int mi, .int sd])), aI G n1 9 ht, aI G n2 8 wm, aI G n3 8 se, aI G n4 8 cd, aI G n5 8 sl, aI G n6 8 od, aI G n7 72 ow, (g, .inr (2, [.ref s2, .ref g1, .ref g2, .ref g3, .int gs2_18, .int gm2_19, .int gb2_15])), aI G g1 6 go2_12, aI G g2 6 gz2_13, aI G g3 256 gf2_14, (s2, .inr (4, [.int sw2_16, .int sh2_17]))] := hD
            have hv := hv go2_12 gz2_13 gf2_14 gb2_15 sw2_16 sh2_17 gs2_18 gm2_19 hw
            refine lv_aload_n hx hb dX7_passed_85 rfl (lv_at hl 1 rfl) ?_
            refine va_get (D := G.1) (ci := 7) (v := .ref g) (C := RX7) (T := TX7) (N := 11) hx hb hts hinX7 hown hKK.1 hP 0 rfl rfl 10 (by decide) kl64 (fun _ h9 => h9) rfl dX7_passed_86 ?_
            refine lv_iload hx hb dX7_passed_89 (lv_at hl 5 rfl) ?_
            refine x_calliR (x_runV (As := [.int w1]) (rest := []) (n := 1) (C := RX2) (ci := 2) ⟨hx, hb, hml, hown, hts⟩ (k_X2_answer l G g g1 g2 g3 _ s2 gs2_18 gm2_19 gb2_15 go2_12 gz2_13 gf2_14 w1) gX7_passed_X2_answer rfl (by decide +kernel) ⟨Nat.le_trans (Nat.le_of_ble_eq_true rfl) hRf, Nat.le_trans (Nat.le_of_ble_eq_true rfl) hRl⟩ hKK hSS hS hA hP hD [16, 17, 18, 19] (by decide) rfl rfl rfl 16 rfl rfl hl.1 rfl (Nat.le_of_ble_eq_true rfl) dX7_passed_91) hP hD hS hA [16, 17, 18, 19] rfl (fun r_20 _ H locs hw hP hS => ?_)
            replace hw := hw.symm; subst hw
            exact x_iret (v := (if w1 = 0 then gb2_15 else if ¬ w1 - 1 < 0 ∧ ¬ 5 < w1 - 1 then gz2_13 (w1 - 1).toNatClampNeg else (-1000000002))) (go2_12, gz2_13, gf2_14, gb2_15, gs2_18, gm2_19, sw2_16, sh2_17) hQ hx hb hr hlocks hS dX7_passed_94 hv hP hD
          · have hv := hv.2 (tv_eq.mp hc_10)
            refine lv_ldc (v := (-1000000002)) hx hb hown kl72 dX7_passed_64 ?_
            exact x_iret (v := (-1000000002)) (go, gz, gf, gb, gs, gm, sw2, sh2) hQ hx hb hr hlocks hS dX7_passed_66 hv hP hD
    · have hv := hv.2 hc_3
      refine lv_ldc (v := (-1000000001)) hx hb hown kl143 dX7_passed_23 ?_
      exact x_iret (v := (-1000000001)) (go, gz, gf, gb, gs, gm, sw2, sh2) hQ hx hb hr hlocks hS dX7_passed_25 hv hP hD
theorem k_X7_passed (l : Launch) (G : Gt) (h0 t t1 t2 t3 t4 t5 t6 n n1 n2 n3 n4 n5 n6 n7 g g1 g2 g3 s2 : Nat) (sz : Nat) (e0 : Nat) (k : Nat) (j : Nat) (i0 : Nat) (b0 : Nat) (s0 : Nat) (q : Nat) (kp : Int32) (ns : Int32) (np : Int32) (fu : Int32) (fd : Int32) (fi : Int32) (sz_ : Nat → Int32) (pt : Nat → Int32) (fh : Nat → Int32) (kd : Nat → Int32) (nd : Nat → Int32) (fw : Nat → Int32) (ht : Nat → Int32) (wm : Nat → Int32) (se : Nat → Int32) (cd : Nat → Int32) (sl : Nat → Int32) (od : Nat → Int32) (ow : Nat → Int32) (lo : Int32) (mi : Int32) (sd : Int32) (gs : Int32) (gm : Int32) (gb : Int32) (go : Nat → Int32) (gz : Nat → Int32) (gf : Nat → Int32) (sw2 : Int32) (sh2 : Int32) (x : Int32) (v : Int32) (w0 : Int32) (w1 : Int32) (hp : True) : MetI l yX7_passed wsX7_passed 13 331 G [.ref h0, .int x, .int v, .int w0, .int w1] [(h0, .inr (7, [.ref e0, .ref t, .ref k, .ref n, .ref j, .ref i0, .int kp, .ref b0, .ref s0, .ref q, .ref g])), (t, .inr (6, [.int ns, .int np, .int fu, .int fd, .int fi, .ref t1, .ref t2, .ref t3, .ref t4, .ref t5, .ref t6])), aI G t1 9 sz_, aI G t2 9 pt, aI G t3 9 fh, aI G t4 8 kd, aI G t5 8 nd, aI G t6 8 fw, (n, .inr (1, [.ref n1, .ref n2, .ref n3, .ref n4, .ref n5, .ref n6, .ref n7, .int lo, .int mi, .int sd])), aI G n1 9 ht, aI G n2 8 wm, aI G n3 8 se, aI G n4 8 cd, aI G n5 8 sl, aI G n6 8 od, aI G n7 72 ow, (g, .inr (2, [.ref s2, .ref g1, .ref g2, .ref g3, .int gs, .int gm, .int gb])), aI G g1 6 go, aI G g2 6 gz, aI G g3 256 gf, (s2, .inr (4, [.int sw2, .int sh2]))] sz (fun (r : Int32) (u : (Nat → Int32) × (Nat → Int32) × (Nat → Int32) × (Int32) × (Int32) × (Int32) × (Int32) × (Int32)) => True) (fun (u : (Nat → Int32) × (Nat → Int32) × (Nat → Int32) × (Int32) × (Int32) × (Int32) × (Int32) × (Int32)) => [(h0, .inr (7, [.ref e0, .ref t, .ref k, .ref n, .ref j, .ref i0, .int kp, .ref b0, .ref s0, .ref q, .ref g])), (t, .inr (6, [.int ns, .int np, .int fu, .int fd, .int fi, .ref t1, .ref t2, .ref t3, .ref t4, .ref t5, .ref t6])), aI G t1 9 sz_, aI G t2 9 pt, aI G t3 9 fh, aI G t4 8 kd, aI G t5 8 nd, aI G t6 8 fw, (n, .inr (1, [.ref n1, .ref n2, .ref n3, .ref n4, .ref n5, .ref n6, .ref n7, .int lo, .int mi, .int sd])), aI G n1 9 ht, aI G n2 8 wm, aI G n3 8 se, aI G n4 8 cd, aI G n5 8 sl, aI G n6 8 od, aI G n7 72 ow, (g, .inr (2, [.ref s2, .ref g1, .ref g2, .ref g3, .int u.2.2.2.2.1, .int u.2.2.2.2.2.1, .int u.2.2.2.1])), aI G g1 6 u.1, aI G g2 6 u.2.1, aI G g3 256 u.2.2.1, (s2, .inr (4, [.int u.2.2.2.2.2.2.1, .int u.2.2.2.2.2.2.2]))]) :=
  c_X7_passed l G h0 t t1 t2 t3 t4 t5 t6 n n1 n2 n3 n4 n5 n6 n7 g g1 g2 g3 s2 sz e0 k j i0 b0 s0 q kp ns np fu fd fi sz_ pt fh kd nd fw ht wm se cd sl od ow lo mi sd gs gm gb go gz gf sw2 sh2 x v w0 w1 (by
    sorry)

set_option maxHeartbeats 4000000 in
set_option maxRecDepth 100000 in
theorem c_X7_giftOf (l : Launch) (G : Gt) (h0 t t1 t2 t3 t4 t5 t6 n n1 n2 n3 n4 n5 n6 n7 : Nat) (sz : Nat) (e0 : Nat) (k : Nat) (j : Nat) (i0 : Nat) (b0 : Nat) (s0 : Nat) (q : Nat) (g : Nat) (kp : Int32) (ns : Int32) (np : Int32) (fu : Int32) (fd : Int32) (fi : Int32) (sz_ : Nat → Int32) (pt : Nat → Int32) (fh : Nat → Int32) (kd : Nat → Int32) (nd : Nat → Int32) (fw : Nat → Int32) (ht : Nat → Int32) (wm : Nat → Int32) (se : Nat → Int32) (cd : Nat → Int32) (sl : Nat → Int32) (od : Nat → Int32) (ow : Nat → Int32) (lo : Int32) (mi : Int32) (sd : Int32) (x : Int32) (v : Int32) (hv : (vp_in x 8) ∧ ((¬ (nd x.toNatClampNeg) = 0 → (vp_in x 8) ∧ ((vp_in x 8) ∧ ((vp_in x 8) ∧ (True)))) ∧ ((nd x.toNatClampNeg) = 0 → (vp_in x 8) ∧ (True)))) : MetI l yX7_giftOf wsX7_giftOf 1 22 G [.ref h0, .int x, .int v] [(h0, .inr (7, [.ref e0, .ref t, .ref k, .ref n, .ref j, .ref i0, .int kp, .ref b0, .ref s0, .ref q, .ref g])), (t, .inr (6, [.int ns, .int np, .int fu, .int fd, .int fi, .ref t1, .ref t2, .ref t3, .ref t4, .ref t5, .ref t6])), aI G t1 9 sz_, aI G t2 9 pt, aI G t3 9 fh, aI G t4 8 kd, aI G t5 8 nd, aI G t6 8 fw, (n, .inr (1, [.ref n1, .ref n2, .ref n3, .ref n4, .ref n5, .ref n6, .ref n7, .int lo, .int mi, .int sd])), aI G n1 9 ht, aI G n2 8 wm, aI G n3 8 se, aI G n4 8 cd, aI G n5 8 sl, aI G n6 8 od, aI G n7 72 ow] sz (fun (r : Int32) (_ : Unit) => True) (fun (_ : Unit) => [(h0, .inr (7, [.ref e0, .ref t, .ref k, .ref n, .ref j, .ref i0, .int kp, .ref b0, .ref s0, .ref q, .ref g])), (t, .inr (6, [.int ns, .int np, .int fu, .int fd, .int fi, .ref t1, .ref t2, .ref t3, .ref t4, .ref t5, .ref t6])), aI G t1 9 sz_, aI G t2 9 pt, aI G t3 9 fh, aI G t4 8 kd, aI G t5 8 nd, aI G t6 8 fw, (n, .inr (1, [.ref n1, .ref n2, .ref n3, .ref n4, .ref n5, .ref n6, .ref n7, .int lo, .int mi, .int sd])), aI G n1 9 ht, aI G n2 8 wm, aI G n3 8 se, aI G n4 8 cd, aI G n5 8 sl, aI G n6 8 od, aI G n7 72 ow]) := by
  refine x_startI (cc := cX7_giftOf) (maxL := 3) (ret := (some .int)) (by decide) rfl (Nat.le_of_ble_eq_true rfl) ?_
  intro p e s m args below meth c A R Q ls hRf hRl hQ C hP hD hS hA hSS hl
  obtain ⟨hx, hb, hr, hml, hown, hts, hlocks, hKK⟩ := C
  have hown : s.vm.findClass RX7 = some m.cls := hown
  have hl : lv_has ls 3 [(0, .ref h0), (1, .int x), (2, .int v)] := hl
  have hinX1 : ∀ w ∈ u_ws RX1 TX1 10, w ∈ wsX7_giftOf := by decide +kernel
  have hinX6 : ∀ w ∈ u_ws RX6 TX6 11, w ∈ wsX7_giftOf := by decide +kernel
  have hinX7 : ∀ w ∈ u_ws RX7 TX7 11, w ∈ wsX7_giftOf := by decide +kernel
  have kl135 := hts (.fieldLink RX7 135 "WarmStones$Night" "warmth" "[I") (by decide +kernel)
  have kl160 := hts (.fieldLink RX7 160 "WarmStones$Town" "need" "[I") (by decide +kernel)
  have kl19 := hts (.fieldLink RX7 19 "WarmStones" "town" "LWarmStones$Town;") (by decide +kernel)
  have kl243 := hts (.methodLink RX7 243 Lib.Math.max.name) (by decide +kernel)
  have kl29 := hts (.fieldLink RX7 29 "WarmStones" "night" "LWarmStones$Night;") (by decide +kernel)
  have km_c_max := hts (.code Lib.Math.max.name Lib.Math.max.code 2 (some .int)) (by decide +kernel)
  have km_i := hts (.initialized "java/lang/Math") (by decide +kernel)
  have km_s_max := hts (.static Lib.Math.max.name) (by decide +kernel)
  refine lv_aload_n hx hb dX7_giftOf_0 rfl (lv_at hl 0 rfl) ?_
  refine va_get (D := G.1) (ci := 7) (v := .ref t) (C := RX7) (T := TX7) (N := 11) hx hb hts hinX7 hown hKK.1 hP 0 rfl rfl 1 (by decide) kl19 (fun _ h9 => h9) rfl dX7_giftOf_1 ?_
  refine va_get (D := G.1) (ci := 6) (v := .ref t5) (C := RX6) (T := TX6) (N := 11) hx hb hts hinX6 hown hKK.1 hP 1 rfl rfl 9 (by decide) kl160 (fun _ h9 => h9) rfl dX7_giftOf_4 ?_
  refine lv_iload_n hx hb dX7_giftOf_7 rfl (lv_at hl 1 rfl) ?_
  obtain ⟨hin, hv⟩ := hv
  refine va_iald hx hb hKK.1 hP 6 0 rfl rfl hin dX7_giftOf_8 ?_
  refine lv_if_ne (tgt := 22) hx hb dX7_giftOf_9 (by decide) (fun hc_1 => ?_) (fun hc_1 => ?_)
  · have hv := hv.1 hc_1
    refine lv_iconst (v := 0) hx hb dX7_giftOf_22 (by decide) ?_
    refine lv_aload_n hx hb dX7_giftOf_23 rfl (lv_at hl 0 rfl) ?_
    refine va_get (D := G.1) (ci := 7) (v := .ref n) (C := RX7) (T := TX7) (N := 11) hx hb hts hinX7 hown hKK.1 hP 0 rfl rfl 3 (by decide) kl29 (fun _ h9 => h9) rfl dX7_giftOf_24 ?_
    refine va_get (D := G.1) (ci := 1) (v := .ref n2) (C := RX1) (T := TX1) (N := 10) hx hb hts hinX1 hown hKK.1 hP 8 rfl rfl 1 (by decide) kl135 (fun _ h9 => h9) rfl dX7_giftOf_27 ?_
    refine lv_iload_n hx hb dX7_giftOf_30 rfl (lv_at hl 1 rfl) ?_
    obtain ⟨hin, hv⟩ := hv
    refine va_iald hx hb hKK.1 hP 10 0 rfl rfl hin dX7_giftOf_31 ?_
    refine lv_aload_n hx hb dX7_giftOf_32 rfl (lv_at hl 0 rfl) ?_
    refine va_get (D := G.1) (ci := 7) (v := .ref t) (C := RX7) (T := TX7) (N := 11) hx hb hts hinX7 hown hKK.1 hP 0 rfl rfl 1 (by decide) kl19 (fun _ h9 => h9) rfl dX7_giftOf_33 ?_
    refine va_get (D := G.1) (ci := 6) (v := .ref t5) (C := RX6) (T := TX6) (N := 11) hx hb hts hinX6 hown hKK.1 hP 1 rfl rfl 9 (by decide) kl160 (fun _ h9 => h9) rfl dX7_giftOf_36 ?_
    refine lv_iload_n hx hb dX7_giftOf_39 rfl (lv_at hl 1 rfl) ?_
    obtain ⟨hin, hv⟩ := hv
    refine va_iald hx hb hKK.1 hP 6 0 rfl rfl hin dX7_giftOf_40 ?_
    refine lv_isub hx hb dX7_giftOf_41 ?_
    refine lv_iload_n hx hb dX7_giftOf_42 rfl (lv_at hl 2 rfl) ?_
    refine lv_aload_n hx hb dX7_giftOf_43 rfl (lv_at hl 0 rfl) ?_
    refine va_get (D := G.1) (ci := 7) (v := .ref t) (C := RX7) (T := TX7) (N := 11) hx hb hts hinX7 hown hKK.1 hP 0 rfl rfl 1 (by decide) kl19 (fun _ h9 => h9) rfl dX7_giftOf_44 ?_
    refine lv_iload_n hx hb dX7_giftOf_47 rfl (lv_at hl 1 rfl) ?_
    refine lv_iconst (v := 0) hx hb dX7_giftOf_48 (by decide) ?_
    obtain ⟨hp, hv⟩ := hv
    refine x_calliR (x_runV (As := [.int x, .int 0]) (rest := [.int v, .int ((wm x.toNatClampNeg) - (nd x.toNatClampNeg)), .int 0]) (n := 2) (C := RX6) (ci := 6) ⟨hx, hb, hml, hown, hts⟩ (k_X6_frostOn l G t t1 t2 t3 t4 t5 t6 _ ns np fu fd fi sz_ pt fh kd nd fw x 0 hp) gX7_giftOf_X6_frostOn rfl (by decide +kernel) ⟨Nat.le_trans (Nat.le_of_ble_eq_true rfl) hRf, Nat.le_trans (Nat.le_of_ble_eq_true rfl) hRl⟩ hKK hSS hS hA hP hD [1, 2, 3, 4, 5, 6, 7] (by decide) rfl rfl rfl 1 rfl rfl hl.1 rfl (Nat.le_of_ble_eq_true rfl) dX7_giftOf_49) hP hD hS hA [1, 2, 3, 4, 5, 6, 7] rfl (fun r_2 _ H locs hw hP hS => ?_)
    replace hw := hw.symm; subst hw
    refine lv_imul hx hb dX7_giftOf_52 ?_
    refine lv_isub hx hb dX7_giftOf_53 ?_
    refine va_mmax hx hb (hml.trans hl.1.symm) hown kl243 km_s_max km_i km_c_max (Nat.le_trans (Nat.le_of_ble_eq_true rfl) hRf) (Nat.le_trans (Nat.le_of_ble_eq_true rfl) hRl) (Nat.zero_le _) (Nat.zero_le _) dX7_giftOf_54 ?_
    exact x_iret (v := (if 0 < (((wm x.toNatClampNeg) - (nd x.toNatClampNeg)) - (v * (frostI (kd x.toNatClampNeg) fu fd 0))) then (((wm x.toNatClampNeg) - (nd x.toNatClampNeg)) - (v * (frostI (kd x.toNatClampNeg) fu fd 0))) else 0)) () hQ hx hb hr hlocks hS dX7_giftOf_57 hv hP hD
  · have hv := hv.2 hc_1
    refine lv_aload_n hx hb dX7_giftOf_12 rfl (lv_at hl 0 rfl) ?_
    refine va_get (D := G.1) (ci := 7) (v := .ref n) (C := RX7) (T := TX7) (N := 11) hx hb hts hinX7 hown hKK.1 hP 0 rfl rfl 3 (by decide) kl29 (fun _ h9 => h9) rfl dX7_giftOf_13 ?_
    refine va_get (D := G.1) (ci := 1) (v := .ref n2) (C := RX1) (T := TX1) (N := 10) hx hb hts hinX1 hown hKK.1 hP 8 rfl rfl 1 (by decide) kl135 (fun _ h9 => h9) rfl dX7_giftOf_16 ?_
    refine lv_iload_n hx hb dX7_giftOf_19 rfl (lv_at hl 1 rfl) ?_
    obtain ⟨hin, hv⟩ := hv
    refine va_iald hx hb hKK.1 hP 10 0 rfl rfl hin dX7_giftOf_20 ?_
    exact x_iret (v := (wm x.toNatClampNeg)) () hQ hx hb hr hlocks hS dX7_giftOf_21 hv hP hD
theorem k_X7_giftOf (l : Launch) (G : Gt) (h0 t t1 t2 t3 t4 t5 t6 n n1 n2 n3 n4 n5 n6 n7 : Nat) (sz : Nat) (e0 : Nat) (k : Nat) (j : Nat) (i0 : Nat) (b0 : Nat) (s0 : Nat) (q : Nat) (g : Nat) (kp : Int32) (ns : Int32) (np : Int32) (fu : Int32) (fd : Int32) (fi : Int32) (sz_ : Nat → Int32) (pt : Nat → Int32) (fh : Nat → Int32) (kd : Nat → Int32) (nd : Nat → Int32) (fw : Nat → Int32) (ht : Nat → Int32) (wm : Nat → Int32) (se : Nat → Int32) (cd : Nat → Int32) (sl : Nat → Int32) (od : Nat → Int32) (ow : Nat → Int32) (lo : Int32) (mi : Int32) (sd : Int32) (x : Int32) (v : Int32) (hp : True) : MetI l yX7_giftOf wsX7_giftOf 1 22 G [.ref h0, .int x, .int v] [(h0, .inr (7, [.ref e0, .ref t, .ref k, .ref n, .ref j, .ref i0, .int kp, .ref b0, .ref s0, .ref q, .ref g])), (t, .inr (6, [.int ns, .int np, .int fu, .int fd, .int fi, .ref t1, .ref t2, .ref t3, .ref t4, .ref t5, .ref t6])), aI G t1 9 sz_, aI G t2 9 pt, aI G t3 9 fh, aI G t4 8 kd, aI G t5 8 nd, aI G t6 8 fw, (n, .inr (1, [.ref n1, .ref n2, .ref n3, .ref n4, .ref n5, .ref n6, .ref n7, .int lo, .int mi, .int sd])), aI G n1 9 ht, aI G n2 8 wm, aI G n3 8 se, aI G n4 8 cd, aI G n5 8 sl, aI G n6 8 od, aI G n7 72 ow] sz (fun (r : Int32) (_ : Unit) => True) (fun (_ : Unit) => [(h0, .inr (7, [.ref e0, .ref t, .ref k, .ref n, .ref j, .ref i0, .int kp, .ref b0, .ref s0, .ref q, .ref g])), (t, .inr (6, [.int ns, .int np, .int fu, .int fd, .int fi, .ref t1, .ref t2, .ref t3, .ref t4, .ref t5, .ref t6])), aI G t1 9 sz_, aI G t2 9 pt, aI G t3 9 fh, aI G t4 8 kd, aI G t5 8 nd, aI G t6 8 fw, (n, .inr (1, [.ref n1, .ref n2, .ref n3, .ref n4, .ref n5, .ref n6, .ref n7, .int lo, .int mi, .int sd])), aI G n1 9 ht, aI G n2 8 wm, aI G n3 8 se, aI G n4 8 cd, aI G n5 8 sl, aI G n6 8 od, aI G n7 72 ow]) :=
  c_X7_giftOf l G h0 t t1 t2 t3 t4 t5 t6 n n1 n2 n3 n4 n5 n6 n7 sz e0 k j i0 b0 s0 q g kp ns np fu fd fi sz_ pt fh kd nd fw ht wm se cd sl od ow lo mi sd x v (by
    sorry)

set_option maxHeartbeats 4000000 in
set_option maxRecDepth 100000 in
theorem c_X7_gift (l : Launch) (G : Gt) (h0 t t1 t2 t3 t4 t5 t6 n n1 n2 n3 n4 n5 n6 n7 : Nat) (sz : Nat) (e0 : Nat) (k : Nat) (j : Nat) (i0 : Nat) (b0 : Nat) (s0 : Nat) (q : Nat) (g : Nat) (kp : Int32) (ns : Int32) (np : Int32) (fu : Int32) (fd : Int32) (fi : Int32) (sz_ : Nat → Int32) (pt : Nat → Int32) (fh : Nat → Int32) (kd : Nat → Int32) (nd : Nat → Int32) (fw : Nat → Int32) (ht : Nat → Int32) (wm : Nat → Int32) (se : Nat → Int32) (cd : Nat → Int32) (sl : Nat → Int32) (od : Nat → Int32) (ow : Nat → Int32) (lo : Int32) (mi : Int32) (sd : Int32) (x : Int32) (v : Int32) (hv : (¬ x < 0 ∧ ¬ np ≤ x → (¬ v < 0 ∧ ¬ 99 < v → ∃ (I32_7 : Int32 → Int32 → Prop) (μ32_8 : Int32 → Int32 → Nat), I32_7 0 0 ∧ (∀ (x3_5 : Int32) (x4_6 : Int32), I32_7 x3_5 x4_6 → (np ≤ x4_6 → True) ∧ (¬ (np ≤ x4_6) → (x4_6 = x → I32_7 x3_5 (x4_6 + 1) ∧ μ32_8 x3_5 (x4_6 + 1) < μ32_8 x3_5 x4_6) ∧ (¬ (x4_6 = x) → (True) ∧ (∀ (r_13 : Int32), (True) → (I32_7 (x3_5 + r_13) (x4_6 + 1) ∧ μ32_8 (x3_5 + r_13) (x4_6 + 1) < μ32_8 x3_5 x4_6)))))) ∧ (¬ (¬ v < 0 ∧ ¬ 99 < v) → True)) ∧ (¬ (¬ x < 0 ∧ ¬ np ≤ x) → True)) : MetI l yX7_gift wsX7_gift 2 44 G [.ref h0, .int x, .int v] [(h0, .inr (7, [.ref e0, .ref t, .ref k, .ref n, .ref j, .ref i0, .int kp, .ref b0, .ref s0, .ref q, .ref g])), (t, .inr (6, [.int ns, .int np, .int fu, .int fd, .int fi, .ref t1, .ref t2, .ref t3, .ref t4, .ref t5, .ref t6])), aI G t1 9 sz_, aI G t2 9 pt, aI G t3 9 fh, aI G t4 8 kd, aI G t5 8 nd, aI G t6 8 fw, (n, .inr (1, [.ref n1, .ref n2, .ref n3, .ref n4, .ref n5, .ref n6, .ref n7, .int lo, .int mi, .int sd])), aI G n1 9 ht, aI G n2 8 wm, aI G n3 8 se, aI G n4 8 cd, aI G n5 8 sl, aI G n6 8 od, aI G n7 72 ow] sz (fun (r : Int32) (_ : Unit) => True) (fun (_ : Unit) => [(h0, .inr (7, [.ref e0, .ref t, .ref k, .ref n, .ref j, .ref i0, .int kp, .ref b0, .ref s0, .ref q, .ref g])), (t, .inr (6, [.int ns, .int np, .int fu, .int fd, .int fi, .ref t1, .ref t2, .ref t3, .ref t4, .ref t5, .ref t6])), aI G t1 9 sz_, aI G t2 9 pt, aI G t3 9 fh, aI G t4 8 kd, aI G t5 8 nd, aI G t6 8 fw, (n, .inr (1, [.ref n1, .ref n2, .ref n3, .ref n4, .ref n5, .ref n6, .ref n7, .int lo, .int mi, .int sd])), aI G n1 9 ht, aI G n2 8 wm, aI G n3 8 se, aI G n4 8 cd, aI G n5 8 sl, aI G n6 8 od, aI G n7 72 ow]) := by
  refine x_startI (cc := cX7_gift) (maxL := 5) (ret := (some .int)) (by decide) rfl (Nat.le_of_ble_eq_true rfl) ?_
  intro p e s m args below meth c A R Q ls hRf hRl hQ C hP hD hS hA hSS hl
  obtain ⟨hx, hb, hr, hml, hown, hts, hlocks, hKK⟩ := C
  have hown : s.vm.findClass RX7 = some m.cls := hown
  have hl : lv_has ls 5 [(0, .ref h0), (1, .int x), (2, .int v)] := hl
  have hinX6 : ∀ w ∈ u_ws RX6 TX6 11, w ∈ wsX7_gift := by decide +kernel
  have hinX7 : ∀ w ∈ u_ws RX7 TX7 11, w ∈ wsX7_gift := by decide +kernel
  have kl106 := hts (.fieldLink RX7 106 "WarmStones$Town" "persons" "I") (by decide +kernel)
  have kl143 := hts (.constant RX7 143 (-1000000001)) (by decide +kernel)
  have kl19 := hts (.fieldLink RX7 19 "WarmStones" "town" "LWarmStones$Town;") (by decide +kernel)
  have kl72 := hts (.constant RX7 72 (-1000000002)) (by decide +kernel)
  refine lv_aload_n hx hb dX7_gift_0 rfl (lv_at hl 0 rfl) ?_
  refine va_get (D := G.1) (ci := 7) (v := .ref t) (C := RX7) (T := TX7) (N := 11) hx hb hts hinX7 hown hKK.1 hP 0 rfl rfl 1 (by decide) kl19 (fun _ h9 => h9) rfl dX7_gift_1 ?_
  refine lv_iload_n hx hb dX7_gift_4 rfl (lv_at hl 1 rfl) ?_
  refine x_calliR (x_runV (As := [.int x]) (rest := []) (n := 1) (C := RX6) (ci := 6) ⟨hx, hb, hml, hown, hts⟩ (k_X6_hasPerson l G t t1 t2 t3 t4 t5 t6 _ ns np fu fd fi sz_ pt fh kd nd fw x) gX7_gift_X6_hasPerson rfl (by decide +kernel) ⟨Nat.le_trans (Nat.le_of_ble_eq_true rfl) hRf, Nat.le_trans (Nat.le_of_ble_eq_true rfl) hRl⟩ hKK hSS hS hA hP hD [1, 2, 3, 4, 5, 6, 7] (by decide) rfl rfl rfl 1 rfl rfl hl.1 rfl (Nat.le_of_ble_eq_true rfl) dX7_gift_5) hP hD hS hA [1, 2, 3, 4, 5, 6, 7] rfl (fun r_1 _ H locs hw hP hS => ?_)
  replace hw := hw.symm; subst hw
  refine lv_if_ne (tgt := 14) hx hb dX7_gift_8 (by decide) (fun hc_2 => ?_) (fun hc_2 => ?_)
  · have hv := hv.1 (tv_eqn.mp hc_2)
    refine lv_iload_n hx hb dX7_gift_14 rfl (lv_at hl 2 rfl) ?_
    refine lv_iconst (v := 0) hx hb dX7_gift_15 (by decide) ?_
    refine lv_bipush (v := 99) hx hb dX7_gift_16 (by decide) ?_
    refine x_calliR (x_runS (As := [.int v, .int 0, .int 99]) (rest := []) (n := 3) ⟨hx, hb, hml, hown, hts⟩ (k_X7_within l G  _ v 0 99) gX7_gift_X7_within rfl (by decide +kernel) ⟨Nat.le_trans (Nat.le_of_ble_eq_true rfl) hRf, Nat.le_trans (Nat.le_of_ble_eq_true rfl) hRl⟩ hKK hSS hS hA hP hD [] (by decide) rfl rfl hl.1 rfl (Nat.le_of_ble_eq_true rfl) dX7_gift_18) hP hD hS hA [] rfl (fun r_3 _ H locs hw hP hS => ?_)
    replace hw := hw.symm; subst hw
    refine lv_if_ne (tgt := 27) hx hb dX7_gift_21 (by decide) (fun hc_4 => ?_) (fun hc_4 => ?_)
    · have hv := hv.1 (tv_eqn.mp hc_4)
      refine lv_iconst (v := 0) hx hb dX7_gift_27 (by decide) ?_
      refine lv_istore_n (lv' := [(3, .int 0), (0, .ref h0), (1, .int x), (2, .int v)]) hx hb dX7_gift_28 rfl hl (by decide) rfl (fun ls hl => ?_)
      refine lv_iconst (v := 0) hx hb dX7_gift_29 (by decide) ?_
      refine lv_istore (lv' := [(4, .int 0), (3, .int 0), (0, .ref h0), (1, .int x), (2, .int v)]) hx hb dX7_gift_30 hl (by decide) rfl (fun ls hl => ?_)
      obtain ⟨I32_7, μ32_8, hi0, hs_14⟩ := hv
      have Lm_16 : ∀ (n_15 : Nat) (x3_5 : Int32) (x4_6 : Int32) (H : Heap) (locs : List Loc) (ls : Array Slot), μ32_8 x3_5 x4_6 < n_15 → I32_7 x3_5 x4_6 → va_P G.1 vwCl [(h0, .inr (7, [.ref e0, .ref t, .ref k, .ref n, .ref j, .ref i0, .int kp, .ref b0, .ref s0, .ref q, .ref g])), (t, .inr (6, [.int ns, .int np, .int fu, .int fd, .int fi, .ref t1, .ref t2, .ref t3, .ref t4, .ref t5, .ref t6])), aI G t1 9 sz_, aI G t2 9 pt, aI G t3 9 fh, aI G t4 8 kd, aI G t5 8 nd, aI G t6 8 fw, (n, .inr (1, [.ref n1, .ref n2, .ref n3, .ref n4, .ref n5, .ref n6, .ref n7, .int lo, .int mi, .int sd])), aI G n1 9 ht, aI G n2 8 wm, aI G n3 8 se, aI G n4 8 cd, aI G n5 8 sl, aI G n6 8 od, aI G n7 72 ow] H → va_D A [(h0, .inr (7, [.ref e0, .ref t, .ref k, .ref n, .ref j, .ref i0, .int kp, .ref b0, .ref s0, .ref q, .ref g])), (t, .inr (6, [.int ns, .int np, .int fu, .int fd, .int fi, .ref t1, .ref t2, .ref t3, .ref t4, .ref t5, .ref t6])), aI G t1 9 sz_, aI G t2 9 pt, aI G t3 9 fh, aI G t4 8 kd, aI G t5 8 nd, aI G t6 8 fw, (n, .inr (1, [.ref n1, .ref n2, .ref n3, .ref n4, .ref n5, .ref n6, .ref n7, .int lo, .int mi, .int sd])), aI G n1 9 ht, aI G n2 8 wm, aI G n3 8 se, aI G n4 8 cd, aI G n5 8 sl, aI G n6 8 od, aI G n7 72 ow] → va_S A s.heap H locs → lv_has ls 5 [(4, .int x4_6), (3, .int x3_5), (0, .ref h0), (1, .int x), (2, .int v)] → W p l e R s m args below meth c H locs 0 0 Q (F0 m 32 ls []) := by
        intro n_15
        induction n_15 with
        | zero => intro x3_5 x4_6 H locs ls hm; exact absurd hm (Nat.not_lt_zero _)
        | succ n_15 ih_9 =>
          intro x3_5 x4_6 H locs ls hI_10 hi hP hD hS hl
          have hv := hs_14 x3_5 x4_6 hi
          refine lv_iload hx hb dX7_gift_32 (lv_at hl 0 rfl) ?_
          refine lv_aload_n hx hb dX7_gift_34 rfl (lv_at hl 2 rfl) ?_
          refine va_get (D := G.1) (ci := 7) (v := .ref t) (C := RX7) (T := TX7) (N := 11) hx hb hts hinX7 hown hKK.1 hP 0 rfl rfl 1 (by decide) kl19 (fun _ h9 => h9) rfl dX7_gift_35 ?_
          refine va_get (D := G.1) (ci := 6) (v := .int np) (C := RX6) (T := TX6) (N := 11) hx hb hts hinX6 hown hKK.1 hP 1 rfl rfl 1 (by decide) kl106 (fun _ h9 => h9) rfl dX7_gift_38 ?_
          refine lv_icmp_ge (tgt := 66) hx hb dX7_gift_41 (by decide) (fun hc_11 => ?_) (fun hc_11 => ?_)
          · have hv := hv.1 hc_11
            refine lv_iload_n hx hb dX7_gift_66 rfl (lv_at hl 1 rfl) ?_
            exact x_iret (v := x3_5) () hQ hx hb hr hlocks hS dX7_gift_67 hv hP hD
          · have hv := hv.2 hc_11
            refine lv_iload hx hb dX7_gift_44 (lv_at hl 0 rfl) ?_
            refine lv_iload_n hx hb dX7_gift_46 rfl (lv_at hl 3 rfl) ?_
            refine lv_icmp_eq (tgt := 60) hx hb dX7_gift_47 (by decide) (fun hc_12 => ?_) (fun hc_12 => ?_)
            · have hv := hv.1 hc_12
              refine lv_iinc (v := (x4_6 + 1)) (lv' := [(4, .int (x4_6 + 1)), (3, .int x3_5), (0, .ref h0), (1, .int x), (2, .int v)]) hx hb dX7_gift_60 hl (k := 0) rfl rfl (by decide) rfl (fun ls hl => ?_)
              refine lv_goto (tgt := 32) hx hb dX7_gift_63 (by decide) ?_
              exact ih_9 _ _ _ _ _ (Nat.lt_of_lt_of_le hv.2 (Nat.le_of_lt_succ hI_10)) hv.1 hP hD hS hl
            · have hv := hv.2 hc_12
              refine lv_iload_n hx hb dX7_gift_50 rfl (lv_at hl 1 rfl) ?_
              refine lv_aload_n hx hb dX7_gift_51 rfl (lv_at hl 2 rfl) ?_
              refine lv_iload hx hb dX7_gift_52 (lv_at hl 0 rfl) ?_
              refine lv_iload_n hx hb dX7_gift_54 rfl (lv_at hl 4 rfl) ?_
              obtain ⟨hp, hv⟩ := hv
              refine x_calliR (x_runV (As := [.int x4_6, .int v]) (rest := [.int x3_5]) (n := 2) (C := RX7) (ci := 7) ⟨hx, hb, hml, hown, hts⟩ (k_X7_giftOf l G h0 t t1 t2 t3 t4 t5 t6 n n1 n2 n3 n4 n5 n6 n7 _ e0 k j i0 b0 s0 q g kp ns np fu fd fi sz_ pt fh kd nd fw ht wm se cd sl od ow lo mi sd x4_6 v hp) gX7_gift_X7_giftOf rfl (by decide +kernel) ⟨Nat.le_trans (Nat.le_of_ble_eq_true rfl) hRf, Nat.le_trans (Nat.le_of_ble_eq_true rfl) hRl⟩ hKK hSS hS hA hP hD [0, 1, 2, 3, 4, 5, 6, 7, 8, 9, 10, 11, 12, 13, 14, 15] (by decide) rfl rfl rfl 0 rfl rfl hl.1 rfl (Nat.le_of_ble_eq_true rfl) dX7_gift_55) hP hD hS hA [0, 1, 2, 3, 4, 5, 6, 7, 8, 9, 10, 11, 12, 13, 14, 15] rfl (fun r_13 _ H locs hw hP hS => ?_)
              have hv := hv r_13 hw
              refine lv_iadd hx hb dX7_gift_58 ?_
              refine lv_istore_n (lv' := [(3, .int (x3_5 + r_13)), (4, .int x4_6), (0, .ref h0), (1, .int x), (2, .int v)]) hx hb dX7_gift_59 rfl hl (by decide) rfl (fun ls hl => ?_)
              refine lv_iinc (v := (x4_6 + 1)) (lv' := [(4, .int (x4_6 + 1)), (3, .int (x3_5 + r_13)), (0, .ref h0), (1, .int x), (2, .int v)]) hx hb dX7_gift_60 hl (k := 1) rfl rfl (by decide) rfl (fun ls hl => ?_)
              refine lv_goto (tgt := 32) hx hb dX7_gift_63 (by decide) ?_
              exact ih_9 _ _ _ _ _ (Nat.lt_of_lt_of_le hv.2 (Nat.le_of_lt_succ hI_10)) hv.1 hP hD hS hl
      exact Lm_16 _ _ _ _ _ _ (Nat.lt_succ_self _) hi0 hP hD hS hl
    · have hv := hv.2 (tv_eq.mp hc_4)
      refine lv_ldc (v := (-1000000002)) hx hb hown kl72 dX7_gift_24 ?_
      exact x_iret (v := (-1000000002)) () hQ hx hb hr hlocks hS dX7_gift_26 hv hP hD
  · have hv := hv.2 (tv_eq.mp hc_2)
    refine lv_ldc (v := (-1000000001)) hx hb hown kl143 dX7_gift_11 ?_
    exact x_iret (v := (-1000000001)) () hQ hx hb hr hlocks hS dX7_gift_13 hv hP hD
theorem k_X7_gift (l : Launch) (G : Gt) (h0 t t1 t2 t3 t4 t5 t6 n n1 n2 n3 n4 n5 n6 n7 : Nat) (sz : Nat) (e0 : Nat) (k : Nat) (j : Nat) (i0 : Nat) (b0 : Nat) (s0 : Nat) (q : Nat) (g : Nat) (kp : Int32) (ns : Int32) (np : Int32) (fu : Int32) (fd : Int32) (fi : Int32) (sz_ : Nat → Int32) (pt : Nat → Int32) (fh : Nat → Int32) (kd : Nat → Int32) (nd : Nat → Int32) (fw : Nat → Int32) (ht : Nat → Int32) (wm : Nat → Int32) (se : Nat → Int32) (cd : Nat → Int32) (sl : Nat → Int32) (od : Nat → Int32) (ow : Nat → Int32) (lo : Int32) (mi : Int32) (sd : Int32) (x : Int32) (v : Int32) (hp : True) : MetI l yX7_gift wsX7_gift 2 44 G [.ref h0, .int x, .int v] [(h0, .inr (7, [.ref e0, .ref t, .ref k, .ref n, .ref j, .ref i0, .int kp, .ref b0, .ref s0, .ref q, .ref g])), (t, .inr (6, [.int ns, .int np, .int fu, .int fd, .int fi, .ref t1, .ref t2, .ref t3, .ref t4, .ref t5, .ref t6])), aI G t1 9 sz_, aI G t2 9 pt, aI G t3 9 fh, aI G t4 8 kd, aI G t5 8 nd, aI G t6 8 fw, (n, .inr (1, [.ref n1, .ref n2, .ref n3, .ref n4, .ref n5, .ref n6, .ref n7, .int lo, .int mi, .int sd])), aI G n1 9 ht, aI G n2 8 wm, aI G n3 8 se, aI G n4 8 cd, aI G n5 8 sl, aI G n6 8 od, aI G n7 72 ow] sz (fun (r : Int32) (_ : Unit) => True) (fun (_ : Unit) => [(h0, .inr (7, [.ref e0, .ref t, .ref k, .ref n, .ref j, .ref i0, .int kp, .ref b0, .ref s0, .ref q, .ref g])), (t, .inr (6, [.int ns, .int np, .int fu, .int fd, .int fi, .ref t1, .ref t2, .ref t3, .ref t4, .ref t5, .ref t6])), aI G t1 9 sz_, aI G t2 9 pt, aI G t3 9 fh, aI G t4 8 kd, aI G t5 8 nd, aI G t6 8 fw, (n, .inr (1, [.ref n1, .ref n2, .ref n3, .ref n4, .ref n5, .ref n6, .ref n7, .int lo, .int mi, .int sd])), aI G n1 9 ht, aI G n2 8 wm, aI G n3 8 se, aI G n4 8 cd, aI G n5 8 sl, aI G n6 8 od, aI G n7 72 ow]) :=
  c_X7_gift l G h0 t t1 t2 t3 t4 t5 t6 n n1 n2 n3 n4 n5 n6 n7 sz e0 k j i0 b0 s0 q g kp ns np fu fd fi sz_ pt fh kd nd fw ht wm se cd sl od ow lo mi sd x v (by
    sorry)

set_option maxHeartbeats 4000000 in
set_option maxRecDepth 100000 in
theorem c_X7_palms (l : Launch) (G : Gt) (h0 t t1 t2 t3 t4 t5 t6 n n1 n2 n3 n4 n5 n6 n7 s0 : Nat) (sz : Nat) (e0 : Nat) (k : Nat) (j : Nat) (i0 : Nat) (b0 : Nat) (q : Nat) (g : Nat) (kp : Int32) (ns : Int32) (np : Int32) (fu : Int32) (fd : Int32) (fi : Int32) (sz_ : Nat → Int32) (pt : Nat → Int32) (fh : Nat → Int32) (kd : Nat → Int32) (nd : Nat → Int32) (fw : Nat → Int32) (ht : Nat → Int32) (wm : Nat → Int32) (se : Nat → Int32) (cd : Nat → Int32) (sl : Nat → Int32) (od : Nat → Int32) (ow : Nat → Int32) (lo : Int32) (mi : Int32) (sd : Int32) (sw : Int32) (sh : Int32) (x : Int32) (v : Int32) (w0 : Int32) (w1 : Int32) (w2 : Int32) (hv : (¬ x < 0 ∧ ¬ ns ≤ x → (¬ (¬ v < 1 ∧ ¬ 60 < v) → True) ∧ (¬ v < 1 ∧ ¬ 60 < v → (¬ (¬ w0 < 0 ∧ ¬ 9999 < w0) → True) ∧ (¬ w0 < 0 ∧ ¬ 9999 < w0 → (¬ w1 < 0 ∧ ¬ 9999 < w1 → ∃ (I56_13 : Int32 → Int32 → Int32 → Int32 → Prop) (μ56_14 : Int32 → Int32 → Int32 → Int32 → Nat), I56_13 sw sh 0 0 ∧ (∀ (gs00_9 : Int32) (gs01_10 : Int32) (x6_11 : Int32) (x7_12 : Int32), I56_13 gs00_9 gs01_10 x6_11 x7_12 → (np ≤ x7_12 → (¬ w2 = (-1) → True) ∧ (w2 = (-1) → True)) ∧ (¬ (np ≤ x7_12) → (vp_in x7_12 8) ∧ ((vp_in x 9) ∧ (∃ (I97_26 : Int32 → Int32 → Int32 → Int32 → Prop) (μ97_27 : Int32 → Int32 → Int32 → Int32 → Nat), I97_26 (wm x7_12.toNatClampNeg) (ht x.toNatClampNeg) x6_11 1 ∧ (∀ (gs00_22 : Int32) (gs01_23 : Int32) (x6_24 : Int32) (x8_25 : Int32), I97_26 gs00_22 gs01_23 x6_24 x8_25 → (v < x8_25 → I56_13 gs00_22 gs01_23 x6_24 (x7_12 + 1) ∧ μ56_14 gs00_22 gs01_23 x6_24 (x7_12 + 1) < μ56_14 gs00_9 gs01_10 x6_11 x7_12) ∧ (¬ (v < x8_25) → (vp_in x7_12 8 ∧ (¬ x < 0 → ¬ ns ≤ x → vp_in x 9)) ∧ ((vp_in x 9) ∧ ((w1 < (if 0 ≤ ((sitH ns (kd x7_12.toNatClampNeg) (sz_ x.toNatClampNeg) x gs00_22 gs01_23) - w0) then ((sitH ns (kd x7_12.toNatClampNeg) (sz_ x.toNatClampNeg) x gs00_22 gs01_23) - w0) else 0 - ((sitH ns (kd x7_12.toNatClampNeg) (sz_ x.toNatClampNeg) x gs00_22 gs01_23) - w0)) → I97_26 (sitW ns fu fd (kd x7_12.toNatClampNeg) (sz_ x.toNatClampNeg) x gs00_22 gs01_23) (sitH ns (kd x7_12.toNatClampNeg) (sz_ x.toNatClampNeg) x gs00_22 gs01_23) x6_24 (x8_25 + 1) ∧ μ97_27 (sitW ns fu fd (kd x7_12.toNatClampNeg) (sz_ x.toNatClampNeg) x gs00_22 gs01_23) (sitH ns (kd x7_12.toNatClampNeg) (sz_ x.toNatClampNeg) x gs00_22 gs01_23) x6_24 (x8_25 + 1) < μ97_27 gs00_22 gs01_23 x6_24 x8_25) ∧ (¬ (w1 < (if 0 ≤ ((sitH ns (kd x7_12.toNatClampNeg) (sz_ x.toNatClampNeg) x gs00_22 gs01_23) - w0) then ((sitH ns (kd x7_12.toNatClampNeg) (sz_ x.toNatClampNeg) x gs00_22 gs01_23) - w0) else 0 - ((sitH ns (kd x7_12.toNatClampNeg) (sz_ x.toNatClampNeg) x gs00_22 gs01_23) - w0))) → (¬ x6_24 = w2 → I97_26 (sitW ns fu fd (kd x7_12.toNatClampNeg) (sz_ x.toNatClampNeg) x gs00_22 gs01_23) (sitH ns (kd x7_12.toNatClampNeg) (sz_ x.toNatClampNeg) x gs00_22 gs01_23) (x6_24 + 1) (x8_25 + 1) ∧ μ97_27 (sitW ns fu fd (kd x7_12.toNatClampNeg) (sz_ x.toNatClampNeg) x gs00_22 gs01_23) (sitH ns (kd x7_12.toNatClampNeg) (sz_ x.toNatClampNeg) x gs00_22 gs01_23) (x6_24 + 1) (x8_25 + 1) < μ97_27 gs00_22 gs01_23 x6_24 x8_25) ∧ (x6_24 = w2 → True))))))))))) ∧ (¬ (¬ w1 < 0 ∧ ¬ 9999 < w1) → True)))) ∧ (¬ (¬ x < 0 ∧ ¬ ns ≤ x) → True)) : MetI l yX7_palms wsX7_palms 3 70 G [.ref h0, .int x, .int v, .int w0, .int w1, .int w2] [(h0, .inr (7, [.ref e0, .ref t, .ref k, .ref n, .ref j, .ref i0, .int kp, .ref b0, .ref s0, .ref q, .ref g])), (t, .inr (6, [.int ns, .int np, .int fu, .int fd, .int fi, .ref t1, .ref t2, .ref t3, .ref t4, .ref t5, .ref t6])), aI G t1 9 sz_, aI G t2 9 pt, aI G t3 9 fh, aI G t4 8 kd, aI G t5 8 nd, aI G t6 8 fw, (n, .inr (1, [.ref n1, .ref n2, .ref n3, .ref n4, .ref n5, .ref n6, .ref n7, .int lo, .int mi, .int sd])), aI G n1 9 ht, aI G n2 8 wm, aI G n3 8 se, aI G n4 8 cd, aI G n5 8 sl, aI G n6 8 od, aI G n7 72 ow, (s0, .inr (4, [.int sw, .int sh]))] sz (fun (r : Int32) (u : (Int32) × (Int32)) => True) (fun (u : (Int32) × (Int32)) => [(h0, .inr (7, [.ref e0, .ref t, .ref k, .ref n, .ref j, .ref i0, .int kp, .ref b0, .ref s0, .ref q, .ref g])), (t, .inr (6, [.int ns, .int np, .int fu, .int fd, .int fi, .ref t1, .ref t2, .ref t3, .ref t4, .ref t5, .ref t6])), aI G t1 9 sz_, aI G t2 9 pt, aI G t3 9 fh, aI G t4 8 kd, aI G t5 8 nd, aI G t6 8 fw, (n, .inr (1, [.ref n1, .ref n2, .ref n3, .ref n4, .ref n5, .ref n6, .ref n7, .int lo, .int mi, .int sd])), aI G n1 9 ht, aI G n2 8 wm, aI G n3 8 se, aI G n4 8 cd, aI G n5 8 sl, aI G n6 8 od, aI G n7 72 ow, (s0, .inr (4, [.int u.1, .int u.2]))]) := by
  refine x_startI (cc := cX7_palms) (maxL := 10) (ret := (some .int)) (by decide) rfl (Nat.le_of_ble_eq_true rfl) ?_
  intro p e s m args below meth c A R Q ls hRf hRl hQ C hP hD hS hA hSS hl
  obtain ⟨hx, hb, hr, hml, hown, hts, hlocks, hKK⟩ := C
  have hown : s.vm.findClass RX7 = some m.cls := hown
  have hl : lv_has ls 10 [(0, .ref h0), (1, .int x), (2, .int v), (3, .int w0), (4, .int w1), (5, .int w2)] := hl
  have hinX1 : ∀ w ∈ u_ws RX1 TX1 10, w ∈ wsX7_palms := by decide +kernel
  have hinX4 : ∀ w ∈ u_ws RX4 TX4 2, w ∈ wsX7_palms := by decide +kernel
  have hinX6 : ∀ w ∈ u_ws RX6 TX6 11, w ∈ wsX7_palms := by decide +kernel
  have hinX7 : ∀ w ∈ u_ws RX7 TX7 11, w ∈ wsX7_palms := by decide +kernel
  have kl106 := hts (.fieldLink RX7 106 "WarmStones$Town" "persons" "I") (by decide +kernel)
  have kl132 := hts (.fieldLink RX7 132 "WarmStones$Night" "heat" "[I") (by decide +kernel)
  have kl135 := hts (.fieldLink RX7 135 "WarmStones$Night" "warmth" "[I") (by decide +kernel)
  have kl143 := hts (.constant RX7 143 (-1000000001)) (by decide +kernel)
  have kl19 := hts (.fieldLink RX7 19 "WarmStones" "town" "LWarmStones$Town;") (by decide +kernel)
  have kl217 := hts (.fieldLink RX7 217 "WarmStones$Sitting" "heat" "I") (by decide +kernel)
  have kl223 := hts (.methodLink RX7 223 Lib.Math.abs.name) (by decide +kernel)
  have kl29 := hts (.fieldLink RX7 29 "WarmStones" "night" "LWarmStones$Night;") (by decide +kernel)
  have kl50 := hts (.fieldLink RX7 50 "WarmStones" "sitting" "LWarmStones$Sitting;") (by decide +kernel)
  have kl72 := hts (.constant RX7 72 (-1000000002)) (by decide +kernel)
  have km_c_abs := hts (.code Lib.Math.abs.name Lib.Math.abs.code 1 (some .int)) (by decide +kernel)
  have km_i := hts (.initialized "java/lang/Math") (by decide +kernel)
  have km_s_abs := hts (.static Lib.Math.abs.name) (by decide +kernel)
  refine lv_aload_n hx hb dX7_palms_0 rfl (lv_at hl 0 rfl) ?_
  refine va_get (D := G.1) (ci := 7) (v := .ref t) (C := RX7) (T := TX7) (N := 11) hx hb hts hinX7 hown hKK.1 hP 0 rfl rfl 1 (by decide) kl19 (fun _ h9 => h9) rfl dX7_palms_1 ?_
  refine lv_iload_n hx hb dX7_palms_4 rfl (lv_at hl 1 rfl) ?_
  refine x_calliR (x_runV (As := [.int x]) (rest := []) (n := 1) (C := RX6) (ci := 6) ⟨hx, hb, hml, hown, hts⟩ (k_X6_hasStone l G t t1 t2 t3 t4 t5 t6 _ ns np fu fd fi sz_ pt fh kd nd fw x) gX7_palms_X6_hasStone rfl (by decide +kernel) ⟨Nat.le_trans (Nat.le_of_ble_eq_true rfl) hRf, Nat.le_trans (Nat.le_of_ble_eq_true rfl) hRl⟩ hKK hSS hS hA hP hD [1, 2, 3, 4, 5, 6, 7] (by decide) rfl rfl rfl 1 rfl rfl hl.1 rfl (Nat.le_of_ble_eq_true rfl) dX7_palms_5) hP hD hS hA [1, 2, 3, 4, 5, 6, 7] rfl (fun r_1 _ H locs hw hP hS => ?_)
  replace hw := hw.symm; subst hw
  refine lv_if_ne (tgt := 14) hx hb dX7_palms_8 (by decide) (fun hc_2 => ?_) (fun hc_2 => ?_)
  · have hv := hv.1 (tv_eqn.mp hc_2)
    refine lv_iload_n hx hb dX7_palms_14 rfl (lv_at hl 2 rfl) ?_
    refine lv_iconst (v := 1) hx hb dX7_palms_15 (by decide) ?_
    refine lv_bipush (v := 60) hx hb dX7_palms_16 (by decide) ?_
    refine x_calliR (x_runS (As := [.int v, .int 1, .int 60]) (rest := []) (n := 3) ⟨hx, hb, hml, hown, hts⟩ (k_X7_within l G  _ v 1 60) gX7_palms_X7_within rfl (by decide +kernel) ⟨Nat.le_trans (Nat.le_of_ble_eq_true rfl) hRf, Nat.le_trans (Nat.le_of_ble_eq_true rfl) hRl⟩ hKK hSS hS hA hP hD [] (by decide) rfl rfl hl.1 rfl (Nat.le_of_ble_eq_true rfl) dX7_palms_18) hP hD hS hA [] rfl (fun r_3 _ H locs hw hP hS => ?_)
    replace hw := hw.symm; subst hw
    refine lv_if_eq (tgt := 47) hx hb dX7_palms_21 (by decide) (fun hc_4 => ?_) (fun hc_4 => ?_)
    · have hv := hv.1 (tv_eq.mp hc_4)
      refine lv_ldc (v := (-1000000002)) hx hb hown kl72 dX7_palms_47 ?_
      exact x_iret (v := (-1000000002)) (sw, sh) hQ hx hb hr hlocks hS dX7_palms_49 hv hP hD
    · have hv := hv.2 (tv_eqn.mp hc_4)
      refine lv_iload_n hx hb dX7_palms_24 rfl (lv_at hl 3 rfl) ?_
      refine lv_iconst (v := 0) hx hb dX7_palms_25 (by decide) ?_
      refine lv_sipush (v := 9999) hx hb dX7_palms_26 (by decide) ?_
      refine x_calliR (x_runS (As := [.int w0, .int 0, .int 9999]) (rest := []) (n := 3) ⟨hx, hb, hml, hown, hts⟩ (k_X7_within l G  _ w0 0 9999) gX7_palms_X7_within rfl (by decide +kernel) ⟨Nat.le_trans (Nat.le_of_ble_eq_true rfl) hRf, Nat.le_trans (Nat.le_of_ble_eq_true rfl) hRl⟩ hKK hSS hS hA hP hD [] (by decide) rfl rfl hl.1 rfl (Nat.le_of_ble_eq_true rfl) dX7_palms_29) hP hD hS hA [] rfl (fun r_5 _ H locs hw hP hS => ?_)
      replace hw := hw.symm; subst hw
      refine lv_if_eq (tgt := 47) hx hb dX7_palms_32 (by decide) (fun hc_6 => ?_) (fun hc_6 => ?_)
      · have hv := hv.1 (tv_eq.mp hc_6)
        refine lv_ldc (v := (-1000000002)) hx hb hown kl72 dX7_palms_47 ?_
        exact x_iret (v := (-1000000002)) (sw, sh) hQ hx hb hr hlocks hS dX7_palms_49 hv hP hD
      · have hv := hv.2 (tv_eqn.mp hc_6)
        refine lv_iload hx hb dX7_palms_35 (lv_at hl 4 rfl) ?_
        refine lv_iconst (v := 0) hx hb dX7_palms_37 (by decide) ?_
        refine lv_sipush (v := 9999) hx hb dX7_palms_38 (by decide) ?_
        refine x_calliR (x_runS (As := [.int w1, .int 0, .int 9999]) (rest := []) (n := 3) ⟨hx, hb, hml, hown, hts⟩ (k_X7_within l G  _ w1 0 9999) gX7_palms_X7_within rfl (by decide +kernel) ⟨Nat.le_trans (Nat.le_of_ble_eq_true rfl) hRf, Nat.le_trans (Nat.le_of_ble_eq_true rfl) hRl⟩ hKK hSS hS hA hP hD [] (by decide) rfl rfl hl.1 rfl (Nat.le_of_ble_eq_true rfl) dX7_palms_41) hP hD hS hA [] rfl (fun r_7 _ H locs hw hP hS => ?_)
        replace hw := hw.symm; subst hw
        refine lv_if_ne (tgt := 50) hx hb dX7_palms_44 (by decide) (fun hc_8 => ?_) (fun hc_8 => ?_)
        · have hv := hv.1 (tv_eqn.mp hc_8)
          refine lv_iconst (v := 0) hx hb dX7_palms_50 (by decide) ?_
          refine lv_istore (lv' := [(6, .int 0), (0, .ref h0), (1, .int x), (2, .int v), (3, .int w0), (4, .int w1), (5, .int w2)]) hx hb dX7_palms_51 hl (by decide) rfl (fun ls hl => ?_)
          refine lv_iconst (v := 0) hx hb dX7_palms_53 (by decide) ?_
          refine lv_istore (lv' := [(7, .int 0), (6, .int 0), (0, .ref h0), (1, .int x), (2, .int v), (3, .int w0), (4, .int w1), (5, .int w2)]) hx hb dX7_palms_54 hl (by decide) rfl (fun ls hl => ?_)
          obtain ⟨I56_13, μ56_14, hi0, hs_40⟩ := hv
          have Lm_42 : ∀ (n_41 : Nat) (gs00_9 : Int32) (gs01_10 : Int32) (x6_11 : Int32) (x7_12 : Int32) (H : Heap) (locs : List Loc) (ls : Array Slot), μ56_14 gs00_9 gs01_10 x6_11 x7_12 < n_41 → I56_13 gs00_9 gs01_10 x6_11 x7_12 → va_P G.1 vwCl [(h0, .inr (7, [.ref e0, .ref t, .ref k, .ref n, .ref j, .ref i0, .int kp, .ref b0, .ref s0, .ref q, .ref g])), (t, .inr (6, [.int ns, .int np, .int fu, .int fd, .int fi, .ref t1, .ref t2, .ref t3, .ref t4, .ref t5, .ref t6])), aI G t1 9 sz_, aI G t2 9 pt, aI G t3 9 fh, aI G t4 8 kd, aI G t5 8 nd, aI G t6 8 fw, (n, .inr (1, [.ref n1, .ref n2, .ref n3, .ref n4, .ref n5, .ref n6, .ref n7, .int lo, .int mi, .int sd])), aI G n1 9 ht, aI G n2 8 wm, aI G n3 8 se, aI G n4 8 cd, aI G n5 8 sl, aI G n6 8 od, aI G n7 72 ow, (s0, .inr (4, [.int gs00_9, .int gs01_10]))] H → va_D A [(h0, .inr (7, [.ref e0, .ref t, .ref k, .ref n, .ref j, .ref i0, .int kp, .ref b0, .ref s0, .ref q, .ref g])), (t, .inr (6, [.int ns, .int np, .int fu, .int fd, .int fi, .ref t1, .ref t2, .ref t3, .ref t4, .ref t5, .ref t6])), aI G t1 9 sz_, aI G t2 9 pt, aI G t3 9 fh, aI G t4 8 kd, aI G t5 8 nd, aI G t6 8 fw, (n, .inr (1, [.ref n1, .ref n2, .ref n3, .ref n4, .ref n5, .ref n6, .ref n7, .int lo, .int mi, .int sd])), aI G n1 9 ht, aI G n2 8 wm, aI G n3 8 se, aI G n4 8 cd, aI G n5 8 sl, aI G n6 8 od, aI G n7 72 ow, (s0, .inr (4, [.int gs00_9, .int gs01_10]))] → va_S A s.heap H locs → lv_has ls 10 [(7, .int x7_12), (6, .int x6_11), (0, .ref h0), (1, .int x), (2, .int v), (3, .int w0), (4, .int w1), (5, .int w2)] → W p l e R s m args below meth c H locs 0 0 Q (F0 m 56 ls []) := by
            intro n_41
            induction n_41 with
            | zero => intro gs00_9 gs01_10 x6_11 x7_12 H locs ls hm; exact absurd hm (Nat.not_lt_zero _)
            | succ n_41 ih_15 =>
              intro gs00_9 gs01_10 x6_11 x7_12 H locs ls hI_16 hi hP hD hS hl
              have hv := hs_40 gs00_9 gs01_10 x6_11 x7_12 hi
              refine lv_iload hx hb dX7_palms_56 (lv_at hl 0 rfl) ?_
              refine lv_aload_n hx hb dX7_palms_58 rfl (lv_at hl 2 rfl) ?_
              refine va_get (D := G.1) (ci := 7) (v := .ref t) (C := RX7) (T := TX7) (N := 11) hx hb hts hinX7 hown hKK.1 hP 0 rfl rfl 1 (by decide) kl19 (fun _ h9 => h9) rfl dX7_palms_59 ?_
              refine va_get (D := G.1) (ci := 6) (v := .int np) (C := RX6) (T := TX6) (N := 11) hx hb hts hinX6 hown hKK.1 hP 1 rfl rfl 1 (by decide) kl106 (fun _ h9 => h9) rfl dX7_palms_62 ?_
              refine lv_icmp_ge (tgt := 181) hx hb dX7_palms_65 (by decide) (fun hc_17 => ?_) (fun hc_17 => ?_)
              · have hv := hv.1 hc_17
                refine lv_iload hx hb dX7_palms_181 (lv_at hl 7 rfl) ?_
                refine lv_iconst (v := (-1)) hx hb dX7_palms_183 (by decide) ?_
                refine lv_icmp_ne (tgt := 192) hx hb dX7_palms_184 (by decide) (fun hc_18 => ?_) (fun hc_18 => ?_)
                · have hv := hv.1 hc_18
                  refine lv_iconst (v := (-1)) hx hb dX7_palms_192 (by decide) ?_
                  exact x_iret (v := (-1)) (gs00_9, gs01_10) hQ hx hb hr hlocks hS dX7_palms_193 hv hP hD
                · have hv := hv.2 hc_18
                  refine lv_iload hx hb dX7_palms_187 (lv_at hl 1 rfl) ?_
                  refine lv_goto (tgt := 193) hx hb dX7_palms_189 (by decide) ?_
                  exact x_iret (v := x6_11) (gs00_9, gs01_10) hQ hx hb hr hlocks hS dX7_palms_193 hv hP hD
              · have hv := hv.2 hc_17
                refine lv_aload_n hx hb dX7_palms_68 rfl (lv_at hl 2 rfl) ?_
                refine va_get (D := G.1) (ci := 7) (v := .ref s0) (C := RX7) (T := TX7) (N := 11) hx hb hts hinX7 hown hKK.1 hP 0 rfl rfl 8 (by decide) kl50 (fun _ h9 => h9) rfl dX7_palms_69 ?_
                refine lv_aload_n hx hb dX7_palms_72 rfl (lv_at hl 2 rfl) ?_
                refine va_get (D := G.1) (ci := 7) (v := .ref n) (C := RX7) (T := TX7) (N := 11) hx hb hts hinX7 hown hKK.1 hP 0 rfl rfl 3 (by decide) kl29 (fun _ h9 => h9) rfl dX7_palms_73 ?_
                refine va_get (D := G.1) (ci := 1) (v := .ref n2) (C := RX1) (T := TX1) (N := 10) hx hb hts hinX1 hown hKK.1 hP 8 rfl rfl 1 (by decide) kl135 (fun _ h9 => h9) rfl dX7_palms_76 ?_
                refine lv_iload hx hb dX7_palms_79 (lv_at hl 0 rfl) ?_
                obtain ⟨hin, hv⟩ := hv
                refine va_iald hx hb hKK.1 hP 10 0 rfl rfl hin dX7_palms_81 ?_
                refine lv_aload_n hx hb dX7_palms_82 rfl (lv_at hl 2 rfl) ?_
                refine va_get (D := G.1) (ci := 7) (v := .ref n) (C := RX7) (T := TX7) (N := 11) hx hb hts hinX7 hown hKK.1 hP 0 rfl rfl 3 (by decide) kl29 (fun _ h9 => h9) rfl dX7_palms_83 ?_
                refine va_get (D := G.1) (ci := 1) (v := .ref n1) (C := RX1) (T := TX1) (N := 10) hx hb hts hinX1 hown hKK.1 hP 8 rfl rfl 0 (by decide) kl132 (fun _ h9 => h9) rfl dX7_palms_86 ?_
                refine lv_iload_n hx hb dX7_palms_89 rfl (lv_at hl 3 rfl) ?_
                obtain ⟨hin, hv⟩ := hv
                refine va_iald hx hb hKK.1 hP 9 0 rfl rfl hin dX7_palms_90 ?_
                refine x_callv (wr := [(h0, .inr (7, [.ref e0, .ref t, .ref k, .ref n, .ref j, .ref i0, .int kp, .ref b0, .ref s0, .ref q, .ref g])), (t, .inr (6, [.int ns, .int np, .int fu, .int fd, .int fi, .ref t1, .ref t2, .ref t3, .ref t4, .ref t5, .ref t6])), aI G t1 9 sz_, aI G t2 9 pt, aI G t3 9 fh, aI G t4 8 kd, aI G t5 8 nd, aI G t6 8 fw, (n, .inr (1, [.ref n1, .ref n2, .ref n3, .ref n4, .ref n5, .ref n6, .ref n7, .int lo, .int mi, .int sd])), aI G n1 9 ht, aI G n2 8 wm, aI G n3 8 se, aI G n4 8 cd, aI G n5 8 sl, aI G n6 8 od, aI G n7 72 ow]) (w' := fun (u : (Int32) × (Int32)) => [(h0, .inr (7, [.ref e0, .ref t, .ref k, .ref n, .ref j, .ref i0, .int kp, .ref b0, .ref s0, .ref q, .ref g])), (t, .inr (6, [.int ns, .int np, .int fu, .int fd, .int fi, .ref t1, .ref t2, .ref t3, .ref t4, .ref t5, .ref t6])), aI G t1 9 sz_, aI G t2 9 pt, aI G t3 9 fh, aI G t4 8 kd, aI G t5 8 nd, aI G t6 8 fw, (n, .inr (1, [.ref n1, .ref n2, .ref n3, .ref n4, .ref n5, .ref n6, .ref n7, .int lo, .int mi, .int sd])), aI G n1 9 ht, aI G n2 8 wm, aI G n3 8 se, aI G n4 8 cd, aI G n5 8 sl, aI G n6 8 od, aI G n7 72 ow, (s0, .inr (4, [.int u.1, .int u.2]))]) (x_runV (As := [.int (wm x7_12.toNatClampNeg), .int (ht x.toNatClampNeg)]) (rest := []) (n := 2) (C := RX4) (ci := 4) ⟨hx, hb, hml, hown, hts⟩ (k_X4_begin l G s0 _ gs00_9 gs01_10 (wm x7_12.toNatClampNeg) (ht x.toNatClampNeg)) gX7_palms_X4_begin rfl (by decide +kernel) ⟨Nat.le_trans (Nat.le_of_ble_eq_true rfl) hRf, Nat.le_trans (Nat.le_of_ble_eq_true rfl) hRl⟩ hKK hSS hS hA hP hD [16] (by decide) rfl rfl rfl 16 rfl rfl hl.1 rfl (Nat.le_of_ble_eq_true rfl) dX7_palms_91) hP hD hS hA [16] [0, 1, 2, 3, 4, 5, 6, 7, 8, 9, 10, 11, 12, 13, 14, 15] [0, 1, 2, 3, 4, 5, 6, 7, 8, 9, 10, 11, 12, 13, 14, 15, 16] rfl rfl (by decide) (by decide) (by decide) (fun _ => rfl) (fun  u H locs hw hP hD hS => ?_)
                obtain ⟨sw2_20, sh2_21⟩ := u
                obtain ⟨hw0, hw1⟩ := hw
                replace hw0 := hw0.symm; subst hw0
                replace hw1 := hw1.symm; subst hw1
                have hP : va_P G.1 vwCl [(h0, .inr (7, [.ref e0, .ref t, .ref k, .ref n, .ref j, .ref i0, .int kp, .ref b0, .ref s0, .ref q, .ref g])), (t, .inr (6, [.int ns, .int np, .int fu, .int fd, .int fi, .ref t1, .ref t2, .ref t3, .ref t4, .ref t5, .ref t6])), aI G t1 9 sz_, aI G t2 9 pt, aI G t3 9 fh, aI G t4 8 kd, aI G t5 8 nd, aI G t6 8 fw, (n, .inr (1, [.ref n1, .ref n2, .ref n3, .ref n4, .ref n5, .ref n6, .ref n7, .int lo, .int mi, .int sd])), aI G n1 9 ht, aI G n2 8 wm, aI G n3 8 se, aI G n4 8 cd, aI G n5 8 sl, aI G n6 8 od, aI G n7 72 ow, (s0, .inr (4, [.int (wm x7_12.toNatClampNeg), .int (ht x.toNatClampNeg)]))] H := hP
                have hD : va_D A [(h0, .inr (7, [.ref e0, .ref t, .ref k, .ref n, .ref j, .ref i0, .int kp, .ref b0, .ref s0, .ref q, .ref g])), (t, .inr (6, [.int ns, .int np, .int fu, .int fd, .int fi, .ref t1, .ref t2, .ref t3, .ref t4, .ref t5, .ref t6])), aI G t1 9 sz_, aI G t2 9 pt, aI G t3 9 fh, aI G t4 8 kd, aI G t5 8 nd, aI G t6 8 fw, (n, .inr (1, [.ref n1, .ref n2, .ref n3, .ref n4, .ref n5, .ref n6, .ref n7, .int lo, .int mi, .int sd])), aI G n1 9 ht, aI G n2 8 wm, aI G n3 8 se, aI G n4 8 cd, aI G n5 8 sl, aI G n6 8 od, aI G n7 72 ow, (s0, .inr (4, [.int (wm x7_12.toNatClampNeg), .int (ht x.toNatClampNeg)]))] := hD
                refine lv_iconst (v := 1) hx hb dX7_palms_94 (by decide) ?_
                refine lv_istore (lv' := [(8, .int 1), (7, .int x7_12), (6, .int x6_11), (0, .ref h0), (1, .int x), (2, .int v), (3, .int w0), (4, .int w1), (5, .int w2)]) hx hb dX7_palms_95 hl (by decide) rfl (fun ls hl => ?_)
                obtain ⟨I97_26, μ97_27, hi0, hs_37⟩ := hv
                have Lm_39 : ∀ (n_38 : Nat) (gs00_22 : Int32) (gs01_23 : Int32) (x6_24 : Int32) (x8_25 : Int32) (H : Heap) (locs : List Loc) (ls : Array Slot), μ97_27 gs00_22 gs01_23 x6_24 x8_25 < n_38 → I97_26 gs00_22 gs01_23 x6_24 x8_25 → va_P G.1 vwCl [(h0, .inr (7, [.ref e0, .ref t, .ref k, .ref n, .ref j, .ref i0, .int kp, .ref b0, .ref s0, .ref q, .ref g])), (t, .inr (6, [.int ns, .int np, .int fu, .int fd, .int fi, .ref t1, .ref t2, .ref t3, .ref t4, .ref t5, .ref t6])), aI G t1 9 sz_, aI G t2 9 pt, aI G t3 9 fh, aI G t4 8 kd, aI G t5 8 nd, aI G t6 8 fw, (n, .inr (1, [.ref n1, .ref n2, .ref n3, .ref n4, .ref n5, .ref n6, .ref n7, .int lo, .int mi, .int sd])), aI G n1 9 ht, aI G n2 8 wm, aI G n3 8 se, aI G n4 8 cd, aI G n5 8 sl, aI G n6 8 od, aI G n7 72 ow, (s0, .inr (4, [.int gs00_22, .int gs01_23]))] H → va_D A [(h0, .inr (7, [.ref e0, .ref t, .ref k, .ref n, .ref j, .ref i0, .int kp, .ref b0, .ref s0, .ref q, .ref g])), (t, .inr (6, [.int ns, .int np, .int fu, .int fd, .int fi, .ref t1, .ref t2, .ref t3, .ref t4, .ref t5, .ref t6])), aI G t1 9 sz_, aI G t2 9 pt, aI G t3 9 fh, aI G t4 8 kd, aI G t5 8 nd, aI G t6 8 fw, (n, .inr (1, [.ref n1, .ref n2, .ref n3, .ref n4, .ref n5, .ref n6, .ref n7, .int lo, .int mi, .int sd])), aI G n1 9 ht, aI G n2 8 wm, aI G n3 8 se, aI G n4 8 cd, aI G n5 8 sl, aI G n6 8 od, aI G n7 72 ow, (s0, .inr (4, [.int gs00_22, .int gs01_23]))] → va_S A s.heap H locs → lv_has ls 10 [(8, .int x8_25), (7, .int x7_12), (6, .int x6_24), (0, .ref h0), (1, .int x), (2, .int v), (3, .int w0), (4, .int w1), (5, .int w2)] → W p l e R s m args below meth c H locs 0 0 Q (F0 m 97 ls []) := by
                  intro n_38
                  induction n_38 with
                  | zero => intro gs00_22 gs01_23 x6_24 x8_25 H locs ls hm; exact absurd hm (Nat.not_lt_zero _)
                  | succ n_38 ih_28 =>
                    intro gs00_22 gs01_23 x6_24 x8_25 H locs ls hI_29 hi hP hD hS hl
                    have hv := hs_37 gs00_22 gs01_23 x6_24 x8_25 hi
                    refine lv_iload hx hb dX7_palms_97 (lv_at hl 0 rfl) ?_
                    refine lv_iload_n hx hb dX7_palms_99 rfl (lv_at hl 5 rfl) ?_
                    refine lv_icmp_gt (tgt := 175) hx hb dX7_palms_100 (by decide) (fun hc_30 => ?_) (fun hc_30 => ?_)
                    · have hv := hv.1 hc_30
                      refine lv_iinc (v := (x7_12 + 1)) (lv' := [(7, .int (x7_12 + 1)), (8, .int x8_25), (6, .int x6_24), (0, .ref h0), (1, .int x), (2, .int v), (3, .int w0), (4, .int w1), (5, .int w2)]) hx hb dX7_palms_175 hl (k := 1) rfl rfl (by decide) rfl (fun ls hl => ?_)
                      refine lv_goto (tgt := 56) hx hb dX7_palms_178 (by decide) ?_
                      exact ih_15 _ _ _ _ _ _ _ (Nat.lt_of_lt_of_le hv.2 (Nat.le_of_lt_succ hI_16)) hv.1 hP hD hS (lv_sub hl [0, 2, 3, 4, 5, 6, 7, 8] rfl)
                    · have hv := hv.2 hc_30
                      refine lv_aload_n hx hb dX7_palms_103 rfl (lv_at hl 3 rfl) ?_
                      refine va_get (D := G.1) (ci := 7) (v := .ref s0) (C := RX7) (T := TX7) (N := 11) hx hb hts hinX7 hown hKK.1 hP 0 rfl rfl 8 (by decide) kl50 (fun _ h9 => h9) rfl dX7_palms_104 ?_
                      refine lv_aload_n hx hb dX7_palms_107 rfl (lv_at hl 3 rfl) ?_
                      refine va_get (D := G.1) (ci := 7) (v := .ref t) (C := RX7) (T := TX7) (N := 11) hx hb hts hinX7 hown hKK.1 hP 0 rfl rfl 1 (by decide) kl19 (fun _ h9 => h9) rfl dX7_palms_108 ?_
                      refine lv_iload hx hb dX7_palms_111 (lv_at hl 1 rfl) ?_
                      refine lv_iload_n hx hb dX7_palms_113 rfl (lv_at hl 4 rfl) ?_
                      obtain ⟨hp, hv⟩ := hv
                      refine x_callv (wr := [(h0, .inr (7, [.ref e0, .ref t, .ref k, .ref n, .ref j, .ref i0, .int kp, .ref b0, .ref s0, .ref q, .ref g])), (n, .inr (1, [.ref n1, .ref n2, .ref n3, .ref n4, .ref n5, .ref n6, .ref n7, .int lo, .int mi, .int sd])), aI G n1 9 ht, aI G n2 8 wm, aI G n3 8 se, aI G n4 8 cd, aI G n5 8 sl, aI G n6 8 od, aI G n7 72 ow]) (w' := fun (u : (Int32) × (Int32)) => [(h0, .inr (7, [.ref e0, .ref t, .ref k, .ref n, .ref j, .ref i0, .int kp, .ref b0, .ref s0, .ref q, .ref g])), (t, .inr (6, [.int ns, .int np, .int fu, .int fd, .int fi, .ref t1, .ref t2, .ref t3, .ref t4, .ref t5, .ref t6])), aI G t1 9 sz_, aI G t2 9 pt, aI G t3 9 fh, aI G t4 8 kd, aI G t5 8 nd, aI G t6 8 fw, (n, .inr (1, [.ref n1, .ref n2, .ref n3, .ref n4, .ref n5, .ref n6, .ref n7, .int lo, .int mi, .int sd])), aI G n1 9 ht, aI G n2 8 wm, aI G n3 8 se, aI G n4 8 cd, aI G n5 8 sl, aI G n6 8 od, aI G n7 72 ow, (s0, .inr (4, [.int u.1, .int u.2]))]) (x_runV (As := [.ref t, .int x7_12, .int x]) (rest := []) (n := 3) (C := RX4) (ci := 4) ⟨hx, hb, hml, hown, hts⟩ (k_X4_passMinute l G s0 t t1 t2 t3 t4 t5 t6 _ gs00_22 gs01_23 ns np fu fd fi sz_ pt fh kd nd fw x7_12 x hp) gX7_palms_X4_passMinute rfl (by decide +kernel) ⟨Nat.le_trans (Nat.le_of_ble_eq_true rfl) hRf, Nat.le_trans (Nat.le_of_ble_eq_true rfl) hRl⟩ hKK hSS hS hA hP hD [16, 1, 2, 3, 4, 5, 6, 7] (by decide) rfl rfl rfl 16 rfl rfl hl.1 rfl (Nat.le_of_ble_eq_true rfl) dX7_palms_114) hP hD hS hA [16, 1, 2, 3, 4, 5, 6, 7] [0, 8, 9, 10, 11, 12, 13, 14, 15] [0, 10, 11, 12, 13, 14, 15, 16, 1, 2, 3, 4, 5, 6, 7, 8, 9] rfl rfl (by decide) (by decide) (by decide) (fun _ => rfl) (fun  u H locs hw hP hD hS => ?_)
                      obtain ⟨sw2_32, sh2_33⟩ := u
                      obtain ⟨hw0, hw1⟩ := hw
                      replace hw0 := hw0.symm; subst hw0
                      replace hw1 := hw1.symm; subst hw1
                      have hP : va_P G.1 vwCl [(h0, .inr (7, [.ref e0, .ref t, .ref k, .ref n, .ref j, .ref i0, .int kp, .ref b0, .ref s0, .ref q, .ref g])), (t, .inr (6, [.int ns, .int np, .int fu, .int fd, .int fi, .ref t1, .ref t2, .ref t3, .ref t4, .ref t5, .ref t6])), aI G t1 9 sz_, aI G t2 9 pt, aI G t3 9 fh, aI G t4 8 kd, aI G t5 8 nd, aI G t6 8 fw, (n, .inr (1, [.ref n1, .ref n2, .ref n3, .ref n4, .ref n5, .ref n6, .ref n7, .int lo, .int mi, .int sd])), aI G n1 9 ht, aI G n2 8 wm, aI G n3 8 se, aI G n4 8 cd, aI G n5 8 sl, aI G n6 8 od, aI G n7 72 ow, (s0, .inr (4, [.int (sitW ns fu fd (kd x7_12.toNatClampNeg) (sz_ x.toNatClampNeg) x gs00_22 gs01_23), .int (sitH ns (kd x7_12.toNatClampNeg) (sz_ x.toNatClampNeg) x gs00_22 gs01_23)]))] H := hP
                      have hD : va_D A [(h0, .inr (7, [.ref e0, .ref t, .ref k, .ref n, .ref j, .ref i0, .int kp, .ref b0, .ref s0, .ref q, .ref g])), (t, .inr (6, [.int ns, .int np, .int fu, .int fd, .int fi, .ref t1, .ref t2, .ref t3, .ref t4, .ref t5, .ref t6])), aI G t1 9 sz_, aI G t2 9 pt, aI G t3 9 fh, aI G t4 8 kd, aI G t5 8 nd, aI G t6 8 fw, (n, .inr (1, [.ref n1, .ref n2, .ref n3, .ref n4, .ref n5, .ref n6, .ref n7, .int lo, .int mi, .int sd])), aI G n1 9 ht, aI G n2 8 wm, aI G n3 8 se, aI G n4 8 cd, aI G n5 8 sl, aI G n6 8 od, aI G n7 72 ow, (s0, .inr (4, [.int (sitW ns fu fd (kd x7_12.toNatClampNeg) (sz_ x.toNatClampNeg) x gs00_22 gs01_23), .int (sitH ns (kd x7_12.toNatClampNeg) (sz_ x.toNatClampNeg) x gs00_22 gs01_23)]))] := hD
                      refine lv_aload_n hx hb dX7_palms_117 rfl (lv_at hl 3 rfl) ?_
                      refine va_get (D := G.1) (ci := 7) (v := .ref t) (C := RX7) (T := TX7) (N := 11) hx hb hts hinX7 hown hKK.1 hP 0 rfl rfl 1 (by decide) kl19 (fun _ h9 => h9) rfl dX7_palms_118 ?_
                      refine lv_iload_n hx hb dX7_palms_121 rfl (lv_at hl 4 rfl) ?_
                      refine lv_aload_n hx hb dX7_palms_122 rfl (lv_at hl 3 rfl) ?_
                      refine va_get (D := G.1) (ci := 7) (v := .ref s0) (C := RX7) (T := TX7) (N := 11) hx hb hts hinX7 hown hKK.1 hP 0 rfl rfl 8 (by decide) kl50 (fun _ h9 => h9) rfl dX7_palms_123 ?_
                      refine va_get (D := G.1) (ci := 4) (v := .int (sitH ns (kd x7_12.toNatClampNeg) (sz_ x.toNatClampNeg) x gs00_22 gs01_23)) (C := RX4) (T := TX4) (N := 2) hx hb hts hinX4 hown hKK.1 hP 16 rfl rfl 1 (by decide) kl217 (fun _ h9 => h9) rfl dX7_palms_126 ?_
                      refine lv_iload_n hx hb dX7_palms_129 rfl (lv_at hl 5 rfl) ?_
                      refine lv_iload hx hb dX7_palms_130 (lv_at hl 0 rfl) ?_
                      refine lv_isub hx hb dX7_palms_132 ?_
                      obtain ⟨hp, hv⟩ := hv
                      refine x_calliR (x_runV (As := [.int x, .int (sitH ns (kd x7_12.toNatClampNeg) (sz_ x.toNatClampNeg) x gs00_22 gs01_23), .int (v - x8_25)]) (rest := []) (n := 3) (C := RX6) (ci := 6) ⟨hx, hb, hml, hown, hts⟩ (k_X6_heatLeft l G t t1 t2 t3 t4 t5 t6 _ ns np fu fd fi sz_ pt fh kd nd fw x (sitH ns (kd x7_12.toNatClampNeg) (sz_ x.toNatClampNeg) x gs00_22 gs01_23) (v - x8_25) hp) gX7_palms_X6_heatLeft rfl (by decide +kernel) ⟨Nat.le_trans (Nat.le_of_ble_eq_true rfl) hRf, Nat.le_trans (Nat.le_of_ble_eq_true rfl) hRl⟩ hKK hSS hS hA hP hD [1, 2, 3, 4, 5, 6, 7] (by decide) rfl rfl rfl 1 rfl rfl hl.1 rfl (Nat.le_of_ble_eq_true rfl) dX7_palms_133) hP hD hS hA [1, 2, 3, 4, 5, 6, 7] rfl (fun r_34 _ H locs hw hP hS => ?_)
                      replace hw := hw.symm; subst hw
                      refine lv_istore (lv' := [(9, .int (sitH ns (kd x7_12.toNatClampNeg) (sz_ x.toNatClampNeg) x gs00_22 gs01_23)), (8, .int x8_25), (7, .int x7_12), (6, .int x6_24), (0, .ref h0), (1, .int x), (2, .int v), (3, .int w0), (4, .int w1), (5, .int w2)]) hx hb dX7_palms_136 hl (by decide) rfl (fun ls hl => ?_)
                      refine lv_iload hx hb dX7_palms_138 (lv_at hl 0 rfl) ?_
                      refine lv_iload_n hx hb dX7_palms_140 rfl (lv_at hl 7 rfl) ?_
                      refine lv_isub hx hb dX7_palms_141 ?_
                      refine va_mabs hx hb (hml.trans hl.1.symm) hown kl223 km_s_abs km_i km_c_abs (Nat.le_trans (Nat.le_of_ble_eq_true rfl) hRf) (Nat.le_trans (Nat.le_of_ble_eq_true rfl) hRl) (Nat.zero_le _) (Nat.zero_le _) dX7_palms_142 ?_
                      refine lv_iload hx hb dX7_palms_145 (lv_at hl 8 rfl) ?_
                      refine lv_icmp_gt (tgt := 169) hx hb dX7_palms_147 (by decide) (fun hc_35 => ?_) (fun hc_35 => ?_)
                      · have hv := hv.1 hc_35
                        refine lv_iinc (v := (x8_25 + 1)) (lv' := [(8, .int (x8_25 + 1)), (9, .int (sitH ns (kd x7_12.toNatClampNeg) (sz_ x.toNatClampNeg) x gs00_22 gs01_23)), (7, .int x7_12), (6, .int x6_24), (0, .ref h0), (1, .int x), (2, .int v), (3, .int w0), (4, .int w1), (5, .int w2)]) hx hb dX7_palms_169 hl (k := 1) rfl rfl (by decide) rfl (fun ls hl => ?_)
                        refine lv_goto (tgt := 97) hx hb dX7_palms_172 (by decide) ?_
                        exact ih_28 _ _ _ _ _ _ _ (Nat.lt_of_lt_of_le hv.2 (Nat.le_of_lt_succ hI_29)) hv.1 hP hD hS (lv_sub hl [0, 2, 3, 4, 5, 6, 7, 8, 9] rfl)
                      · have hv := hv.2 hc_35
                        refine lv_iload hx hb dX7_palms_150 (lv_at hl 3 rfl) ?_
                        refine lv_iload hx hb dX7_palms_152 (lv_at hl 9 rfl) ?_
                        refine lv_icmp_ne (tgt := 166) hx hb dX7_palms_154 (by decide) (fun hc_36 => ?_) (fun hc_36 => ?_)
                        · have hv := hv.1 hc_36
                          refine lv_iinc (v := (x6_24 + 1)) (lv' := [(6, .int (x6_24 + 1)), (9, .int (sitH ns (kd x7_12.toNatClampNeg) (sz_ x.toNatClampNeg) x gs00_22 gs01_23)), (8, .int x8_25), (7, .int x7_12), (0, .ref h0), (1, .int x), (2, .int v), (3, .int w0), (4, .int w1), (5, .int w2)]) hx hb dX7_palms_166 hl (k := 3) rfl rfl (by decide) rfl (fun ls hl => ?_)
                          refine lv_iinc (v := (x8_25 + 1)) (lv' := [(8, .int (x8_25 + 1)), (6, .int (x6_24 + 1)), (9, .int (sitH ns (kd x7_12.toNatClampNeg) (sz_ x.toNatClampNeg) x gs00_22 gs01_23)), (7, .int x7_12), (0, .ref h0), (1, .int x), (2, .int v), (3, .int w0), (4, .int w1), (5, .int w2)]) hx hb dX7_palms_169 hl (k := 2) rfl rfl (by decide) rfl (fun ls hl => ?_)
                          refine lv_goto (tgt := 97) hx hb dX7_palms_172 (by decide) ?_
                          exact ih_28 _ _ _ _ _ _ _ (Nat.lt_of_lt_of_le hv.2 (Nat.le_of_lt_succ hI_29)) hv.1 hP hD hS (lv_sub hl [0, 3, 1, 4, 5, 6, 7, 8, 9] rfl)
                        · have hv := hv.2 hc_36
                          refine lv_bipush (v := 100) hx hb dX7_palms_157 (by decide) ?_
                          refine lv_iload hx hb dX7_palms_159 (lv_at hl 2 rfl) ?_
                          refine lv_imul hx hb dX7_palms_161 ?_
                          refine lv_iload hx hb dX7_palms_162 (lv_at hl 1 rfl) ?_
                          refine lv_iadd hx hb dX7_palms_164 ?_
                          exact x_iret (v := ((100 * x7_12) + x8_25)) ((sitW ns fu fd (kd x7_12.toNatClampNeg) (sz_ x.toNatClampNeg) x gs00_22 gs01_23), (sitH ns (kd x7_12.toNatClampNeg) (sz_ x.toNatClampNeg) x gs00_22 gs01_23)) hQ hx hb hr hlocks hS dX7_palms_165 hv hP hD
                exact Lm_39 _ _ _ _ _ _ _ _ (Nat.lt_succ_self _) hi0 hP hD hS hl
          exact Lm_42 _ _ _ _ _ _ _ _ (Nat.lt_succ_self _) hi0 hP hD hS hl
        · have hv := hv.2 (tv_eq.mp hc_8)
          refine lv_ldc (v := (-1000000002)) hx hb hown kl72 dX7_palms_47 ?_
          exact x_iret (v := (-1000000002)) (sw, sh) hQ hx hb hr hlocks hS dX7_palms_49 hv hP hD
  · have hv := hv.2 (tv_eq.mp hc_2)
    refine lv_ldc (v := (-1000000001)) hx hb hown kl143 dX7_palms_11 ?_
    exact x_iret (v := (-1000000001)) (sw, sh) hQ hx hb hr hlocks hS dX7_palms_13 hv hP hD
theorem k_X7_palms (l : Launch) (G : Gt) (h0 t t1 t2 t3 t4 t5 t6 n n1 n2 n3 n4 n5 n6 n7 s0 : Nat) (sz : Nat) (e0 : Nat) (k : Nat) (j : Nat) (i0 : Nat) (b0 : Nat) (q : Nat) (g : Nat) (kp : Int32) (ns : Int32) (np : Int32) (fu : Int32) (fd : Int32) (fi : Int32) (sz_ : Nat → Int32) (pt : Nat → Int32) (fh : Nat → Int32) (kd : Nat → Int32) (nd : Nat → Int32) (fw : Nat → Int32) (ht : Nat → Int32) (wm : Nat → Int32) (se : Nat → Int32) (cd : Nat → Int32) (sl : Nat → Int32) (od : Nat → Int32) (ow : Nat → Int32) (lo : Int32) (mi : Int32) (sd : Int32) (sw : Int32) (sh : Int32) (x : Int32) (v : Int32) (w0 : Int32) (w1 : Int32) (w2 : Int32) (hp : True) : MetI l yX7_palms wsX7_palms 3 70 G [.ref h0, .int x, .int v, .int w0, .int w1, .int w2] [(h0, .inr (7, [.ref e0, .ref t, .ref k, .ref n, .ref j, .ref i0, .int kp, .ref b0, .ref s0, .ref q, .ref g])), (t, .inr (6, [.int ns, .int np, .int fu, .int fd, .int fi, .ref t1, .ref t2, .ref t3, .ref t4, .ref t5, .ref t6])), aI G t1 9 sz_, aI G t2 9 pt, aI G t3 9 fh, aI G t4 8 kd, aI G t5 8 nd, aI G t6 8 fw, (n, .inr (1, [.ref n1, .ref n2, .ref n3, .ref n4, .ref n5, .ref n6, .ref n7, .int lo, .int mi, .int sd])), aI G n1 9 ht, aI G n2 8 wm, aI G n3 8 se, aI G n4 8 cd, aI G n5 8 sl, aI G n6 8 od, aI G n7 72 ow, (s0, .inr (4, [.int sw, .int sh]))] sz (fun (r : Int32) (u : (Int32) × (Int32)) => True) (fun (u : (Int32) × (Int32)) => [(h0, .inr (7, [.ref e0, .ref t, .ref k, .ref n, .ref j, .ref i0, .int kp, .ref b0, .ref s0, .ref q, .ref g])), (t, .inr (6, [.int ns, .int np, .int fu, .int fd, .int fi, .ref t1, .ref t2, .ref t3, .ref t4, .ref t5, .ref t6])), aI G t1 9 sz_, aI G t2 9 pt, aI G t3 9 fh, aI G t4 8 kd, aI G t5 8 nd, aI G t6 8 fw, (n, .inr (1, [.ref n1, .ref n2, .ref n3, .ref n4, .ref n5, .ref n6, .ref n7, .int lo, .int mi, .int sd])), aI G n1 9 ht, aI G n2 8 wm, aI G n3 8 se, aI G n4 8 cd, aI G n5 8 sl, aI G n6 8 od, aI G n7 72 ow, (s0, .inr (4, [.int u.1, .int u.2]))]) :=
  c_X7_palms l G h0 t t1 t2 t3 t4 t5 t6 n n1 n2 n3 n4 n5 n6 n7 s0 sz e0 k j i0 b0 q g kp ns np fu fd fi sz_ pt fh kd nd fw ht wm se cd sl od ow lo mi sd sw sh x v w0 w1 w2 (by
    sorry)

set_option maxHeartbeats 4000000 in
set_option maxRecDepth 100000 in
theorem c_X7_safe (l : Launch) (G : Gt) (h0 t t1 t2 t3 t4 t5 t6 n n1 n2 n3 n4 n5 n6 n7 j j1 j2 j3 j4 j5 j6 j7 : Nat) (sz : Nat) (e0 : Nat) (k : Nat) (i0 : Nat) (b0 : Nat) (s0 : Nat) (q : Nat) (g : Nat) (kp : Int32) (ns : Int32) (np : Int32) (fu : Int32) (fd : Int32) (fi : Int32) (sz_ : Nat → Int32) (pt : Nat → Int32) (fh : Nat → Int32) (kd : Nat → Int32) (nd : Nat → Int32) (fw : Nat → Int32) (ht : Nat → Int32) (wm : Nat → Int32) (se : Nat → Int32) (cd : Nat → Int32) (sl : Nat → Int32) (od : Nat → Int32) (ow : Nat → Int32) (lo : Int32) (mi : Int32) (sd : Int32) (htj : Nat → Int32) (wmj : Nat → Int32) (sej : Nat → Int32) (cdj : Nat → Int32) (slj : Nat → Int32) (odj : Nat → Int32) (owj : Nat → Int32) (loj : Int32) (mij : Int32) (sdj : Int32) (hv : ∀ (ht2_2 : Nat → Int32) (wm2_3 : Nat → Int32) (se2_4 : Nat → Int32) (cd2_5 : Nat → Int32) (sl2_6 : Nat → Int32) (od2_7 : Nat → Int32) (ow2_8 : Nat → Int32) (lo2_9 : Int32) (mi2_10 : Int32) (sd2_11 : Int32), (True) → (∃ (I13_21 : (Nat → Int32) → (Nat → Int32) → (Nat → Int32) → (Nat → Int32) → (Nat → Int32) → (Nat → Int32) → Int32 → Int32 → Int32 → Prop) (μ13_22 : (Nat → Int32) → (Nat → Int32) → (Nat → Int32) → (Nat → Int32) → (Nat → Int32) → (Nat → Int32) → Int32 → Int32 → Int32 → Nat), I13_21 ht2_2 wm2_3 cd2_5 sl2_6 od2_7 ow2_8 lo2_9 mi2_10 0 ∧ (∀ (fj1_12 : (Nat → Int32)) (fj2_13 : (Nat → Int32)) (fj4_14 : (Nat → Int32)) (fj5_15 : (Nat → Int32)) (fj6_16 : (Nat → Int32)) (fj7_17 : (Nat → Int32)) (gj7_18 : Int32) (gj8_19 : Int32) (x1_20 : Int32), I13_21 fj1_12 fj2_13 fj4_14 fj5_15 fj6_16 fj7_17 gj7_18 gj8_19 x1_20 → (999 ≤ x1_20 → True) ∧ (¬ (999 ≤ x1_20) → (True) ∧ (∀ (r_26 : Int32) (ht2_27 : Nat → Int32) (wm2_28 : Nat → Int32) (cd2_29 : Nat → Int32) (sl2_30 : Nat → Int32) (od2_31 : Nat → Int32) (ow2_32 : Nat → Int32) (lo2_33 : Int32) (mi2_34 : Int32), (True) → ((r_26 = 0 → I13_21 ht2_27 wm2_28 cd2_29 sl2_30 od2_31 ow2_32 lo2_33 mi2_34 (x1_20 + 1) ∧ μ13_22 ht2_27 wm2_28 cd2_29 sl2_30 od2_31 ow2_32 lo2_33 mi2_34 (x1_20 + 1) < μ13_22 fj1_12 fj2_13 fj4_14 fj5_15 fj6_16 fj7_17 gj7_18 gj8_19 x1_20) ∧ (¬ (r_26 = 0) → True))))))) : MetI l yX7_safe wsX7_safe 4 95 G [.ref h0] [(h0, .inr (7, [.ref e0, .ref t, .ref k, .ref n, .ref j, .ref i0, .int kp, .ref b0, .ref s0, .ref q, .ref g])), (t, .inr (6, [.int ns, .int np, .int fu, .int fd, .int fi, .ref t1, .ref t2, .ref t3, .ref t4, .ref t5, .ref t6])), aI G t1 9 sz_, aI G t2 9 pt, aI G t3 9 fh, aI G t4 8 kd, aI G t5 8 nd, aI G t6 8 fw, (n, .inr (1, [.ref n1, .ref n2, .ref n3, .ref n4, .ref n5, .ref n6, .ref n7, .int lo, .int mi, .int sd])), aI G n1 9 ht, aI G n2 8 wm, aI G n3 8 se, aI G n4 8 cd, aI G n5 8 sl, aI G n6 8 od, aI G n7 72 ow, (j, .inr (1, [.ref j1, .ref j2, .ref j3, .ref j4, .ref j5, .ref j6, .ref j7, .int loj, .int mij, .int sdj])), aI G j1 9 htj, aI G j2 8 wmj, aI G j3 8 sej, aI G j4 8 cdj, aI G j5 8 slj, aI G j6 8 odj, aI G j7 72 owj] sz (fun (r : Int32) (u : (Nat → Int32) × (Nat → Int32) × (Nat → Int32) × (Nat → Int32) × (Nat → Int32) × (Nat → Int32) × (Nat → Int32) × (Int32) × (Int32) × (Int32)) => True) (fun (u : (Nat → Int32) × (Nat → Int32) × (Nat → Int32) × (Nat → Int32) × (Nat → Int32) × (Nat → Int32) × (Nat → Int32) × (Int32) × (Int32) × (Int32)) => [(h0, .inr (7, [.ref e0, .ref t, .ref k, .ref n, .ref j, .ref i0, .int kp, .ref b0, .ref s0, .ref q, .ref g])), (t, .inr (6, [.int ns, .int np, .int fu, .int fd, .int fi, .ref t1, .ref t2, .ref t3, .ref t4, .ref t5, .ref t6])), aI G t1 9 sz_, aI G t2 9 pt, aI G t3 9 fh, aI G t4 8 kd, aI G t5 8 nd, aI G t6 8 fw, (n, .inr (1, [.ref n1, .ref n2, .ref n3, .ref n4, .ref n5, .ref n6, .ref n7, .int lo, .int mi, .int sd])), aI G n1 9 ht, aI G n2 8 wm, aI G n3 8 se, aI G n4 8 cd, aI G n5 8 sl, aI G n6 8 od, aI G n7 72 ow, (j, .inr (1, [.ref j1, .ref j2, .ref j3, .ref j4, .ref j5, .ref j6, .ref j7, .int u.2.2.2.2.2.2.2.1, .int u.2.2.2.2.2.2.2.2.1, .int u.2.2.2.2.2.2.2.2.2])), aI G j1 9 u.1, aI G j2 8 u.2.1, aI G j3 8 u.2.2.1, aI G j4 8 u.2.2.2.1, aI G j5 8 u.2.2.2.2.1, aI G j6 8 u.2.2.2.2.2.1, aI G j7 72 u.2.2.2.2.2.2.1]) := by
  refine x_startI (cc := cX7_safe) (maxL := 2) (ret := (some .int)) (by decide) rfl (Nat.le_of_ble_eq_true rfl) ?_
  intro p e s m args below meth c A R Q ls hRf hRl hQ C hP hD hS hA hSS hl
  obtain ⟨hx, hb, hr, hml, hown, hts, hlocks, hKK⟩ := C
  have hown : s.vm.findClass RX7 = some m.cls := hown
  have hl : lv_has ls 2 [(0, .ref h0)] := hl
  have hinX7 : ∀ w ∈ u_ws RX7 TX7 11, w ∈ wsX7_safe := by decide +kernel
  have kl19 := hts (.fieldLink RX7 19 "WarmStones" "town" "LWarmStones$Town;") (by decide +kernel)
  have kl29 := hts (.fieldLink RX7 29 "WarmStones" "night" "LWarmStones$Night;") (by decide +kernel)
  have kl33 := hts (.fieldLink RX7 33 "WarmStones" "trial" "LWarmStones$Night;") (by decide +kernel)
  refine lv_aload_n hx hb dX7_safe_0 rfl (lv_at hl 0 rfl) ?_
  refine va_get (D := G.1) (ci := 7) (v := .ref j) (C := RX7) (T := TX7) (N := 11) hx hb hts hinX7 hown hKK.1 hP 0 rfl rfl 4 (by decide) kl33 (fun _ h9 => h9) rfl dX7_safe_1 ?_
  refine lv_aload_n hx hb dX7_safe_4 rfl (lv_at hl 0 rfl) ?_
  refine va_get (D := G.1) (ci := 7) (v := .ref n) (C := RX7) (T := TX7) (N := 11) hx hb hts hinX7 hown hKK.1 hP 0 rfl rfl 3 (by decide) kl29 (fun _ h9 => h9) rfl dX7_safe_5 ?_
  refine x_callv (wr := [(h0, .inr (7, [.ref e0, .ref t, .ref k, .ref n, .ref j, .ref i0, .int kp, .ref b0, .ref s0, .ref q, .ref g])), (t, .inr (6, [.int ns, .int np, .int fu, .int fd, .int fi, .ref t1, .ref t2, .ref t3, .ref t4, .ref t5, .ref t6])), aI G t1 9 sz_, aI G t2 9 pt, aI G t3 9 fh, aI G t4 8 kd, aI G t5 8 nd, aI G t6 8 fw]) (w' := fun (u : (Nat → Int32) × (Nat → Int32) × (Nat → Int32) × (Nat → Int32) × (Nat → Int32) × (Nat → Int32) × (Nat → Int32) × (Int32) × (Int32) × (Int32)) => [(h0, .inr (7, [.ref e0, .ref t, .ref k, .ref n, .ref j, .ref i0, .int kp, .ref b0, .ref s0, .ref q, .ref g])), (t, .inr (6, [.int ns, .int np, .int fu, .int fd, .int fi, .ref t1, .ref t2, .ref t3, .ref t4, .ref t5, .ref t6])), aI G t1 9 sz_, aI G t2 9 pt, aI G t3 9 fh, aI G t4 8 kd, aI G t5 8 nd, aI G t6 8 fw, (n, .inr (1, [.ref n1, .ref n2, .ref n3, .ref n4, .ref n5, .ref n6, .ref n7, .int lo, .int mi, .int sd])), aI G n1 9 ht, aI G n2 8 wm, aI G n3 8 se, aI G n4 8 cd, aI G n5 8 sl, aI G n6 8 od, aI G n7 72 ow, (j, .inr (1, [.ref j1, .ref j2, .ref j3, .ref j4, .ref j5, .ref j6, .ref j7, .int u.2.2.2.2.2.2.2.1, .int u.2.2.2.2.2.2.2.2.1, .int u.2.2.2.2.2.2.2.2.2])), aI G j1 9 u.1, aI G j2 8 u.2.1, aI G j3 8 u.2.2.1, aI G j4 8 u.2.2.2.1, aI G j5 8 u.2.2.2.2.1, aI G j6 8 u.2.2.2.2.2.1, aI G j7 72 u.2.2.2.2.2.2.1]) (x_runV (As := [.ref n]) (rest := []) (n := 1) (C := RX1) (ci := 1) ⟨hx, hb, hml, hown, hts⟩ (k_X1_copyFrom l G j j1 j2 j3 j4 j5 j6 j7 n n1 n2 n3 n4 n5 n6 n7 _ htj wmj sej cdj slj odj owj loj mij sdj ht wm se cd sl od ow lo mi sd) gX7_safe_X1_copyFrom rfl (by decide +kernel) ⟨Nat.le_trans (Nat.le_of_ble_eq_true rfl) hRf, Nat.le_trans (Nat.le_of_ble_eq_true rfl) hRl⟩ hKK hSS hS hA hP hD [16, 17, 18, 19, 20, 21, 22, 23, 8, 9, 10, 11, 12, 13, 14, 15] (by decide) rfl rfl rfl 16 rfl rfl hl.1 rfl (Nat.le_of_ble_eq_true rfl) dX7_safe_8) hP hD hS hA [16, 17, 18, 19, 20, 21, 22, 23, 8, 9, 10, 11, 12, 13, 14, 15] [0, 1, 2, 3, 4, 5, 6, 7] [0, 1, 2, 3, 4, 5, 6, 7, 16, 17, 18, 19, 20, 21, 22, 23, 8, 9, 10, 11, 12, 13, 14, 15] rfl rfl (by decide) (by decide) (by decide) (fun _ => rfl) (fun  u H locs hw hP hD hS => ?_)
  obtain ⟨ht2_2, wm2_3, se2_4, cd2_5, sl2_6, od2_7, ow2_8, lo2_9, mi2_10, sd2_11⟩ := u
  have hP : va_P G.1 vwCl [(h0, .inr (7, [.ref e0, .ref t, .ref k, .ref n, .ref j, .ref i0, .int kp, .ref b0, .ref s0, .ref q, .ref g])), (t, .inr (6, [.int ns, .int np, .int fu, .int fd, .int fi, .ref t1, .ref t2, .ref t3, .ref t4, .ref t5, .ref t6])), aI G t1 9 sz_, aI G t2 9 pt, aI G t3 9 fh, aI G t4 8 kd, aI G t5 8 nd, aI G t6 8 fw, (n, .inr (1, [.ref n1, .ref n2, .ref n3, .ref n4, .ref n5, .ref n6, .ref n7, .int lo, .int mi, .int sd])), aI G n1 9 ht, aI G n2 8 wm, aI G n3 8 se, aI G n4 8 cd, aI G n5 8 sl, aI G n6 8 od, aI G n7 72 ow, (j, .inr (1, [.ref j1, .ref j2, .ref j3, .ref j4, .ref j5, .ref j6, .ref j7, .int lo2_9, .int mi2_10, .int sd2_11])), aI G j1 9 ht2_2, aI G j2 8 wm2_3, aI G j3 8 se2_4, aI G j4 8 cd2_5, aI G j5 8 sl2_6, aI G j6 8 od2_7, aI G j7 72 ow2_8] H := hP
  have hD : va_D A [(h0, .inr (7, [.ref e0, .ref t, .ref k, .ref n, .ref j, .ref i0, .int kp, .ref b0, .ref s0, .ref q, .ref g])), (t, .inr (6, [.int ns, .int np, .int fu, .int fd, .int fi, .ref t1, .ref t2, .ref t3, .ref t4, .ref t5, .ref t6])), aI G t1 9 sz_, aI G t2 9 pt, aI G t3 9 fh, aI G t4 8 kd, aI G t5 8 nd, aI G t6 8 fw, (n, .inr (1, [.ref n1, .ref n2, .ref n3, .ref n4, .ref n5, .ref n6, .ref n7, .int lo, .int mi, .int sd])), aI G n1 9 ht, aI G n2 8 wm, aI G n3 8 se, aI G n4 8 cd, aI G n5 8 sl, aI G n6 8 od, aI G n7 72 ow, (j, .inr (1, [.ref j1, .ref j2, .ref j3, .ref j4, .ref j5, .ref j6, .ref j7, .int lo2_9, .int mi2_10, .int sd2_11])), aI G j1 9 ht2_2, aI G j2 8 wm2_3, aI G j3 8 se2_4, aI G j4 8 cd2_5, aI G j5 8 sl2_6, aI G j6 8 od2_7, aI G j7 72 ow2_8] := hD
  have hv := hv ht2_2 wm2_3 se2_4 cd2_5 sl2_6 od2_7 ow2_8 lo2_9 mi2_10 sd2_11 hw
  refine lv_iconst (v := 0) hx hb dX7_safe_11 (by decide) ?_
  refine lv_istore_n (lv' := [(1, .int 0), (0, .ref h0)]) hx hb dX7_safe_12 rfl hl (by decide) rfl (fun ls hl => ?_)
  obtain ⟨I13_21, μ13_22, hi0, hs_36⟩ := hv
  have Lm_38 : ∀ (n_37 : Nat) (fj1_12 : (Nat → Int32)) (fj2_13 : (Nat → Int32)) (fj4_14 : (Nat → Int32)) (fj5_15 : (Nat → Int32)) (fj6_16 : (Nat → Int32)) (fj7_17 : (Nat → Int32)) (gj7_18 : Int32) (gj8_19 : Int32) (x1_20 : Int32) (H : Heap) (locs : List Loc) (ls : Array Slot), μ13_22 fj1_12 fj2_13 fj4_14 fj5_15 fj6_16 fj7_17 gj7_18 gj8_19 x1_20 < n_37 → I13_21 fj1_12 fj2_13 fj4_14 fj5_15 fj6_16 fj7_17 gj7_18 gj8_19 x1_20 → va_P G.1 vwCl [(h0, .inr (7, [.ref e0, .ref t, .ref k, .ref n, .ref j, .ref i0, .int kp, .ref b0, .ref s0, .ref q, .ref g])), (t, .inr (6, [.int ns, .int np, .int fu, .int fd, .int fi, .ref t1, .ref t2, .ref t3, .ref t4, .ref t5, .ref t6])), aI G t1 9 sz_, aI G t2 9 pt, aI G t3 9 fh, aI G t4 8 kd, aI G t5 8 nd, aI G t6 8 fw, (n, .inr (1, [.ref n1, .ref n2, .ref n3, .ref n4, .ref n5, .ref n6, .ref n7, .int lo, .int mi, .int sd])), aI G n1 9 ht, aI G n2 8 wm, aI G n3 8 se, aI G n4 8 cd, aI G n5 8 sl, aI G n6 8 od, aI G n7 72 ow, (j, .inr (1, [.ref j1, .ref j2, .ref j3, .ref j4, .ref j5, .ref j6, .ref j7, .int gj7_18, .int gj8_19, .int sd2_11])), aI G j1 9 fj1_12, aI G j2 8 fj2_13, aI G j3 8 se2_4, aI G j4 8 fj4_14, aI G j5 8 fj5_15, aI G j6 8 fj6_16, aI G j7 72 fj7_17] H → va_D A [(h0, .inr (7, [.ref e0, .ref t, .ref k, .ref n, .ref j, .ref i0, .int kp, .ref b0, .ref s0, .ref q, .ref g])), (t, .inr (6, [.int ns, .int np, .int fu, .int fd, .int fi, .ref t1, .ref t2, .ref t3, .ref t4, .ref t5, .ref t6])), aI G t1 9 sz_, aI G t2 9 pt, aI G t3 9 fh, aI G t4 8 kd, aI G t5 8 nd, aI G t6 8 fw, (n, .inr (1, [.ref n1, .ref n2, .ref n3, .ref n4, .ref n5, .ref n6, .ref n7, .int lo, .int mi, .int sd])), aI G n1 9 ht, aI G n2 8 wm, aI G n3 8 se, aI G n4 8 cd, aI G n5 8 sl, aI G n6 8 od, aI G n7 72 ow, (j, .inr (1, [.ref j1, .ref j2, .ref j3, .ref j4, .ref j5, .ref j6, .ref j7, .int gj7_18, .int gj8_19, .int sd2_11])), aI G j1 9 fj1_12, aI G j2 8 fj2_13, aI G j3 8 se2_4, aI G j4 8 fj4_14, aI G j5 8 fj5_15, aI G j6 8 fj6_16, aI G j7 72 fj7_17] → va_S A s.heap H locs → lv_has ls 2 [(1, .int x1_20), (0, .ref h0)] → W p l e R s m args below meth c H locs 0 0 Q (F0 m 13 ls []) := by
    intro n_37
    induction n_37 with
    | zero => intro fj1_12 fj2_13 fj4_14 fj5_15 fj6_16 fj7_17 gj7_18 gj8_19 x1_20 H locs ls hm; exact absurd hm (Nat.not_lt_zero _)
    | succ n_37 ih_23 =>
      intro fj1_12 fj2_13 fj4_14 fj5_15 fj6_16 fj7_17 gj7_18 gj8_19 x1_20 H locs ls hI_24 hi hP hD hS hl
      have hv := hs_36 fj1_12 fj2_13 fj4_14 fj5_15 fj6_16 fj7_17 gj7_18 gj8_19 x1_20 hi
      refine lv_iload_n hx hb dX7_safe_13 rfl (lv_at hl 0 rfl) ?_
      refine lv_sipush (v := 999) hx hb dX7_safe_14 (by decide) ?_
      refine lv_icmp_ge (tgt := 42) hx hb dX7_safe_17 (by decide) (fun hc_25 => ?_) (fun hc_25 => ?_)
      · have hv := hv.1 hc_25
        refine lv_sipush (v := 999) hx hb dX7_safe_42 (by decide) ?_
        exact x_iret (v := 999) (fj1_12, fj2_13, se2_4, fj4_14, fj5_15, fj6_16, fj7_17, gj7_18, gj8_19, sd2_11) hQ hx hb hr hlocks hS dX7_safe_45 hv hP hD
      · have hv := hv.2 hc_25
        refine lv_aload_n hx hb dX7_safe_20 rfl (lv_at hl 1 rfl) ?_
        refine va_get (D := G.1) (ci := 7) (v := .ref j) (C := RX7) (T := TX7) (N := 11) hx hb hts hinX7 hown hKK.1 hP 0 rfl rfl 4 (by decide) kl33 (fun _ h9 => h9) rfl dX7_safe_21 ?_
        refine lv_aload_n hx hb dX7_safe_24 rfl (lv_at hl 1 rfl) ?_
        refine va_get (D := G.1) (ci := 7) (v := .ref t) (C := RX7) (T := TX7) (N := 11) hx hb hts hinX7 hown hKK.1 hP 0 rfl rfl 1 (by decide) kl19 (fun _ h9 => h9) rfl dX7_safe_25 ?_
        obtain ⟨hp, hv⟩ := hv
        refine x_calli (wr := [(h0, .inr (7, [.ref e0, .ref t, .ref k, .ref n, .ref j, .ref i0, .int kp, .ref b0, .ref s0, .ref q, .ref g])), (n, .inr (1, [.ref n1, .ref n2, .ref n3, .ref n4, .ref n5, .ref n6, .ref n7, .int lo, .int mi, .int sd])), aI G n1 9 ht, aI G n2 8 wm, aI G n3 8 se, aI G n4 8 cd, aI G n5 8 sl, aI G n6 8 od, aI G n7 72 ow]) (w' := fun (u : (Nat → Int32) × (Nat → Int32) × (Nat → Int32) × (Nat → Int32) × (Nat → Int32) × (Nat → Int32) × (Int32) × (Int32)) => [(h0, .inr (7, [.ref e0, .ref t, .ref k, .ref n, .ref j, .ref i0, .int kp, .ref b0, .ref s0, .ref q, .ref g])), (t, .inr (6, [.int ns, .int np, .int fu, .int fd, .int fi, .ref t1, .ref t2, .ref t3, .ref t4, .ref t5, .ref t6])), aI G t1 9 sz_, aI G t2 9 pt, aI G t3 9 fh, aI G t4 8 kd, aI G t5 8 nd, aI G t6 8 fw, (n, .inr (1, [.ref n1, .ref n2, .ref n3, .ref n4, .ref n5, .ref n6, .ref n7, .int lo, .int mi, .int sd])), aI G n1 9 ht, aI G n2 8 wm, aI G n3 8 se, aI G n4 8 cd, aI G n5 8 sl, aI G n6 8 od, aI G n7 72 ow, (j, .inr (1, [.ref j1, .ref j2, .ref j3, .ref j4, .ref j5, .ref j6, .ref j7, .int u.2.2.2.2.2.2.1, .int u.2.2.2.2.2.2.2, .int sd2_11])), aI G j1 9 u.1, aI G j2 8 u.2.1, aI G j3 8 se2_4, aI G j4 8 u.2.2.1, aI G j5 8 u.2.2.2.1, aI G j6 8 u.2.2.2.2.1, aI G j7 72 u.2.2.2.2.2.1]) (x_runV (As := [.ref t]) (rest := []) (n := 1) (C := RX1) (ci := 1) ⟨hx, hb, hml, hown, hts⟩ (k_X1_passMinute l G j j1 j2 j3 j4 j5 j6 j7 t t1 t2 t3 t4 t5 t6 _ fj1_12 fj2_13 se2_4 fj4_14 fj5_15 fj6_16 fj7_17 gj7_18 gj8_19 sd2_11 ns np fu fd fi sz_ pt fh kd nd fw hp) gX7_safe_X1_passMinute rfl (by decide +kernel) ⟨Nat.le_trans (Nat.le_of_ble_eq_true rfl) hRf, Nat.le_trans (Nat.le_of_ble_eq_true rfl) hRl⟩ hKK hSS hS hA hP hD [16, 17, 18, 19, 20, 21, 22, 23, 1, 2, 3, 4, 5, 6, 7] (by decide) rfl rfl rfl 16 rfl rfl hl.1 rfl (Nat.le_of_ble_eq_true rfl) dX7_safe_28) hP hD hS hA [16, 17, 18, 19, 20, 21, 22, 23, 1, 2, 3, 4, 5, 6, 7] [0, 8, 9, 10, 11, 12, 13, 14, 15] [0, 17, 18, 19, 20, 21, 22, 23, 1, 2, 3, 4, 5, 6, 7, 8, 9, 10, 11, 12, 13, 14, 15, 16] rfl rfl (by decide) (by decide) (by decide) (fun _ => rfl) (fun r_26 u H locs hw hP hD hS => ?_)
        obtain ⟨ht2_27, wm2_28, cd2_29, sl2_30, od2_31, ow2_32, lo2_33, mi2_34⟩ := u
        have hP : va_P G.1 vwCl [(h0, .inr (7, [.ref e0, .ref t, .ref k, .ref n, .ref j, .ref i0, .int kp, .ref b0, .ref s0, .ref q, .ref g])), (t, .inr (6, [.int ns, .int np, .int fu, .int fd, .int fi, .ref t1, .ref t2, .ref t3, .ref t4, .ref t5, .ref t6])), aI G t1 9 sz_, aI G t2 9 pt, aI G t3 9 fh, aI G t4 8 kd, aI G t5 8 nd, aI G t6 8 fw, (n, .inr (1, [.ref n1, .ref n2, .ref n3, .ref n4, .ref n5, .ref n6, .ref n7, .int lo, .int mi, .int sd])), aI G n1 9 ht, aI G n2 8 wm, aI G n3 8 se, aI G n4 8 cd, aI G n5 8 sl, aI G n6 8 od, aI G n7 72 ow, (j, .inr (1, [.ref j1, .ref j2, .ref j3, .ref j4, .ref j5, .ref j6, .ref j7, .int lo2_33, .int mi2_34, .int sd2_11])), aI G j1 9 ht2_27, aI G j2 8 wm2_28, aI G j3 8 se2_4, aI G j4 8 cd2_29, aI G j5 8 sl2_30, aI G j6 8 od2_31, aI G j7 72 ow2_32] H := hP
        have hD : va_D A [(h0, .inr (7, [.ref e0, .ref t, .ref k, .ref n, .ref j, .ref i0, .int kp, .ref b0, .ref s0, .ref q, .ref g])), (t, .inr (6, [.int ns, .int np, .int fu, .int fd, .int fi, .ref t1, .ref t2, .ref t3, .ref t4, .ref t5, .ref t6])), aI G t1 9 sz_, aI G t2 9 pt, aI G t3 9 fh, aI G t4 8 kd, aI G t5 8 nd, aI G t6 8 fw, (n, .inr (1, [.ref n1, .ref n2, .ref n3, .ref n4, .ref n5, .ref n6, .ref n7, .int lo, .int mi, .int sd])), aI G n1 9 ht, aI G n2 8 wm, aI G n3 8 se, aI G n4 8 cd, aI G n5 8 sl, aI G n6 8 od, aI G n7 72 ow, (j, .inr (1, [.ref j1, .ref j2, .ref j3, .ref j4, .ref j5, .ref j6, .ref j7, .int lo2_33, .int mi2_34, .int sd2_11])), aI G j1 9 ht2_27, aI G j2 8 wm2_28, aI G j3 8 se2_4, aI G j4 8 cd2_29, aI G j5 8 sl2_30, aI G j6 8 od2_31, aI G j7 72 ow2_32] := hD
        have hv := hv r_26 ht2_27 wm2_28 cd2_29 sl2_30 od2_31 ow2_32 lo2_33 mi2_34 hw
        refine lv_if_eq (tgt := 36) hx hb dX7_safe_31 (by decide) (fun hc_35 => ?_) (fun hc_35 => ?_)
        · have hv := hv.1 hc_35
          refine lv_iinc (v := (x1_20 + 1)) (lv' := [(1, .int (x1_20 + 1)), (0, .ref h0)]) hx hb dX7_safe_36 hl (k := 0) rfl rfl (by decide) rfl (fun ls hl => ?_)
          refine lv_goto (tgt := 13) hx hb dX7_safe_39 (by decide) ?_
          exact ih_23 _ _ _ _ _ _ _ _ _ _ _ _ (Nat.lt_of_lt_of_le hv.2 (Nat.le_of_lt_succ hI_24)) hv.1 hP hD hS hl
        · have hv := hv.2 hc_35
          refine lv_iload_n hx hb dX7_safe_34 rfl (lv_at hl 0 rfl) ?_
          exact x_iret (v := x1_20) (ht2_27, wm2_28, se2_4, cd2_29, sl2_30, od2_31, ow2_32, lo2_33, mi2_34, sd2_11) hQ hx hb hr hlocks hS dX7_safe_35 hv hP hD
  exact Lm_38 _ _ _ _ _ _ _ _ _ _ _ _ _ (Nat.lt_succ_self _) hi0 hP hD hS hl
theorem k_X7_safe (l : Launch) (G : Gt) (h0 t t1 t2 t3 t4 t5 t6 n n1 n2 n3 n4 n5 n6 n7 j j1 j2 j3 j4 j5 j6 j7 : Nat) (sz : Nat) (e0 : Nat) (k : Nat) (i0 : Nat) (b0 : Nat) (s0 : Nat) (q : Nat) (g : Nat) (kp : Int32) (ns : Int32) (np : Int32) (fu : Int32) (fd : Int32) (fi : Int32) (sz_ : Nat → Int32) (pt : Nat → Int32) (fh : Nat → Int32) (kd : Nat → Int32) (nd : Nat → Int32) (fw : Nat → Int32) (ht : Nat → Int32) (wm : Nat → Int32) (se : Nat → Int32) (cd : Nat → Int32) (sl : Nat → Int32) (od : Nat → Int32) (ow : Nat → Int32) (lo : Int32) (mi : Int32) (sd : Int32) (htj : Nat → Int32) (wmj : Nat → Int32) (sej : Nat → Int32) (cdj : Nat → Int32) (slj : Nat → Int32) (odj : Nat → Int32) (owj : Nat → Int32) (loj : Int32) (mij : Int32) (sdj : Int32) (hp : True) : MetI l yX7_safe wsX7_safe 4 95 G [.ref h0] [(h0, .inr (7, [.ref e0, .ref t, .ref k, .ref n, .ref j, .ref i0, .int kp, .ref b0, .ref s0, .ref q, .ref g])), (t, .inr (6, [.int ns, .int np, .int fu, .int fd, .int fi, .ref t1, .ref t2, .ref t3, .ref t4, .ref t5, .ref t6])), aI G t1 9 sz_, aI G t2 9 pt, aI G t3 9 fh, aI G t4 8 kd, aI G t5 8 nd, aI G t6 8 fw, (n, .inr (1, [.ref n1, .ref n2, .ref n3, .ref n4, .ref n5, .ref n6, .ref n7, .int lo, .int mi, .int sd])), aI G n1 9 ht, aI G n2 8 wm, aI G n3 8 se, aI G n4 8 cd, aI G n5 8 sl, aI G n6 8 od, aI G n7 72 ow, (j, .inr (1, [.ref j1, .ref j2, .ref j3, .ref j4, .ref j5, .ref j6, .ref j7, .int loj, .int mij, .int sdj])), aI G j1 9 htj, aI G j2 8 wmj, aI G j3 8 sej, aI G j4 8 cdj, aI G j5 8 slj, aI G j6 8 odj, aI G j7 72 owj] sz (fun (r : Int32) (u : (Nat → Int32) × (Nat → Int32) × (Nat → Int32) × (Nat → Int32) × (Nat → Int32) × (Nat → Int32) × (Nat → Int32) × (Int32) × (Int32) × (Int32)) => True) (fun (u : (Nat → Int32) × (Nat → Int32) × (Nat → Int32) × (Nat → Int32) × (Nat → Int32) × (Nat → Int32) × (Nat → Int32) × (Int32) × (Int32) × (Int32)) => [(h0, .inr (7, [.ref e0, .ref t, .ref k, .ref n, .ref j, .ref i0, .int kp, .ref b0, .ref s0, .ref q, .ref g])), (t, .inr (6, [.int ns, .int np, .int fu, .int fd, .int fi, .ref t1, .ref t2, .ref t3, .ref t4, .ref t5, .ref t6])), aI G t1 9 sz_, aI G t2 9 pt, aI G t3 9 fh, aI G t4 8 kd, aI G t5 8 nd, aI G t6 8 fw, (n, .inr (1, [.ref n1, .ref n2, .ref n3, .ref n4, .ref n5, .ref n6, .ref n7, .int lo, .int mi, .int sd])), aI G n1 9 ht, aI G n2 8 wm, aI G n3 8 se, aI G n4 8 cd, aI G n5 8 sl, aI G n6 8 od, aI G n7 72 ow, (j, .inr (1, [.ref j1, .ref j2, .ref j3, .ref j4, .ref j5, .ref j6, .ref j7, .int u.2.2.2.2.2.2.2.1, .int u.2.2.2.2.2.2.2.2.1, .int u.2.2.2.2.2.2.2.2.2])), aI G j1 9 u.1, aI G j2 8 u.2.1, aI G j3 8 u.2.2.1, aI G j4 8 u.2.2.2.1, aI G j5 8 u.2.2.2.2.1, aI G j6 8 u.2.2.2.2.2.1, aI G j7 72 u.2.2.2.2.2.2.1]) :=
  c_X7_safe l G h0 t t1 t2 t3 t4 t5 t6 n n1 n2 n3 n4 n5 n6 n7 j j1 j2 j3 j4 j5 j6 j7 sz e0 k i0 b0 s0 q g kp ns np fu fd fi sz_ pt fh kd nd fw ht wm se cd sl od ow lo mi sd htj wmj sej cdj slj odj owj loj mij sdj (by
    sorry)

set_option maxHeartbeats 4000000 in
set_option maxRecDepth 100000 in
theorem c_X7_write (l : Launch) (G : Gt) (h0 t t1 t2 t3 t4 t5 t6 b0 b01 b02 : Nat) (sz : Nat) (e0 : Nat) (k : Nat) (n : Nat) (j : Nat) (i0 : Nat) (s0 : Nat) (q : Nat) (g : Nat) (kp : Int32) (ns : Int32) (np : Int32) (fu : Int32) (fd : Int32) (fi : Int32) (sz_ : Nat → Int32) (pt : Nat → Int32) (fh : Nat → Int32) (kd : Nat → Int32) (nd : Nat → Int32) (fw : Nat → Int32) (en : Int32) (bs : Nat → Int32) (bh : Nat → Int32) (x : Int32) (v : Int32) (hv : (¬ x < 0 ∧ ¬ ns ≤ x → (¬ v < 0 ∧ ¬ 9999 < v → (en < 30 → (vp_in en 30 ∧ en < 30) ∧ (True)) ∧ (¬ (en < 30) → True)) ∧ (¬ (¬ v < 0 ∧ ¬ 9999 < v) → True)) ∧ (¬ (¬ x < 0 ∧ ¬ ns ≤ x) → True)) : MetI l yX7_write wsX7_write 1 22 G [.ref h0, .int x, .int v] [(h0, .inr (7, [.ref e0, .ref t, .ref k, .ref n, .ref j, .ref i0, .int kp, .ref b0, .ref s0, .ref q, .ref g])), (t, .inr (6, [.int ns, .int np, .int fu, .int fd, .int fi, .ref t1, .ref t2, .ref t3, .ref t4, .ref t5, .ref t6])), aI G t1 9 sz_, aI G t2 9 pt, aI G t3 9 fh, aI G t4 8 kd, aI G t5 8 nd, aI G t6 8 fw, (b0, .inr (0, [.ref b01, .ref b02, .int en])), aI G b01 30 bs, aI G b02 30 bh] sz (fun (r : Int32) (u : (Int32) × (Nat → Int32) × (Nat → Int32)) => True) (fun (u : (Int32) × (Nat → Int32) × (Nat → Int32)) => [(h0, .inr (7, [.ref e0, .ref t, .ref k, .ref n, .ref j, .ref i0, .int kp, .ref b0, .ref s0, .ref q, .ref g])), (t, .inr (6, [.int ns, .int np, .int fu, .int fd, .int fi, .ref t1, .ref t2, .ref t3, .ref t4, .ref t5, .ref t6])), aI G t1 9 sz_, aI G t2 9 pt, aI G t3 9 fh, aI G t4 8 kd, aI G t5 8 nd, aI G t6 8 fw, (b0, .inr (0, [.ref b01, .ref b02, .int u.1])), aI G b01 30 u.2.1, aI G b02 30 u.2.2]) := by
  refine x_startI (cc := cX7_write) (maxL := 3) (ret := (some .int)) (by decide) rfl (Nat.le_of_ble_eq_true rfl) ?_
  intro p e s m args below meth c A R Q ls hRf hRl hQ C hP hD hS hA hSS hl
  obtain ⟨hx, hb, hr, hml, hown, hts, hlocks, hKK⟩ := C
  have hown : s.vm.findClass RX7 = some m.cls := hown
  have hl : lv_has ls 3 [(0, .ref h0), (1, .int x), (2, .int v)] := hl
  have hinX0 : ∀ w ∈ u_ws RX0 TX0 3, w ∈ wsX7_write := by decide +kernel
  have hinX7 : ∀ w ∈ u_ws RX7 TX7 11, w ∈ wsX7_write := by decide +kernel
  have kl143 := hts (.constant RX7 143 (-1000000001)) (by decide +kernel)
  have kl19 := hts (.fieldLink RX7 19 "WarmStones" "town" "LWarmStones$Town;") (by decide +kernel)
  have kl43 := hts (.fieldLink RX7 43 "WarmStones" "book" "LWarmStones$Book;") (by decide +kernel)
  have kl72 := hts (.constant RX7 72 (-1000000002)) (by decide +kernel)
  have kl77 := hts (.constant RX7 77 (-1000000004)) (by decide +kernel)
  have kl94 := hts (.fieldLink RX7 94 "WarmStones$Book" "entries" "I") (by decide +kernel)
  refine lv_aload_n hx hb dX7_write_0 rfl (lv_at hl 0 rfl) ?_
  refine va_get (D := G.1) (ci := 7) (v := .ref t) (C := RX7) (T := TX7) (N := 11) hx hb hts hinX7 hown hKK.1 hP 0 rfl rfl 1 (by decide) kl19 (fun _ h9 => h9) rfl dX7_write_1 ?_
  refine lv_iload_n hx hb dX7_write_4 rfl (lv_at hl 1 rfl) ?_
  refine x_calliR (x_runV (As := [.int x]) (rest := []) (n := 1) (C := RX6) (ci := 6) ⟨hx, hb, hml, hown, hts⟩ (k_X6_hasStone l G t t1 t2 t3 t4 t5 t6 _ ns np fu fd fi sz_ pt fh kd nd fw x) gX7_write_X6_hasStone rfl (by decide +kernel) ⟨Nat.le_trans (Nat.le_of_ble_eq_true rfl) hRf, Nat.le_trans (Nat.le_of_ble_eq_true rfl) hRl⟩ hKK hSS hS hA hP hD [1, 2, 3, 4, 5, 6, 7] (by decide) rfl rfl rfl 1 rfl rfl hl.1 rfl (Nat.le_of_ble_eq_true rfl) dX7_write_5) hP hD hS hA [1, 2, 3, 4, 5, 6, 7] rfl (fun r_1 _ H locs hw hP hS => ?_)
  replace hw := hw.symm; subst hw
  refine lv_if_ne (tgt := 14) hx hb dX7_write_8 (by decide) (fun hc_2 => ?_) (fun hc_2 => ?_)
  · have hv := hv.1 (tv_eqn.mp hc_2)
    refine lv_iload_n hx hb dX7_write_14 rfl (lv_at hl 2 rfl) ?_
    refine lv_iconst (v := 0) hx hb dX7_write_15 (by decide) ?_
    refine lv_sipush (v := 9999) hx hb dX7_write_16 (by decide) ?_
    refine x_calliR (x_runS (As := [.int v, .int 0, .int 9999]) (rest := []) (n := 3) ⟨hx, hb, hml, hown, hts⟩ (k_X7_within l G  _ v 0 9999) gX7_write_X7_within rfl (by decide +kernel) ⟨Nat.le_trans (Nat.le_of_ble_eq_true rfl) hRf, Nat.le_trans (Nat.le_of_ble_eq_true rfl) hRl⟩ hKK hSS hS hA hP hD [] (by decide) rfl rfl hl.1 rfl (Nat.le_of_ble_eq_true rfl) dX7_write_19) hP hD hS hA [] rfl (fun r_3 _ H locs hw hP hS => ?_)
    replace hw := hw.symm; subst hw
    refine lv_if_ne (tgt := 28) hx hb dX7_write_22 (by decide) (fun hc_4 => ?_) (fun hc_4 => ?_)
    · have hv := hv.1 (tv_eqn.mp hc_4)
      refine lv_aload_n hx hb dX7_write_28 rfl (lv_at hl 0 rfl) ?_
      refine va_get (D := G.1) (ci := 7) (v := .ref b0) (C := RX7) (T := TX7) (N := 11) hx hb hts hinX7 hown hKK.1 hP 0 rfl rfl 7 (by decide) kl43 (fun _ h9 => h9) rfl dX7_write_29 ?_
      refine va_get (D := G.1) (ci := 0) (v := .int en) (C := RX0) (T := TX0) (N := 3) hx hb hts hinX0 hown hKK.1 hP 8 rfl rfl 2 (by decide) kl94 (fun _ h9 => h9) rfl dX7_write_32 ?_
      refine lv_bipush (v := 30) hx hb dX7_write_35 (by decide) ?_
      refine lv_icmp_lt (tgt := 43) hx hb dX7_write_37 (by decide) (fun hc_5 => ?_) (fun hc_5 => ?_)
      · have hv := hv.1 hc_5
        refine lv_aload_n hx hb dX7_write_43 rfl (lv_at hl 0 rfl) ?_
        refine va_get (D := G.1) (ci := 7) (v := .ref b0) (C := RX7) (T := TX7) (N := 11) hx hb hts hinX7 hown hKK.1 hP 0 rfl rfl 7 (by decide) kl43 (fun _ h9 => h9) rfl dX7_write_44 ?_
        refine lv_iload_n hx hb dX7_write_47 rfl (lv_at hl 1 rfl) ?_
        refine lv_iload_n hx hb dX7_write_48 rfl (lv_at hl 2 rfl) ?_
        obtain ⟨hp, hv⟩ := hv
        refine x_callv (wr := [(h0, .inr (7, [.ref e0, .ref t, .ref k, .ref n, .ref j, .ref i0, .int kp, .ref b0, .ref s0, .ref q, .ref g])), (t, .inr (6, [.int ns, .int np, .int fu, .int fd, .int fi, .ref t1, .ref t2, .ref t3, .ref t4, .ref t5, .ref t6])), aI G t1 9 sz_, aI G t2 9 pt, aI G t3 9 fh, aI G t4 8 kd, aI G t5 8 nd, aI G t6 8 fw]) (w' := fun (u : (Int32) × (Nat → Int32) × (Nat → Int32)) => [(h0, .inr (7, [.ref e0, .ref t, .ref k, .ref n, .ref j, .ref i0, .int kp, .ref b0, .ref s0, .ref q, .ref g])), (t, .inr (6, [.int ns, .int np, .int fu, .int fd, .int fi, .ref t1, .ref t2, .ref t3, .ref t4, .ref t5, .ref t6])), aI G t1 9 sz_, aI G t2 9 pt, aI G t3 9 fh, aI G t4 8 kd, aI G t5 8 nd, aI G t6 8 fw, (b0, .inr (0, [.ref b01, .ref b02, .int u.1])), aI G b01 30 u.2.1, aI G b02 30 u.2.2]) (x_runV (As := [.int x, .int v]) (rest := []) (n := 2) (C := RX0) (ci := 0) ⟨hx, hb, hml, hown, hts⟩ (k_X0_append l G b0 b01 b02 _ en bs bh x v hp) gX7_write_X0_append rfl (by decide +kernel) ⟨Nat.le_trans (Nat.le_of_ble_eq_true rfl) hRf, Nat.le_trans (Nat.le_of_ble_eq_true rfl) hRl⟩ hKK hSS hS hA hP hD [8, 9, 10] (by decide) rfl rfl rfl 8 rfl rfl hl.1 rfl (Nat.le_of_ble_eq_true rfl) dX7_write_49) hP hD hS hA [8, 9, 10] [0, 1, 2, 3, 4, 5, 6, 7] [0, 1, 2, 3, 4, 5, 6, 7, 8, 9, 10] rfl rfl (by decide) (by decide) (by decide) (fun _ => rfl) (fun  u H locs hw hP hD hS => ?_)
        obtain ⟨en2_7, bs2_8, bh2_9⟩ := u
        obtain ⟨hw0, hw1, hw2⟩ := hw
        replace hw0 := hw0.symm; subst hw0
        replace hw1 := hw1.symm; subst hw1
        replace hw2 := hw2.symm; subst hw2
        have hP : va_P G.1 vwCl [(h0, .inr (7, [.ref e0, .ref t, .ref k, .ref n, .ref j, .ref i0, .int kp, .ref b0, .ref s0, .ref q, .ref g])), (t, .inr (6, [.int ns, .int np, .int fu, .int fd, .int fi, .ref t1, .ref t2, .ref t3, .ref t4, .ref t5, .ref t6])), aI G t1 9 sz_, aI G t2 9 pt, aI G t3 9 fh, aI G t4 8 kd, aI G t5 8 nd, aI G t6 8 fw, (b0, .inr (0, [.ref b01, .ref b02, .int (en + 1)])), aI G b01 30 (upd bs en.toNatClampNeg x), aI G b02 30 (upd bh en.toNatClampNeg v)] H := hP
        have hD : va_D A [(h0, .inr (7, [.ref e0, .ref t, .ref k, .ref n, .ref j, .ref i0, .int kp, .ref b0, .ref s0, .ref q, .ref g])), (t, .inr (6, [.int ns, .int np, .int fu, .int fd, .int fi, .ref t1, .ref t2, .ref t3, .ref t4, .ref t5, .ref t6])), aI G t1 9 sz_, aI G t2 9 pt, aI G t3 9 fh, aI G t4 8 kd, aI G t5 8 nd, aI G t6 8 fw, (b0, .inr (0, [.ref b01, .ref b02, .int (en + 1)])), aI G b01 30 (upd bs en.toNatClampNeg x), aI G b02 30 (upd bh en.toNatClampNeg v)] := hD
        refine lv_aload_n hx hb dX7_write_52 rfl (lv_at hl 0 rfl) ?_
        refine va_get (D := G.1) (ci := 7) (v := .ref b0) (C := RX7) (T := TX7) (N := 11) hx hb hts hinX7 hown hKK.1 hP 0 rfl rfl 7 (by decide) kl43 (fun _ h9 => h9) rfl dX7_write_53 ?_
        refine va_get (D := G.1) (ci := 0) (v := .int (en + 1)) (C := RX0) (T := TX0) (N := 3) hx hb hts hinX0 hown hKK.1 hP 8 rfl rfl 2 (by decide) kl94 (fun _ h9 => h9) rfl dX7_write_56 ?_
        exact x_iret (v := (en + 1)) ((en + 1), (upd bs en.toNatClampNeg x), (upd bh en.toNatClampNeg v)) hQ hx hb hr hlocks hS dX7_write_59 hv hP hD
      · have hv := hv.2 hc_5
        refine lv_ldc (v := (-1000000004)) hx hb hown kl77 dX7_write_40 ?_
        exact x_iret (v := (-1000000004)) (en, bs, bh) hQ hx hb hr hlocks hS dX7_write_42 hv hP hD
    · have hv := hv.2 (tv_eq.mp hc_4)
      refine lv_ldc (v := (-1000000002)) hx hb hown kl72 dX7_write_25 ?_
      exact x_iret (v := (-1000000002)) (en, bs, bh) hQ hx hb hr hlocks hS dX7_write_27 hv hP hD
  · have hv := hv.2 (tv_eq.mp hc_2)
    refine lv_ldc (v := (-1000000001)) hx hb hown kl143 dX7_write_11 ?_
    exact x_iret (v := (-1000000001)) (en, bs, bh) hQ hx hb hr hlocks hS dX7_write_13 hv hP hD
theorem k_X7_write (l : Launch) (G : Gt) (h0 t t1 t2 t3 t4 t5 t6 b0 b01 b02 : Nat) (sz : Nat) (e0 : Nat) (k : Nat) (n : Nat) (j : Nat) (i0 : Nat) (s0 : Nat) (q : Nat) (g : Nat) (kp : Int32) (ns : Int32) (np : Int32) (fu : Int32) (fd : Int32) (fi : Int32) (sz_ : Nat → Int32) (pt : Nat → Int32) (fh : Nat → Int32) (kd : Nat → Int32) (nd : Nat → Int32) (fw : Nat → Int32) (en : Int32) (bs : Nat → Int32) (bh : Nat → Int32) (x : Int32) (v : Int32) (hp : True) : MetI l yX7_write wsX7_write 1 22 G [.ref h0, .int x, .int v] [(h0, .inr (7, [.ref e0, .ref t, .ref k, .ref n, .ref j, .ref i0, .int kp, .ref b0, .ref s0, .ref q, .ref g])), (t, .inr (6, [.int ns, .int np, .int fu, .int fd, .int fi, .ref t1, .ref t2, .ref t3, .ref t4, .ref t5, .ref t6])), aI G t1 9 sz_, aI G t2 9 pt, aI G t3 9 fh, aI G t4 8 kd, aI G t5 8 nd, aI G t6 8 fw, (b0, .inr (0, [.ref b01, .ref b02, .int en])), aI G b01 30 bs, aI G b02 30 bh] sz (fun (r : Int32) (u : (Int32) × (Nat → Int32) × (Nat → Int32)) => True) (fun (u : (Int32) × (Nat → Int32) × (Nat → Int32)) => [(h0, .inr (7, [.ref e0, .ref t, .ref k, .ref n, .ref j, .ref i0, .int kp, .ref b0, .ref s0, .ref q, .ref g])), (t, .inr (6, [.int ns, .int np, .int fu, .int fd, .int fi, .ref t1, .ref t2, .ref t3, .ref t4, .ref t5, .ref t6])), aI G t1 9 sz_, aI G t2 9 pt, aI G t3 9 fh, aI G t4 8 kd, aI G t5 8 nd, aI G t6 8 fw, (b0, .inr (0, [.ref b01, .ref b02, .int u.1])), aI G b01 30 u.2.1, aI G b02 30 u.2.2]) :=
  c_X7_write l G h0 t t1 t2 t3 t4 t5 t6 b0 b01 b02 sz e0 k n j i0 s0 q g kp ns np fu fd fi sz_ pt fh kd nd fw en bs bh x v (by
    sorry)

set_option maxHeartbeats 4000000 in
set_option maxRecDepth 100000 in
theorem c_X7_tear (l : Launch) (G : Gt) (h0 b0 b01 b02 : Nat) (sz : Nat) (e0 : Nat) (t : Nat) (k : Nat) (n : Nat) (j : Nat) (i0 : Nat) (s0 : Nat) (q : Nat) (g : Nat) (kp : Int32) (en : Int32) (bs : Nat → Int32) (bh : Nat → Int32) (hv : True) : MetI l yX7_tear wsX7_tear 0 0 G [.ref h0] [(h0, .inr (7, [.ref e0, .ref t, .ref k, .ref n, .ref j, .ref i0, .int kp, .ref b0, .ref s0, .ref q, .ref g])), (b0, .inr (0, [.ref b01, .ref b02, .int en])), aI G b01 30 bs, aI G b02 30 bh] sz (fun (r : Int32) (u : (Int32)) => True) (fun (u : (Int32)) => [(h0, .inr (7, [.ref e0, .ref t, .ref k, .ref n, .ref j, .ref i0, .int kp, .ref b0, .ref s0, .ref q, .ref g])), (b0, .inr (0, [.ref b01, .ref b02, .int u])), aI G b01 30 bs, aI G b02 30 bh]) := by
  refine x_startI (cc := cX7_tear) (maxL := 2) (ret := (some .int)) (by decide) rfl (Nat.le_of_ble_eq_true rfl) ?_
  intro p e s m args below meth c A R Q ls hRf hRl hQ C hP hD hS hA hSS hl
  obtain ⟨hx, hb, hr, hml, hown, hts, hlocks, hKK⟩ := C
  have hown : s.vm.findClass RX7 = some m.cls := hown
  have hl : lv_has ls 2 [(0, .ref h0)] := hl
  have hinX0 : ∀ w ∈ u_ws RX0 TX0 3, w ∈ wsX7_tear := by decide +kernel
  have hinX7 : ∀ w ∈ u_ws RX7 TX7 11, w ∈ wsX7_tear := by decide +kernel
  have kl43 := hts (.fieldLink RX7 43 "WarmStones" "book" "LWarmStones$Book;") (by decide +kernel)
  have kl94 := hts (.fieldLink RX7 94 "WarmStones$Book" "entries" "I") (by decide +kernel)
  refine lv_aload_n hx hb dX7_tear_0 rfl (lv_at hl 0 rfl) ?_
  refine va_get (D := G.1) (ci := 7) (v := .ref b0) (C := RX7) (T := TX7) (N := 11) hx hb hts hinX7 hown hKK.1 hP 0 rfl rfl 7 (by decide) kl43 (fun _ h9 => h9) rfl dX7_tear_1 ?_
  refine va_get (D := G.1) (ci := 0) (v := .int en) (C := RX0) (T := TX0) (N := 3) hx hb hts hinX0 hown hKK.1 hP 1 rfl rfl 2 (by decide) kl94 (fun _ h9 => h9) rfl dX7_tear_4 ?_
  refine lv_istore_n (lv' := [(1, .int en), (0, .ref h0)]) hx hb dX7_tear_7 rfl hl (by decide) rfl (fun ls hl => ?_)
  refine lv_aload_n hx hb dX7_tear_8 rfl (lv_at hl 1 rfl) ?_
  refine va_get (D := G.1) (ci := 7) (v := .ref b0) (C := RX7) (T := TX7) (N := 11) hx hb hts hinX7 hown hKK.1 hP 0 rfl rfl 7 (by decide) kl43 (fun _ h9 => h9) rfl dX7_tear_9 ?_
  refine lv_iconst (v := 0) hx hb dX7_tear_12 (by decide) ?_
  refine va_put (D := G.1) (ci := 0) (v := .int 0) (ty := .int) (C := RX0) (T := TX0) (N := 3) hx hb hts hinX0 tyX0 tyX0_ok nmX0 hown hKK.1 hP hD hS 1 rfl rfl 2 (by decide) kl94 (fun _ h9 => h9) rfl (by decide +kernel) rfl rfl (Nat.le_of_ble_eq_true rfl) dX7_tear_13 (fun H locs hP hD hS => ?_)
  have hP : va_P G.1 vwCl [(h0, .inr (7, [.ref e0, .ref t, .ref k, .ref n, .ref j, .ref i0, .int kp, .ref b0, .ref s0, .ref q, .ref g])), (b0, .inr (0, [.ref b01, .ref b02, .int 0])), aI G b01 30 bs, aI G b02 30 bh] H := hP
  have hD : va_D A [(h0, .inr (7, [.ref e0, .ref t, .ref k, .ref n, .ref j, .ref i0, .int kp, .ref b0, .ref s0, .ref q, .ref g])), (b0, .inr (0, [.ref b01, .ref b02, .int 0])), aI G b01 30 bs, aI G b02 30 bh] := hD
  refine lv_iload_n hx hb dX7_tear_16 rfl (lv_at hl 0 rfl) ?_
  exact x_iret (v := en) 0 hQ hx hb hr hlocks hS dX7_tear_17 hv hP hD
theorem k_X7_tear (l : Launch) (G : Gt) (h0 b0 b01 b02 : Nat) (sz : Nat) (e0 : Nat) (t : Nat) (k : Nat) (n : Nat) (j : Nat) (i0 : Nat) (s0 : Nat) (q : Nat) (g : Nat) (kp : Int32) (en : Int32) (bs : Nat → Int32) (bh : Nat → Int32) (hp : True) : MetI l yX7_tear wsX7_tear 0 0 G [.ref h0] [(h0, .inr (7, [.ref e0, .ref t, .ref k, .ref n, .ref j, .ref i0, .int kp, .ref b0, .ref s0, .ref q, .ref g])), (b0, .inr (0, [.ref b01, .ref b02, .int en])), aI G b01 30 bs, aI G b02 30 bh] sz (fun (r : Int32) (u : (Int32)) => True) (fun (u : (Int32)) => [(h0, .inr (7, [.ref e0, .ref t, .ref k, .ref n, .ref j, .ref i0, .int kp, .ref b0, .ref s0, .ref q, .ref g])), (b0, .inr (0, [.ref b01, .ref b02, .int u])), aI G b01 30 bs, aI G b02 30 bh]) :=
  c_X7_tear l G h0 b0 b01 b02 sz e0 t k n j i0 s0 q g kp en bs bh (by
    sorry)

set_option maxHeartbeats 4000000 in
set_option maxRecDepth 100000 in
theorem c_X7_judge (l : Launch) (G : Gt) (h0 t t1 t2 t3 t4 t5 t6 n n1 n2 n3 n4 n5 n6 n7 j j1 j2 j3 j4 j5 j6 j7 b0 b01 b02 : Nat) (sz : Nat) (e0 : Nat) (k : Nat) (i0 : Nat) (s0 : Nat) (q : Nat) (g : Nat) (kp : Int32) (ns : Int32) (np : Int32) (fu : Int32) (fd : Int32) (fi : Int32) (sz_ : Nat → Int32) (pt : Nat → Int32) (fh : Nat → Int32) (kd : Nat → Int32) (nd : Nat → Int32) (fw : Nat → Int32) (ht : Nat → Int32) (wm : Nat → Int32) (se : Nat → Int32) (cd : Nat → Int32) (sl : Nat → Int32) (od : Nat → Int32) (ow : Nat → Int32) (lo : Int32) (mi : Int32) (sd : Int32) (htj : Nat → Int32) (wmj : Nat → Int32) (sej : Nat → Int32) (cdj : Nat → Int32) (slj : Nat → Int32) (odj : Nat → Int32) (owj : Nat → Int32) (loj : Int32) (mij : Int32) (sdj : Int32) (en : Int32) (bs : Nat → Int32) (bh : Nat → Int32) (hv : ∀ (ht2_2 : Nat → Int32) (wm2_3 : Nat → Int32) (se2_4 : Nat → Int32) (cd2_5 : Nat → Int32) (sl2_6 : Nat → Int32) (od2_7 : Nat → Int32) (ow2_8 : Nat → Int32) (lo2_9 : Int32) (mi2_10 : Int32) (sd2_11 : Int32), (True) → ((True) ∧ (∀ (r_12 : Int32) (ht2_13 : Nat → Int32) (wm2_14 : Nat → Int32) (cd2_15 : Nat → Int32) (sl2_16 : Nat → Int32) (od2_17 : Nat → Int32) (ow2_18 : Nat → Int32) (lo2_19 : Int32) (mi2_20 : Int32), (True) → (True)))) : MetI l yX7_judge wsX7_judge 5 118 G [.ref h0] [(h0, .inr (7, [.ref e0, .ref t, .ref k, .ref n, .ref j, .ref i0, .int kp, .ref b0, .ref s0, .ref q, .ref g])), (t, .inr (6, [.int ns, .int np, .int fu, .int fd, .int fi, .ref t1, .ref t2, .ref t3, .ref t4, .ref t5, .ref t6])), aI G t1 9 sz_, aI G t2 9 pt, aI G t3 9 fh, aI G t4 8 kd, aI G t5 8 nd, aI G t6 8 fw, (n, .inr (1, [.ref n1, .ref n2, .ref n3, .ref n4, .ref n5, .ref n6, .ref n7, .int lo, .int mi, .int sd])), aI G n1 9 ht, aI G n2 8 wm, aI G n3 8 se, aI G n4 8 cd, aI G n5 8 sl, aI G n6 8 od, aI G n7 72 ow, (j, .inr (1, [.ref j1, .ref j2, .ref j3, .ref j4, .ref j5, .ref j6, .ref j7, .int loj, .int mij, .int sdj])), aI G j1 9 htj, aI G j2 8 wmj, aI G j3 8 sej, aI G j4 8 cdj, aI G j5 8 slj, aI G j6 8 odj, aI G j7 72 owj, (b0, .inr (0, [.ref b01, .ref b02, .int en])), aI G b01 30 bs, aI G b02 30 bh] sz (fun (r : Int32) (u : (Nat → Int32) × (Nat → Int32) × (Nat → Int32) × (Nat → Int32) × (Nat → Int32) × (Nat → Int32) × (Nat → Int32) × (Int32) × (Int32) × (Int32)) => True) (fun (u : (Nat → Int32) × (Nat → Int32) × (Nat → Int32) × (Nat → Int32) × (Nat → Int32) × (Nat → Int32) × (Nat → Int32) × (Int32) × (Int32) × (Int32)) => [(h0, .inr (7, [.ref e0, .ref t, .ref k, .ref n, .ref j, .ref i0, .int kp, .ref b0, .ref s0, .ref q, .ref g])), (t, .inr (6, [.int ns, .int np, .int fu, .int fd, .int fi, .ref t1, .ref t2, .ref t3, .ref t4, .ref t5, .ref t6])), aI G t1 9 sz_, aI G t2 9 pt, aI G t3 9 fh, aI G t4 8 kd, aI G t5 8 nd, aI G t6 8 fw, (n, .inr (1, [.ref n1, .ref n2, .ref n3, .ref n4, .ref n5, .ref n6, .ref n7, .int lo, .int mi, .int sd])), aI G n1 9 ht, aI G n2 8 wm, aI G n3 8 se, aI G n4 8 cd, aI G n5 8 sl, aI G n6 8 od, aI G n7 72 ow, (j, .inr (1, [.ref j1, .ref j2, .ref j3, .ref j4, .ref j5, .ref j6, .ref j7, .int u.2.2.2.2.2.2.2.1, .int u.2.2.2.2.2.2.2.2.1, .int u.2.2.2.2.2.2.2.2.2])), aI G j1 9 u.1, aI G j2 8 u.2.1, aI G j3 8 u.2.2.1, aI G j4 8 u.2.2.2.1, aI G j5 8 u.2.2.2.2.1, aI G j6 8 u.2.2.2.2.2.1, aI G j7 72 u.2.2.2.2.2.2.1, (b0, .inr (0, [.ref b01, .ref b02, .int en])), aI G b01 30 bs, aI G b02 30 bh]) := by
  refine x_startI (cc := cX7_judge) (maxL := 1) (ret := (some .int)) (by decide) rfl (Nat.le_of_ble_eq_true rfl) ?_
  intro p e s m args below meth c A R Q ls hRf hRl hQ C hP hD hS hA hSS hl
  obtain ⟨hx, hb, hr, hml, hown, hts, hlocks, hKK⟩ := C
  have hown : s.vm.findClass RX7 = some m.cls := hown
  have hl : lv_has ls 1 [(0, .ref h0)] := hl
  have hinX7 : ∀ w ∈ u_ws RX7 TX7 11, w ∈ wsX7_judge := by decide +kernel
  have kl19 := hts (.fieldLink RX7 19 "WarmStones" "town" "LWarmStones$Town;") (by decide +kernel)
  have kl29 := hts (.fieldLink RX7 29 "WarmStones" "night" "LWarmStones$Night;") (by decide +kernel)
  have kl33 := hts (.fieldLink RX7 33 "WarmStones" "trial" "LWarmStones$Night;") (by decide +kernel)
  have kl43 := hts (.fieldLink RX7 43 "WarmStones" "book" "LWarmStones$Book;") (by decide +kernel)
  refine lv_aload_n hx hb dX7_judge_0 rfl (lv_at hl 0 rfl) ?_
  refine va_get (D := G.1) (ci := 7) (v := .ref j) (C := RX7) (T := TX7) (N := 11) hx hb hts hinX7 hown hKK.1 hP 0 rfl rfl 4 (by decide) kl33 (fun _ h9 => h9) rfl dX7_judge_1 ?_
  refine lv_aload_n hx hb dX7_judge_4 rfl (lv_at hl 0 rfl) ?_
  refine va_get (D := G.1) (ci := 7) (v := .ref n) (C := RX7) (T := TX7) (N := 11) hx hb hts hinX7 hown hKK.1 hP 0 rfl rfl 3 (by decide) kl29 (fun _ h9 => h9) rfl dX7_judge_5 ?_
  refine x_callv (wr := [(h0, .inr (7, [.ref e0, .ref t, .ref k, .ref n, .ref j, .ref i0, .int kp, .ref b0, .ref s0, .ref q, .ref g])), (t, .inr (6, [.int ns, .int np, .int fu, .int fd, .int fi, .ref t1, .ref t2, .ref t3, .ref t4, .ref t5, .ref t6])), aI G t1 9 sz_, aI G t2 9 pt, aI G t3 9 fh, aI G t4 8 kd, aI G t5 8 nd, aI G t6 8 fw, (b0, .inr (0, [.ref b01, .ref b02, .int en])), aI G b01 30 bs, aI G b02 30 bh]) (w' := fun (u : (Nat → Int32) × (Nat → Int32) × (Nat → Int32) × (Nat → Int32) × (Nat → Int32) × (Nat → Int32) × (Nat → Int32) × (Int32) × (Int32) × (Int32)) => [(h0, .inr (7, [.ref e0, .ref t, .ref k, .ref n, .ref j, .ref i0, .int kp, .ref b0, .ref s0, .ref q, .ref g])), (t, .inr (6, [.int ns, .int np, .int fu, .int fd, .int fi, .ref t1, .ref t2, .ref t3, .ref t4, .ref t5, .ref t6])), aI G t1 9 sz_, aI G t2 9 pt, aI G t3 9 fh, aI G t4 8 kd, aI G t5 8 nd, aI G t6 8 fw, (n, .inr (1, [.ref n1, .ref n2, .ref n3, .ref n4, .ref n5, .ref n6, .ref n7, .int lo, .int mi, .int sd])), aI G n1 9 ht, aI G n2 8 wm, aI G n3 8 se, aI G n4 8 cd, aI G n5 8 sl, aI G n6 8 od, aI G n7 72 ow, (j, .inr (1, [.ref j1, .ref j2, .ref j3, .ref j4, .ref j5, .ref j6, .ref j7, .int u.2.2.2.2.2.2.2.1, .int u.2.2.2.2.2.2.2.2.1, .int u.2.2.2.2.2.2.2.2.2])), aI G j1 9 u.1, aI G j2 8 u.2.1, aI G j3 8 u.2.2.1, aI G j4 8 u.2.2.2.1, aI G j5 8 u.2.2.2.2.1, aI G j6 8 u.2.2.2.2.2.1, aI G j7 72 u.2.2.2.2.2.2.1, (b0, .inr (0, [.ref b01, .ref b02, .int en])), aI G b01 30 bs, aI G b02 30 bh]) (x_runV (As := [.ref n]) (rest := []) (n := 1) (C := RX1) (ci := 1) ⟨hx, hb, hml, hown, hts⟩ (k_X1_copyFrom l G j j1 j2 j3 j4 j5 j6 j7 n n1 n2 n3 n4 n5 n6 n7 _ htj wmj sej cdj slj odj owj loj mij sdj ht wm se cd sl od ow lo mi sd) gX7_judge_X1_copyFrom rfl (by decide +kernel) ⟨Nat.le_trans (Nat.le_of_ble_eq_true rfl) hRf, Nat.le_trans (Nat.le_of_ble_eq_true rfl) hRl⟩ hKK hSS hS hA hP hD [16, 17, 18, 19, 20, 21, 22, 23, 8, 9, 10, 11, 12, 13, 14, 15] (by decide) rfl rfl rfl 16 rfl rfl hl.1 rfl (Nat.le_of_ble_eq_true rfl) dX7_judge_8) hP hD hS hA [16, 17, 18, 19, 20, 21, 22, 23, 8, 9, 10, 11, 12, 13, 14, 15] [0, 1, 2, 3, 4, 5, 6, 7, 24, 25, 26] [0, 1, 2, 3, 4, 5, 6, 7, 19, 20, 21, 22, 23, 24, 25, 26, 11, 12, 13, 14, 15, 16, 17, 18, 8, 9, 10] rfl rfl (by decide) (by decide) (by decide) (fun _ => rfl) (fun  u H locs hw hP hD hS => ?_)
  obtain ⟨ht2_2, wm2_3, se2_4, cd2_5, sl2_6, od2_7, ow2_8, lo2_9, mi2_10, sd2_11⟩ := u
  have hP : va_P G.1 vwCl [(h0, .inr (7, [.ref e0, .ref t, .ref k, .ref n, .ref j, .ref i0, .int kp, .ref b0, .ref s0, .ref q, .ref g])), (t, .inr (6, [.int ns, .int np, .int fu, .int fd, .int fi, .ref t1, .ref t2, .ref t3, .ref t4, .ref t5, .ref t6])), aI G t1 9 sz_, aI G t2 9 pt, aI G t3 9 fh, aI G t4 8 kd, aI G t5 8 nd, aI G t6 8 fw, (n, .inr (1, [.ref n1, .ref n2, .ref n3, .ref n4, .ref n5, .ref n6, .ref n7, .int lo, .int mi, .int sd])), aI G n1 9 ht, aI G n2 8 wm, aI G n3 8 se, aI G n4 8 cd, aI G n5 8 sl, aI G n6 8 od, aI G n7 72 ow, (j, .inr (1, [.ref j1, .ref j2, .ref j3, .ref j4, .ref j5, .ref j6, .ref j7, .int lo2_9, .int mi2_10, .int sd2_11])), aI G j1 9 ht2_2, aI G j2 8 wm2_3, aI G j3 8 se2_4, aI G j4 8 cd2_5, aI G j5 8 sl2_6, aI G j6 8 od2_7, aI G j7 72 ow2_8, (b0, .inr (0, [.ref b01, .ref b02, .int en])), aI G b01 30 bs, aI G b02 30 bh] H := hP
  have hD : va_D A [(h0, .inr (7, [.ref e0, .ref t, .ref k, .ref n, .ref j, .ref i0, .int kp, .ref b0, .ref s0, .ref q, .ref g])), (t, .inr (6, [.int ns, .int np, .int fu, .int fd, .int fi, .ref t1, .ref t2, .ref t3, .ref t4, .ref t5, .ref t6])), aI G t1 9 sz_, aI G t2 9 pt, aI G t3 9 fh, aI G t4 8 kd, aI G t5 8 nd, aI G t6 8 fw, (n, .inr (1, [.ref n1, .ref n2, .ref n3, .ref n4, .ref n5, .ref n6, .ref n7, .int lo, .int mi, .int sd])), aI G n1 9 ht, aI G n2 8 wm, aI G n3 8 se, aI G n4 8 cd, aI G n5 8 sl, aI G n6 8 od, aI G n7 72 ow, (j, .inr (1, [.ref j1, .ref j2, .ref j3, .ref j4, .ref j5, .ref j6, .ref j7, .int lo2_9, .int mi2_10, .int sd2_11])), aI G j1 9 ht2_2, aI G j2 8 wm2_3, aI G j3 8 se2_4, aI G j4 8 cd2_5, aI G j5 8 sl2_6, aI G j6 8 od2_7, aI G j7 72 ow2_8, (b0, .inr (0, [.ref b01, .ref b02, .int en])), aI G b01 30 bs, aI G b02 30 bh] := hD
  have hv := hv ht2_2 wm2_3 se2_4 cd2_5 sl2_6 od2_7 ow2_8 lo2_9 mi2_10 sd2_11 hw
  refine lv_aload_n hx hb dX7_judge_11 rfl (lv_at hl 0 rfl) ?_
  refine va_get (D := G.1) (ci := 7) (v := .ref b0) (C := RX7) (T := TX7) (N := 11) hx hb hts hinX7 hown hKK.1 hP 0 rfl rfl 7 (by decide) kl43 (fun _ h9 => h9) rfl dX7_judge_12 ?_
  refine lv_aload_n hx hb dX7_judge_15 rfl (lv_at hl 0 rfl) ?_
  refine va_get (D := G.1) (ci := 7) (v := .ref t) (C := RX7) (T := TX7) (N := 11) hx hb hts hinX7 hown hKK.1 hP 0 rfl rfl 1 (by decide) kl19 (fun _ h9 => h9) rfl dX7_judge_16 ?_
  refine lv_aload_n hx hb dX7_judge_19 rfl (lv_at hl 0 rfl) ?_
  refine va_get (D := G.1) (ci := 7) (v := .ref j) (C := RX7) (T := TX7) (N := 11) hx hb hts hinX7 hown hKK.1 hP 0 rfl rfl 4 (by decide) kl33 (fun _ h9 => h9) rfl dX7_judge_20 ?_
  obtain ⟨hp, hv⟩ := hv
  refine x_calli (wr := [(h0, .inr (7, [.ref e0, .ref t, .ref k, .ref n, .ref j, .ref i0, .int kp, .ref b0, .ref s0, .ref q, .ref g])), (n, .inr (1, [.ref n1, .ref n2, .ref n3, .ref n4, .ref n5, .ref n6, .ref n7, .int lo, .int mi, .int sd])), aI G n1 9 ht, aI G n2 8 wm, aI G n3 8 se, aI G n4 8 cd, aI G n5 8 sl, aI G n6 8 od, aI G n7 72 ow]) (w' := fun (u : (Nat → Int32) × (Nat → Int32) × (Nat → Int32) × (Nat → Int32) × (Nat → Int32) × (Nat → Int32) × (Int32) × (Int32)) => [(h0, .inr (7, [.ref e0, .ref t, .ref k, .ref n, .ref j, .ref i0, .int kp, .ref b0, .ref s0, .ref q, .ref g])), (t, .inr (6, [.int ns, .int np, .int fu, .int fd, .int fi, .ref t1, .ref t2, .ref t3, .ref t4, .ref t5, .ref t6])), aI G t1 9 sz_, aI G t2 9 pt, aI G t3 9 fh, aI G t4 8 kd, aI G t5 8 nd, aI G t6 8 fw, (n, .inr (1, [.ref n1, .ref n2, .ref n3, .ref n4, .ref n5, .ref n6, .ref n7, .int lo, .int mi, .int sd])), aI G n1 9 ht, aI G n2 8 wm, aI G n3 8 se, aI G n4 8 cd, aI G n5 8 sl, aI G n6 8 od, aI G n7 72 ow, (j, .inr (1, [.ref j1, .ref j2, .ref j3, .ref j4, .ref j5, .ref j6, .ref j7, .int u.2.2.2.2.2.2.1, .int u.2.2.2.2.2.2.2, .int sd2_11])), aI G j1 9 u.1, aI G j2 8 u.2.1, aI G j3 8 se2_4, aI G j4 8 u.2.2.1, aI G j5 8 u.2.2.2.1, aI G j6 8 u.2.2.2.2.1, aI G j7 72 u.2.2.2.2.2.1, (b0, .inr (0, [.ref b01, .ref b02, .int en])), aI G b01 30 bs, aI G b02 30 bh]) (x_runV (As := [.ref t, .ref j]) (rest := []) (n := 2) (C := RX0) (ci := 0) ⟨hx, hb, hml, hown, hts⟩ (k_X0_firstWrong l G b0 b01 b02 t t1 t2 t3 t4 t5 t6 j j1 j2 j3 j4 j5 j6 j7 _ en bs bh ns np fu fd fi sz_ pt fh kd nd fw ht2_2 wm2_3 se2_4 cd2_5 sl2_6 od2_7 ow2_8 lo2_9 mi2_10 sd2_11 hp) gX7_judge_X0_firstWrong rfl (by decide +kernel) ⟨Nat.le_trans (Nat.le_of_ble_eq_true rfl) hRf, Nat.le_trans (Nat.le_of_ble_eq_true rfl) hRl⟩ hKK hSS hS hA hP hD [24, 25, 26, 1, 2, 3, 4, 5, 6, 7, 16, 17, 18, 19, 20, 21, 22, 23] (by decide) rfl rfl rfl 24 rfl rfl hl.1 rfl (Nat.le_of_ble_eq_true rfl) dX7_judge_23) hP hD hS hA [24, 25, 26, 1, 2, 3, 4, 5, 6, 7, 16, 17, 18, 19, 20, 21, 22, 23] [0, 8, 9, 10, 11, 12, 13, 14, 15] [0, 12, 13, 14, 15, 16, 17, 18, 1, 2, 3, 4, 5, 6, 7, 8, 19, 20, 21, 22, 23, 24, 25, 26, 9, 10, 11] rfl rfl (by decide) (by decide) (by decide) (fun _ => rfl) (fun r_12 u H locs hw hP hD hS => ?_)
  obtain ⟨ht2_13, wm2_14, cd2_15, sl2_16, od2_17, ow2_18, lo2_19, mi2_20⟩ := u
  have hP : va_P G.1 vwCl [(h0, .inr (7, [.ref e0, .ref t, .ref k, .ref n, .ref j, .ref i0, .int kp, .ref b0, .ref s0, .ref q, .ref g])), (t, .inr (6, [.int ns, .int np, .int fu, .int fd, .int fi, .ref t1, .ref t2, .ref t3, .ref t4, .ref t5, .ref t6])), aI G t1 9 sz_, aI G t2 9 pt, aI G t3 9 fh, aI G t4 8 kd, aI G t5 8 nd, aI G t6 8 fw, (n, .inr (1, [.ref n1, .ref n2, .ref n3, .ref n4, .ref n5, .ref n6, .ref n7, .int lo, .int mi, .int sd])), aI G n1 9 ht, aI G n2 8 wm, aI G n3 8 se, aI G n4 8 cd, aI G n5 8 sl, aI G n6 8 od, aI G n7 72 ow, (j, .inr (1, [.ref j1, .ref j2, .ref j3, .ref j4, .ref j5, .ref j6, .ref j7, .int lo2_19, .int mi2_20, .int sd2_11])), aI G j1 9 ht2_13, aI G j2 8 wm2_14, aI G j3 8 se2_4, aI G j4 8 cd2_15, aI G j5 8 sl2_16, aI G j6 8 od2_17, aI G j7 72 ow2_18, (b0, .inr (0, [.ref b01, .ref b02, .int en])), aI G b01 30 bs, aI G b02 30 bh] H := hP
  have hD : va_D A [(h0, .inr (7, [.ref e0, .ref t, .ref k, .ref n, .ref j, .ref i0, .int kp, .ref b0, .ref s0, .ref q, .ref g])), (t, .inr (6, [.int ns, .int np, .int fu, .int fd, .int fi, .ref t1, .ref t2, .ref t3, .ref t4, .ref t5, .ref t6])), aI G t1 9 sz_, aI G t2 9 pt, aI G t3 9 fh, aI G t4 8 kd, aI G t5 8 nd, aI G t6 8 fw, (n, .inr (1, [.ref n1, .ref n2, .ref n3, .ref n4, .ref n5, .ref n6, .ref n7, .int lo, .int mi, .int sd])), aI G n1 9 ht, aI G n2 8 wm, aI G n3 8 se, aI G n4 8 cd, aI G n5 8 sl, aI G n6 8 od, aI G n7 72 ow, (j, .inr (1, [.ref j1, .ref j2, .ref j3, .ref j4, .ref j5, .ref j6, .ref j7, .int lo2_19, .int mi2_20, .int sd2_11])), aI G j1 9 ht2_13, aI G j2 8 wm2_14, aI G j3 8 se2_4, aI G j4 8 cd2_15, aI G j5 8 sl2_16, aI G j6 8 od2_17, aI G j7 72 ow2_18, (b0, .inr (0, [.ref b01, .ref b02, .int en])), aI G b01 30 bs, aI G b02 30 bh] := hD
  have hv := hv r_12 ht2_13 wm2_14 cd2_15 sl2_16 od2_17 ow2_18 lo2_19 mi2_20 hw
  exact x_iret (v := r_12) (ht2_13, wm2_14, se2_4, cd2_15, sl2_16, od2_17, ow2_18, lo2_19, mi2_20, sd2_11) hQ hx hb hr hlocks hS dX7_judge_26 hv hP hD
theorem k_X7_judge (l : Launch) (G : Gt) (h0 t t1 t2 t3 t4 t5 t6 n n1 n2 n3 n4 n5 n6 n7 j j1 j2 j3 j4 j5 j6 j7 b0 b01 b02 : Nat) (sz : Nat) (e0 : Nat) (k : Nat) (i0 : Nat) (s0 : Nat) (q : Nat) (g : Nat) (kp : Int32) (ns : Int32) (np : Int32) (fu : Int32) (fd : Int32) (fi : Int32) (sz_ : Nat → Int32) (pt : Nat → Int32) (fh : Nat → Int32) (kd : Nat → Int32) (nd : Nat → Int32) (fw : Nat → Int32) (ht : Nat → Int32) (wm : Nat → Int32) (se : Nat → Int32) (cd : Nat → Int32) (sl : Nat → Int32) (od : Nat → Int32) (ow : Nat → Int32) (lo : Int32) (mi : Int32) (sd : Int32) (htj : Nat → Int32) (wmj : Nat → Int32) (sej : Nat → Int32) (cdj : Nat → Int32) (slj : Nat → Int32) (odj : Nat → Int32) (owj : Nat → Int32) (loj : Int32) (mij : Int32) (sdj : Int32) (en : Int32) (bs : Nat → Int32) (bh : Nat → Int32) (hp : True) : MetI l yX7_judge wsX7_judge 5 118 G [.ref h0] [(h0, .inr (7, [.ref e0, .ref t, .ref k, .ref n, .ref j, .ref i0, .int kp, .ref b0, .ref s0, .ref q, .ref g])), (t, .inr (6, [.int ns, .int np, .int fu, .int fd, .int fi, .ref t1, .ref t2, .ref t3, .ref t4, .ref t5, .ref t6])), aI G t1 9 sz_, aI G t2 9 pt, aI G t3 9 fh, aI G t4 8 kd, aI G t5 8 nd, aI G t6 8 fw, (n, .inr (1, [.ref n1, .ref n2, .ref n3, .ref n4, .ref n5, .ref n6, .ref n7, .int lo, .int mi, .int sd])), aI G n1 9 ht, aI G n2 8 wm, aI G n3 8 se, aI G n4 8 cd, aI G n5 8 sl, aI G n6 8 od, aI G n7 72 ow, (j, .inr (1, [.ref j1, .ref j2, .ref j3, .ref j4, .ref j5, .ref j6, .ref j7, .int loj, .int mij, .int sdj])), aI G j1 9 htj, aI G j2 8 wmj, aI G j3 8 sej, aI G j4 8 cdj, aI G j5 8 slj, aI G j6 8 odj, aI G j7 72 owj, (b0, .inr (0, [.ref b01, .ref b02, .int en])), aI G b01 30 bs, aI G b02 30 bh] sz (fun (r : Int32) (u : (Nat → Int32) × (Nat → Int32) × (Nat → Int32) × (Nat → Int32) × (Nat → Int32) × (Nat → Int32) × (Nat → Int32) × (Int32) × (Int32) × (Int32)) => True) (fun (u : (Nat → Int32) × (Nat → Int32) × (Nat → Int32) × (Nat → Int32) × (Nat → Int32) × (Nat → Int32) × (Nat → Int32) × (Int32) × (Int32) × (Int32)) => [(h0, .inr (7, [.ref e0, .ref t, .ref k, .ref n, .ref j, .ref i0, .int kp, .ref b0, .ref s0, .ref q, .ref g])), (t, .inr (6, [.int ns, .int np, .int fu, .int fd, .int fi, .ref t1, .ref t2, .ref t3, .ref t4, .ref t5, .ref t6])), aI G t1 9 sz_, aI G t2 9 pt, aI G t3 9 fh, aI G t4 8 kd, aI G t5 8 nd, aI G t6 8 fw, (n, .inr (1, [.ref n1, .ref n2, .ref n3, .ref n4, .ref n5, .ref n6, .ref n7, .int lo, .int mi, .int sd])), aI G n1 9 ht, aI G n2 8 wm, aI G n3 8 se, aI G n4 8 cd, aI G n5 8 sl, aI G n6 8 od, aI G n7 72 ow, (j, .inr (1, [.ref j1, .ref j2, .ref j3, .ref j4, .ref j5, .ref j6, .ref j7, .int u.2.2.2.2.2.2.2.1, .int u.2.2.2.2.2.2.2.2.1, .int u.2.2.2.2.2.2.2.2.2])), aI G j1 9 u.1, aI G j2 8 u.2.1, aI G j3 8 u.2.2.1, aI G j4 8 u.2.2.2.1, aI G j5 8 u.2.2.2.2.1, aI G j6 8 u.2.2.2.2.2.1, aI G j7 72 u.2.2.2.2.2.2.1, (b0, .inr (0, [.ref b01, .ref b02, .int en])), aI G b01 30 bs, aI G b02 30 bh]) :=
  c_X7_judge l G h0 t t1 t2 t3 t4 t5 t6 n n1 n2 n3 n4 n5 n6 n7 j j1 j2 j3 j4 j5 j6 j7 b0 b01 b02 sz e0 k i0 s0 q g kp ns np fu fd fi sz_ pt fh kd nd fw ht wm se cd sl od ow lo mi sd htj wmj sej cdj slj odj owj loj mij sdj en bs bh (by
    sorry)

set_option maxHeartbeats 4000000 in
set_option maxRecDepth 100000 in
theorem c_X7_seed (l : Launch) (G : Gt) (h0 n n1 n2 n3 n4 n5 n6 n7 : Nat) (sz : Nat) (e0 : Nat) (t : Nat) (k : Nat) (j : Nat) (i0 : Nat) (b0 : Nat) (s0 : Nat) (q : Nat) (g : Nat) (kp : Int32) (ht : Nat → Int32) (wm : Nat → Int32) (se : Nat → Int32) (cd : Nat → Int32) (sl : Nat → Int32) (od : Nat → Int32) (ow : Nat → Int32) (lo : Int32) (mi : Int32) (sd : Int32) (x : Int32) (hv : (0 ≤ x → True) ∧ (¬ (0 ≤ x) → True)) : MetI l yX7_seed wsX7_seed 0 0 G [.ref h0, .int x] [(h0, .inr (7, [.ref e0, .ref t, .ref k, .ref n, .ref j, .ref i0, .int kp, .ref b0, .ref s0, .ref q, .ref g])), (n, .inr (1, [.ref n1, .ref n2, .ref n3, .ref n4, .ref n5, .ref n6, .ref n7, .int lo, .int mi, .int sd])), aI G n1 9 ht, aI G n2 8 wm, aI G n3 8 se, aI G n4 8 cd, aI G n5 8 sl, aI G n6 8 od, aI G n7 72 ow] sz (fun (r : Int32) (u : (Int32)) => True) (fun (u : (Int32)) => [(h0, .inr (7, [.ref e0, .ref t, .ref k, .ref n, .ref j, .ref i0, .int kp, .ref b0, .ref s0, .ref q, .ref g])), (n, .inr (1, [.ref n1, .ref n2, .ref n3, .ref n4, .ref n5, .ref n6, .ref n7, .int lo, .int mi, .int u])), aI G n1 9 ht, aI G n2 8 wm, aI G n3 8 se, aI G n4 8 cd, aI G n5 8 sl, aI G n6 8 od, aI G n7 72 ow]) := by
  refine x_startI (cc := cX7_seed) (maxL := 3) (ret := (some .int)) (by decide) rfl (Nat.le_of_ble_eq_true rfl) ?_
  intro p e s m args below meth c A R Q ls hRf hRl hQ C hP hD hS hA hSS hl
  obtain ⟨hx, hb, hr, hml, hown, hts, hlocks, hKK⟩ := C
  have hown : s.vm.findClass RX7 = some m.cls := hown
  have hl : lv_has ls 3 [(0, .ref h0), (1, .int x)] := hl
  have hinX1 : ∀ w ∈ u_ws RX1 TX1 10, w ∈ wsX7_seed := by decide +kernel
  have hinX7 : ∀ w ∈ u_ws RX7 TX7 11, w ∈ wsX7_seed := by decide +kernel
  have kl236 := hts (.fieldLink RX7 236 "WarmStones$Night" "seed" "I") (by decide +kernel)
  have kl29 := hts (.fieldLink RX7 29 "WarmStones" "night" "LWarmStones$Night;") (by decide +kernel)
  have kl72 := hts (.constant RX7 72 (-1000000002)) (by decide +kernel)
  refine lv_iload_n hx hb dX7_seed_0 rfl (lv_at hl 1 rfl) ?_
  refine lv_if_ge (tgt := 7) hx hb dX7_seed_1 (by decide) (fun hc_1 => ?_) (fun hc_1 => ?_)
  · have hv := hv.1 hc_1
    refine lv_aload_n hx hb dX7_seed_7 rfl (lv_at hl 0 rfl) ?_
    refine va_get (D := G.1) (ci := 7) (v := .ref n) (C := RX7) (T := TX7) (N := 11) hx hb hts hinX7 hown hKK.1 hP 0 rfl rfl 3 (by decide) kl29 (fun _ h9 => h9) rfl dX7_seed_8 ?_
    refine va_get (D := G.1) (ci := 1) (v := .int sd) (C := RX1) (T := TX1) (N := 10) hx hb hts hinX1 hown hKK.1 hP 1 rfl rfl 9 (by decide) kl236 (fun _ h9 => h9) rfl dX7_seed_11 ?_
    refine lv_istore_n (lv' := [(2, .int sd), (0, .ref h0), (1, .int x)]) hx hb dX7_seed_14 rfl hl (by decide) rfl (fun ls hl => ?_)
    refine lv_aload_n hx hb dX7_seed_15 rfl (lv_at hl 1 rfl) ?_
    refine va_get (D := G.1) (ci := 7) (v := .ref n) (C := RX7) (T := TX7) (N := 11) hx hb hts hinX7 hown hKK.1 hP 0 rfl rfl 3 (by decide) kl29 (fun _ h9 => h9) rfl dX7_seed_16 ?_
    refine lv_iload_n hx hb dX7_seed_19 rfl (lv_at hl 2 rfl) ?_
    refine va_put (D := G.1) (ci := 1) (v := .int x) (ty := .int) (C := RX1) (T := TX1) (N := 10) hx hb hts hinX1 tyX1 tyX1_ok nmX1 hown hKK.1 hP hD hS 1 rfl rfl 9 (by decide) kl236 (fun _ h9 => h9) rfl (by decide +kernel) rfl rfl (Nat.le_of_ble_eq_true rfl) dX7_seed_20 (fun H locs hP hD hS => ?_)
    have hP : va_P G.1 vwCl [(h0, .inr (7, [.ref e0, .ref t, .ref k, .ref n, .ref j, .ref i0, .int kp, .ref b0, .ref s0, .ref q, .ref g])), (n, .inr (1, [.ref n1, .ref n2, .ref n3, .ref n4, .ref n5, .ref n6, .ref n7, .int lo, .int mi, .int x])), aI G n1 9 ht, aI G n2 8 wm, aI G n3 8 se, aI G n4 8 cd, aI G n5 8 sl, aI G n6 8 od, aI G n7 72 ow] H := hP
    have hD : va_D A [(h0, .inr (7, [.ref e0, .ref t, .ref k, .ref n, .ref j, .ref i0, .int kp, .ref b0, .ref s0, .ref q, .ref g])), (n, .inr (1, [.ref n1, .ref n2, .ref n3, .ref n4, .ref n5, .ref n6, .ref n7, .int lo, .int mi, .int x])), aI G n1 9 ht, aI G n2 8 wm, aI G n3 8 se, aI G n4 8 cd, aI G n5 8 sl, aI G n6 8 od, aI G n7 72 ow] := hD
    refine lv_iload_n hx hb dX7_seed_23 rfl (lv_at hl 0 rfl) ?_
    exact x_iret (v := sd) x hQ hx hb hr hlocks hS dX7_seed_24 hv hP hD
  · have hv := hv.2 hc_1
    refine lv_ldc (v := (-1000000002)) hx hb hown kl72 dX7_seed_4 ?_
    exact x_iret (v := (-1000000002)) sd hQ hx hb hr hlocks hS dX7_seed_6 hv hP hD
theorem k_X7_seed (l : Launch) (G : Gt) (h0 n n1 n2 n3 n4 n5 n6 n7 : Nat) (sz : Nat) (e0 : Nat) (t : Nat) (k : Nat) (j : Nat) (i0 : Nat) (b0 : Nat) (s0 : Nat) (q : Nat) (g : Nat) (kp : Int32) (ht : Nat → Int32) (wm : Nat → Int32) (se : Nat → Int32) (cd : Nat → Int32) (sl : Nat → Int32) (od : Nat → Int32) (ow : Nat → Int32) (lo : Int32) (mi : Int32) (sd : Int32) (x : Int32) (hp : True) : MetI l yX7_seed wsX7_seed 0 0 G [.ref h0, .int x] [(h0, .inr (7, [.ref e0, .ref t, .ref k, .ref n, .ref j, .ref i0, .int kp, .ref b0, .ref s0, .ref q, .ref g])), (n, .inr (1, [.ref n1, .ref n2, .ref n3, .ref n4, .ref n5, .ref n6, .ref n7, .int lo, .int mi, .int sd])), aI G n1 9 ht, aI G n2 8 wm, aI G n3 8 se, aI G n4 8 cd, aI G n5 8 sl, aI G n6 8 od, aI G n7 72 ow] sz (fun (r : Int32) (u : (Int32)) => True) (fun (u : (Int32)) => [(h0, .inr (7, [.ref e0, .ref t, .ref k, .ref n, .ref j, .ref i0, .int kp, .ref b0, .ref s0, .ref q, .ref g])), (n, .inr (1, [.ref n1, .ref n2, .ref n3, .ref n4, .ref n5, .ref n6, .ref n7, .int lo, .int mi, .int u])), aI G n1 9 ht, aI G n2 8 wm, aI G n3 8 se, aI G n4 8 cd, aI G n5 8 sl, aI G n6 8 od, aI G n7 72 ow]) :=
  c_X7_seed l G h0 n n1 n2 n3 n4 n5 n6 n7 sz e0 t k j i0 b0 s0 q g kp ht wm se cd sl od ow lo mi sd x (by
    sorry)

set_option maxHeartbeats 4000000 in
set_option maxRecDepth 100000 in
theorem c_X7_keep (l : Launch) (G : Gt) (h0 n n1 n2 n3 n4 n5 n6 n7 i0 y y1 y2 y3 y4 y5 y6 y7 z z1 z2 z3 z4 z5 z6 z7 : Nat) (sz : Nat) (e0 : Nat) (t : Nat) (k : Nat) (j : Nat) (b0 : Nat) (s0 : Nat) (q : Nat) (g : Nat) (kp : Int32) (ht : Nat → Int32) (wm : Nat → Int32) (se : Nat → Int32) (cd : Nat → Int32) (sl : Nat → Int32) (od : Nat → Int32) (ow : Nat → Int32) (lo : Int32) (mi : Int32) (sd : Int32) (hty : Nat → Int32) (wmy : Nat → Int32) (sey : Nat → Int32) (cdy : Nat → Int32) (sly : Nat → Int32) (ody : Nat → Int32) (owy : Nat → Int32) (loy : Int32) (miy : Int32) (sdy : Int32) (htz : Nat → Int32) (wmz : Nat → Int32) (sez : Nat → Int32) (cdz : Nat → Int32) (slz : Nat → Int32) (odz : Nat → Int32) (owz : Nat → Int32) (loz : Int32) (miz : Int32) (sdz : Int32) (x : Int32) (hv : (¬ x < 0 ∧ ¬ 1 < x → (x = 0 ∨ x = 1) ∧ ((x = 0 → ∀ (ht2_4 : Nat → Int32) (wm2_5 : Nat → Int32) (se2_6 : Nat → Int32) (cd2_7 : Nat → Int32) (sl2_8 : Nat → Int32) (od2_9 : Nat → Int32) (ow2_10 : Nat → Int32) (lo2_11 : Int32) (mi2_12 : Int32) (sd2_13 : Int32), (True) → (True)) ∧ (x = 1 → ∀ (ht2_16 : Nat → Int32) (wm2_17 : Nat → Int32) (se2_18 : Nat → Int32) (cd2_19 : Nat → Int32) (sl2_20 : Nat → Int32) (od2_21 : Nat → Int32) (ow2_22 : Nat → Int32) (lo2_23 : Int32) (mi2_24 : Int32) (sd2_25 : Int32), (True) → (True)))) ∧ (¬ (¬ x < 0 ∧ ¬ 1 < x) → True)) : MetI l yX7_keep wsX7_keep 2 51 G [.ref h0, .int x] [(h0, .inr (7, [.ref e0, .ref t, .ref k, .ref n, .ref j, .ref i0, .int kp, .ref b0, .ref s0, .ref q, .ref g])), (n, .inr (1, [.ref n1, .ref n2, .ref n3, .ref n4, .ref n5, .ref n6, .ref n7, .int lo, .int mi, .int sd])), aI G n1 9 ht, aI G n2 8 wm, aI G n3 8 se, aI G n4 8 cd, aI G n5 8 sl, aI G n6 8 od, aI G n7 72 ow, aN G i0 2 (fun k => if k = 0 then some y else some z), (y, .inr (1, [.ref y1, .ref y2, .ref y3, .ref y4, .ref y5, .ref y6, .ref y7, .int loy, .int miy, .int sdy])), aI G y1 9 hty, aI G y2 8 wmy, aI G y3 8 sey, aI G y4 8 cdy, aI G y5 8 sly, aI G y6 8 ody, aI G y7 72 owy, (z, .inr (1, [.ref z1, .ref z2, .ref z3, .ref z4, .ref z5, .ref z6, .ref z7, .int loz, .int miz, .int sdz])), aI G z1 9 htz, aI G z2 8 wmz, aI G z3 8 sez, aI G z4 8 cdz, aI G z5 8 slz, aI G z6 8 odz, aI G z7 72 owz] sz (fun (r : Int32) (u : (Nat → Int32) × (Nat → Int32) × (Nat → Int32) × (Nat → Int32) × (Nat → Int32) × (Nat → Int32) × (Nat → Int32) × (Int32) × (Int32) × (Int32) × (Nat → Int32) × (Nat → Int32) × (Nat → Int32) × (Nat → Int32) × (Nat → Int32) × (Nat → Int32) × (Nat → Int32) × (Int32) × (Int32) × (Int32) × (Int32)) => True) (fun (u : (Nat → Int32) × (Nat → Int32) × (Nat → Int32) × (Nat → Int32) × (Nat → Int32) × (Nat → Int32) × (Nat → Int32) × (Int32) × (Int32) × (Int32) × (Nat → Int32) × (Nat → Int32) × (Nat → Int32) × (Nat → Int32) × (Nat → Int32) × (Nat → Int32) × (Nat → Int32) × (Int32) × (Int32) × (Int32) × (Int32)) => [(h0, .inr (7, [.ref e0, .ref t, .ref k, .ref n, .ref j, .ref i0, .int u.2.2.2.2.2.2.2.2.2.2.2.2.2.2.2.2.2.2.2.2, .ref b0, .ref s0, .ref q, .ref g])), (n, .inr (1, [.ref n1, .ref n2, .ref n3, .ref n4, .ref n5, .ref n6, .ref n7, .int lo, .int mi, .int sd])), aI G n1 9 ht, aI G n2 8 wm, aI G n3 8 se, aI G n4 8 cd, aI G n5 8 sl, aI G n6 8 od, aI G n7 72 ow, aN G i0 2 (fun k => if k = 0 then some y else some z), (y, .inr (1, [.ref y1, .ref y2, .ref y3, .ref y4, .ref y5, .ref y6, .ref y7, .int u.2.2.2.2.2.2.2.1, .int u.2.2.2.2.2.2.2.2.1, .int u.2.2.2.2.2.2.2.2.2.1])), aI G y1 9 u.1, aI G y2 8 u.2.1, aI G y3 8 u.2.2.1, aI G y4 8 u.2.2.2.1, aI G y5 8 u.2.2.2.2.1, aI G y6 8 u.2.2.2.2.2.1, aI G y7 72 u.2.2.2.2.2.2.1, (z, .inr (1, [.ref z1, .ref z2, .ref z3, .ref z4, .ref z5, .ref z6, .ref z7, .int u.2.2.2.2.2.2.2.2.2.2.2.2.2.2.2.2.2.1, .int u.2.2.2.2.2.2.2.2.2.2.2.2.2.2.2.2.2.2.1, .int u.2.2.2.2.2.2.2.2.2.2.2.2.2.2.2.2.2.2.2.1])), aI G z1 9 u.2.2.2.2.2.2.2.2.2.2.1, aI G z2 8 u.2.2.2.2.2.2.2.2.2.2.2.1, aI G z3 8 u.2.2.2.2.2.2.2.2.2.2.2.2.1, aI G z4 8 u.2.2.2.2.2.2.2.2.2.2.2.2.2.1, aI G z5 8 u.2.2.2.2.2.2.2.2.2.2.2.2.2.2.1, aI G z6 8 u.2.2.2.2.2.2.2.2.2.2.2.2.2.2.2.1, aI G z7 72 u.2.2.2.2.2.2.2.2.2.2.2.2.2.2.2.2.1]) := by
  refine x_startI (cc := cX7_keep) (maxL := 2) (ret := (some .int)) (by decide) rfl (Nat.le_of_ble_eq_true rfl) ?_
  intro p e s m args below meth c A R Q ls hRf hRl hQ C hP hD hS hA hSS hl
  obtain ⟨hx, hb, hr, hml, hown, hts, hlocks, hKK⟩ := C
  have hown : s.vm.findClass RX7 = some m.cls := hown
  have hl : lv_has ls 2 [(0, .ref h0), (1, .int x)] := hl
  have hinX7 : ∀ w ∈ u_ws RX7 TX7 11, w ∈ wsX7_keep := by decide +kernel
  have kl143 := hts (.constant RX7 143 (-1000000001)) (by decide +kernel)
  have kl29 := hts (.fieldLink RX7 29 "WarmStones" "night" "LWarmStones$Night;") (by decide +kernel)
  have kl36 := hts (.fieldLink RX7 36 "WarmStones" "images" "[LWarmStones$Night;") (by decide +kernel)
  have kl97 := hts (.fieldLink RX7 97 "WarmStones" "kept" "I") (by decide +kernel)
  refine lv_iload_n hx hb dX7_keep_0 rfl (lv_at hl 1 rfl) ?_
  refine lv_iconst (v := 0) hx hb dX7_keep_1 (by decide) ?_
  refine lv_iconst (v := 1) hx hb dX7_keep_2 (by decide) ?_
  refine x_calliR (x_runS (As := [.int x, .int 0, .int 1]) (rest := []) (n := 3) ⟨hx, hb, hml, hown, hts⟩ (k_X7_within l G  _ x 0 1) gX7_keep_X7_within rfl (by decide +kernel) ⟨Nat.le_trans (Nat.le_of_ble_eq_true rfl) hRf, Nat.le_trans (Nat.le_of_ble_eq_true rfl) hRl⟩ hKK hSS hS hA hP hD [] (by decide) rfl rfl hl.1 rfl (Nat.le_of_ble_eq_true rfl) dX7_keep_3) hP hD hS hA [] rfl (fun r_1 _ H locs hw hP hS => ?_)
  replace hw := hw.symm; subst hw
  refine lv_if_ne (tgt := 12) hx hb dX7_keep_6 (by decide) (fun hc_2 => ?_) (fun hc_2 => ?_)
  · have hv := hv.1 (tv_eqn.mp hc_2)
    refine lv_aload_n hx hb dX7_keep_12 rfl (lv_at hl 0 rfl) ?_
    refine va_get (D := G.1) (ci := 7) (v := .ref i0) (C := RX7) (T := TX7) (N := 11) hx hb hts hinX7 hown hKK.1 hP 0 rfl rfl 5 (by decide) kl36 (fun _ h9 => h9) rfl dX7_keep_13 ?_
    refine lv_iload_n hx hb dX7_keep_16 rfl (lv_at hl 1 rfl) ?_
    obtain ⟨h01, hv⟩ := hv
    rcases h01 with hk_14 | hk_26
    · have hv := hv.1 hk_14
      refine va_aldq hx hb hKK.1 hP 9 4 rfl rfl (by rw [hk_14]; unfold vp_in; decide) dX7_keep_17 ?_
      refine W.eq (g2 := F0 m 18 ls [.ref y]) (by rw [hk_14]; rfl) ?_
      refine lv_aload_n hx hb dX7_keep_18 rfl (lv_at hl 0 rfl) ?_
      refine va_get (D := G.1) (ci := 7) (v := .ref n) (C := RX7) (T := TX7) (N := 11) hx hb hts hinX7 hown hKK.1 hP 0 rfl rfl 3 (by decide) kl29 (fun _ h9 => h9) rfl dX7_keep_19 ?_
      refine x_callv (wr := [(h0, .inr (7, [.ref e0, .ref t, .ref k, .ref n, .ref j, .ref i0, .int kp, .ref b0, .ref s0, .ref q, .ref g])), aN G i0 2 (fun k => if k = 0 then some y else some z), (z, .inr (1, [.ref z1, .ref z2, .ref z3, .ref z4, .ref z5, .ref z6, .ref z7, .int loz, .int miz, .int sdz])), aI G z1 9 htz, aI G z2 8 wmz, aI G z3 8 sez, aI G z4 8 cdz, aI G z5 8 slz, aI G z6 8 odz, aI G z7 72 owz]) (w' := fun (u : (Nat → Int32) × (Nat → Int32) × (Nat → Int32) × (Nat → Int32) × (Nat → Int32) × (Nat → Int32) × (Nat → Int32) × (Int32) × (Int32) × (Int32)) => [(h0, .inr (7, [.ref e0, .ref t, .ref k, .ref n, .ref j, .ref i0, .int kp, .ref b0, .ref s0, .ref q, .ref g])), (n, .inr (1, [.ref n1, .ref n2, .ref n3, .ref n4, .ref n5, .ref n6, .ref n7, .int lo, .int mi, .int sd])), aI G n1 9 ht, aI G n2 8 wm, aI G n3 8 se, aI G n4 8 cd, aI G n5 8 sl, aI G n6 8 od, aI G n7 72 ow, aN G i0 2 (fun k => if k = 0 then some y else some z), (y, .inr (1, [.ref y1, .ref y2, .ref y3, .ref y4, .ref y5, .ref y6, .ref y7, .int u.2.2.2.2.2.2.2.1, .int u.2.2.2.2.2.2.2.2.1, .int u.2.2.2.2.2.2.2.2.2])), aI G y1 9 u.1, aI G y2 8 u.2.1, aI G y3 8 u.2.2.1, aI G y4 8 u.2.2.2.1, aI G y5 8 u.2.2.2.2.1, aI G y6 8 u.2.2.2.2.2.1, aI G y7 72 u.2.2.2.2.2.2.1, (z, .inr (1, [.ref z1, .ref z2, .ref z3, .ref z4, .ref z5, .ref z6, .ref z7, .int loz, .int miz, .int sdz])), aI G z1 9 htz, aI G z2 8 wmz, aI G z3 8 sez, aI G z4 8 cdz, aI G z5 8 slz, aI G z6 8 odz, aI G z7 72 owz]) (x_runV (As := [.ref n]) (rest := []) (n := 1) (C := RX1) (ci := 1) ⟨hx, hb, hml, hown, hts⟩ (k_X1_copyFrom l G y y1 y2 y3 y4 y5 y6 y7 n n1 n2 n3 n4 n5 n6 n7 _ hty wmy sey cdy sly ody owy loy miy sdy ht wm se cd sl od ow lo mi sd) gX7_keep_X1_copyFrom rfl (by decide +kernel) ⟨Nat.le_trans (Nat.le_of_ble_eq_true rfl) hRf, Nat.le_trans (Nat.le_of_ble_eq_true rfl) hRl⟩ hKK hSS hS hA hP hD [10, 11, 12, 13, 14, 15, 16, 17, 1, 2, 3, 4, 5, 6, 7, 8] (by decide) rfl rfl rfl 10 rfl rfl hl.1 rfl (Nat.le_of_ble_eq_true rfl) dX7_keep_22) hP hD hS hA [10, 11, 12, 13, 14, 15, 16, 17, 1, 2, 3, 4, 5, 6, 7, 8] [0, 9, 18, 19, 20, 21, 22, 23, 24, 25] [0, 18, 19, 20, 21, 22, 23, 24, 25, 1, 10, 11, 12, 13, 14, 15, 16, 17, 2, 3, 4, 5, 6, 7, 8, 9] rfl rfl (by decide) (by decide) (by decide) (fun _ => rfl) (fun  u H locs hw hP hD hS => ?_)
      obtain ⟨ht2_4, wm2_5, se2_6, cd2_7, sl2_8, od2_9, ow2_10, lo2_11, mi2_12, sd2_13⟩ := u
      have hP : va_P G.1 vwCl [(h0, .inr (7, [.ref e0, .ref t, .ref k, .ref n, .ref j, .ref i0, .int kp, .ref b0, .ref s0, .ref q, .ref g])), (n, .inr (1, [.ref n1, .ref n2, .ref n3, .ref n4, .ref n5, .ref n6, .ref n7, .int lo, .int mi, .int sd])), aI G n1 9 ht, aI G n2 8 wm, aI G n3 8 se, aI G n4 8 cd, aI G n5 8 sl, aI G n6 8 od, aI G n7 72 ow, aN G i0 2 (fun k => if k = 0 then some y else some z), (y, .inr (1, [.ref y1, .ref y2, .ref y3, .ref y4, .ref y5, .ref y6, .ref y7, .int lo2_11, .int mi2_12, .int sd2_13])), aI G y1 9 ht2_4, aI G y2 8 wm2_5, aI G y3 8 se2_6, aI G y4 8 cd2_7, aI G y5 8 sl2_8, aI G y6 8 od2_9, aI G y7 72 ow2_10, (z, .inr (1, [.ref z1, .ref z2, .ref z3, .ref z4, .ref z5, .ref z6, .ref z7, .int loz, .int miz, .int sdz])), aI G z1 9 htz, aI G z2 8 wmz, aI G z3 8 sez, aI G z4 8 cdz, aI G z5 8 slz, aI G z6 8 odz, aI G z7 72 owz] H := hP
      have hD : va_D A [(h0, .inr (7, [.ref e0, .ref t, .ref k, .ref n, .ref j, .ref i0, .int kp, .ref b0, .ref s0, .ref q, .ref g])), (n, .inr (1, [.ref n1, .ref n2, .ref n3, .ref n4, .ref n5, .ref n6, .ref n7, .int lo, .int mi, .int sd])), aI G n1 9 ht, aI G n2 8 wm, aI G n3 8 se, aI G n4 8 cd, aI G n5 8 sl, aI G n6 8 od, aI G n7 72 ow, aN G i0 2 (fun k => if k = 0 then some y else some z), (y, .inr (1, [.ref y1, .ref y2, .ref y3, .ref y4, .ref y5, .ref y6, .ref y7, .int lo2_11, .int mi2_12, .int sd2_13])), aI G y1 9 ht2_4, aI G y2 8 wm2_5, aI G y3 8 se2_6, aI G y4 8 cd2_7, aI G y5 8 sl2_8, aI G y6 8 od2_9, aI G y7 72 ow2_10, (z, .inr (1, [.ref z1, .ref z2, .ref z3, .ref z4, .ref z5, .ref z6, .ref z7, .int loz, .int miz, .int sdz])), aI G z1 9 htz, aI G z2 8 wmz, aI G z3 8 sez, aI G z4 8 cdz, aI G z5 8 slz, aI G z6 8 odz, aI G z7 72 owz] := hD
      have hv := hv ht2_4 wm2_5 se2_6 cd2_7 sl2_8 od2_9 ow2_10 lo2_11 mi2_12 sd2_13 hw
      refine lv_aload_n hx hb dX7_keep_25 rfl (lv_at hl 0 rfl) ?_
      refine lv_dup hx hb dX7_keep_26 rfl ?_
      refine va_get (D := G.1) (ci := 7) (v := .int kp) (C := RX7) (T := TX7) (N := 11) hx hb hts hinX7 hown hKK.1 hP 0 rfl rfl 6 (by decide) kl97 (fun _ h9 => h9) rfl dX7_keep_27 ?_
      refine lv_iconst (v := 1) hx hb dX7_keep_30 (by decide) ?_
      refine lv_iload_n hx hb dX7_keep_31 rfl (lv_at hl 1 rfl) ?_
      refine lv_ishl hx hb dX7_keep_32 ?_
      refine lv_ior hx hb dX7_keep_33 ?_
      refine va_put (D := G.1) (ci := 7) (v := .int (kp ||| ((1 : Int32) <<< (x &&& 31)))) (ty := .int) (C := RX7) (T := TX7) (N := 11) hx hb hts hinX7 tyX7 tyX7_ok nmX7 hown hKK.1 hP hD hS 0 rfl rfl 6 (by decide) kl97 (fun _ h9 => h9) rfl (by decide +kernel) rfl rfl (Nat.le_of_ble_eq_true rfl) dX7_keep_34 (fun H locs hP hD hS => ?_)
      have hP : va_P G.1 vwCl [(h0, .inr (7, [.ref e0, .ref t, .ref k, .ref n, .ref j, .ref i0, .int (kp ||| ((1 : Int32) <<< (x &&& 31))), .ref b0, .ref s0, .ref q, .ref g])), (n, .inr (1, [.ref n1, .ref n2, .ref n3, .ref n4, .ref n5, .ref n6, .ref n7, .int lo, .int mi, .int sd])), aI G n1 9 ht, aI G n2 8 wm, aI G n3 8 se, aI G n4 8 cd, aI G n5 8 sl, aI G n6 8 od, aI G n7 72 ow, aN G i0 2 (fun k => if k = 0 then some y else some z), (y, .inr (1, [.ref y1, .ref y2, .ref y3, .ref y4, .ref y5, .ref y6, .ref y7, .int lo2_11, .int mi2_12, .int sd2_13])), aI G y1 9 ht2_4, aI G y2 8 wm2_5, aI G y3 8 se2_6, aI G y4 8 cd2_7, aI G y5 8 sl2_8, aI G y6 8 od2_9, aI G y7 72 ow2_10, (z, .inr (1, [.ref z1, .ref z2, .ref z3, .ref z4, .ref z5, .ref z6, .ref z7, .int loz, .int miz, .int sdz])), aI G z1 9 htz, aI G z2 8 wmz, aI G z3 8 sez, aI G z4 8 cdz, aI G z5 8 slz, aI G z6 8 odz, aI G z7 72 owz] H := hP
      have hD : va_D A [(h0, .inr (7, [.ref e0, .ref t, .ref k, .ref n, .ref j, .ref i0, .int (kp ||| ((1 : Int32) <<< (x &&& 31))), .ref b0, .ref s0, .ref q, .ref g])), (n, .inr (1, [.ref n1, .ref n2, .ref n3, .ref n4, .ref n5, .ref n6, .ref n7, .int lo, .int mi, .int sd])), aI G n1 9 ht, aI G n2 8 wm, aI G n3 8 se, aI G n4 8 cd, aI G n5 8 sl, aI G n6 8 od, aI G n7 72 ow, aN G i0 2 (fun k => if k = 0 then some y else some z), (y, .inr (1, [.ref y1, .ref y2, .ref y3, .ref y4, .ref y5, .ref y6, .ref y7, .int lo2_11, .int mi2_12, .int sd2_13])), aI G y1 9 ht2_4, aI G y2 8 wm2_5, aI G y3 8 se2_6, aI G y4 8 cd2_7, aI G y5 8 sl2_8, aI G y6 8 od2_9, aI G y7 72 ow2_10, (z, .inr (1, [.ref z1, .ref z2, .ref z3, .ref z4, .ref z5, .ref z6, .ref z7, .int loz, .int miz, .int sdz])), aI G z1 9 htz, aI G z2 8 wmz, aI G z3 8 sez, aI G z4 8 cdz, aI G z5 8 slz, aI G z6 8 odz, aI G z7 72 owz] := hD
      refine lv_iconst (v := 1) hx hb dX7_keep_37 (by decide) ?_
      exact x_iret (v := 1) (ht2_4, wm2_5, se2_6, cd2_7, sl2_8, od2_9, ow2_10, lo2_11, mi2_12, sd2_13, htz, wmz, sez, cdz, slz, odz, owz, loz, miz, sdz, (kp ||| ((1 : Int32) <<< (x &&& 31)))) hQ hx hb hr hlocks hS dX7_keep_38 hv hP hD
    · have hv := hv.2 hk_26
      refine va_aldq hx hb hKK.1 hP 9 4 rfl rfl (by rw [hk_26]; unfold vp_in; decide) dX7_keep_17 ?_
      refine W.eq (g2 := F0 m 18 ls [.ref z]) (by rw [hk_26]; rfl) ?_
      refine lv_aload_n hx hb dX7_keep_18 rfl (lv_at hl 0 rfl) ?_
      refine va_get (D := G.1) (ci := 7) (v := .ref n) (C := RX7) (T := TX7) (N := 11) hx hb hts hinX7 hown hKK.1 hP 0 rfl rfl 3 (by decide) kl29 (fun _ h9 => h9) rfl dX7_keep_19 ?_
      refine x_callv (wr := [(h0, .inr (7, [.ref e0, .ref t, .ref k, .ref n, .ref j, .ref i0, .int kp, .ref b0, .ref s0, .ref q, .ref g])), aN G i0 2 (fun k => if k = 0 then some y else some z), (y, .inr (1, [.ref y1, .ref y2, .ref y3, .ref y4, .ref y5, .ref y6, .ref y7, .int loy, .int miy, .int sdy])), aI G y1 9 hty, aI G y2 8 wmy, aI G y3 8 sey, aI G y4 8 cdy, aI G y5 8 sly, aI G y6 8 ody, aI G y7 72 owy]) (w' := fun (u : (Nat → Int32) × (Nat → Int32) × (Nat → Int32) × (Nat → Int32) × (Nat → Int32) × (Nat → Int32) × (Nat → Int32) × (Int32) × (Int32) × (Int32)) => [(h0, .inr (7, [.ref e0, .ref t, .ref k, .ref n, .ref j, .ref i0, .int kp, .ref b0, .ref s0, .ref q, .ref g])), (n, .inr (1, [.ref n1, .ref n2, .ref n3, .ref n4, .ref n5, .ref n6, .ref n7, .int lo, .int mi, .int sd])), aI G n1 9 ht, aI G n2 8 wm, aI G n3 8 se, aI G n4 8 cd, aI G n5 8 sl, aI G n6 8 od, aI G n7 72 ow, aN G i0 2 (fun k => if k = 0 then some y else some z), (y, .inr (1, [.ref y1, .ref y2, .ref y3, .ref y4, .ref y5, .ref y6, .ref y7, .int loy, .int miy, .int sdy])), aI G y1 9 hty, aI G y2 8 wmy, aI G y3 8 sey, aI G y4 8 cdy, aI G y5 8 sly, aI G y6 8 ody, aI G y7 72 owy, (z, .inr (1, [.ref z1, .ref z2, .ref z3, .ref z4, .ref z5, .ref z6, .ref z7, .int u.2.2.2.2.2.2.2.1, .int u.2.2.2.2.2.2.2.2.1, .int u.2.2.2.2.2.2.2.2.2])), aI G z1 9 u.1, aI G z2 8 u.2.1, aI G z3 8 u.2.2.1, aI G z4 8 u.2.2.2.1, aI G z5 8 u.2.2.2.2.1, aI G z6 8 u.2.2.2.2.2.1, aI G z7 72 u.2.2.2.2.2.2.1]) (x_runV (As := [.ref n]) (rest := []) (n := 1) (C := RX1) (ci := 1) ⟨hx, hb, hml, hown, hts⟩ (k_X1_copyFrom l G z z1 z2 z3 z4 z5 z6 z7 n n1 n2 n3 n4 n5 n6 n7 _ htz wmz sez cdz slz odz owz loz miz sdz ht wm se cd sl od ow lo mi sd) gX7_keep_X1_copyFrom rfl (by decide +kernel) ⟨Nat.le_trans (Nat.le_of_ble_eq_true rfl) hRf, Nat.le_trans (Nat.le_of_ble_eq_true rfl) hRl⟩ hKK hSS hS hA hP hD [18, 19, 20, 21, 22, 23, 24, 25, 1, 2, 3, 4, 5, 6, 7, 8] (by decide) rfl rfl rfl 18 rfl rfl hl.1 rfl (Nat.le_of_ble_eq_true rfl) dX7_keep_22) hP hD hS hA [18, 19, 20, 21, 22, 23, 24, 25, 1, 2, 3, 4, 5, 6, 7, 8] [0, 9, 10, 11, 12, 13, 14, 15, 16, 17] [0, 18, 19, 20, 21, 22, 23, 24, 25, 1, 2, 3, 4, 5, 6, 7, 8, 9, 10, 11, 12, 13, 14, 15, 16, 17] rfl rfl (by decide) (by decide) (by decide) (fun _ => rfl) (fun  u H locs hw hP hD hS => ?_)
      obtain ⟨ht2_16, wm2_17, se2_18, cd2_19, sl2_20, od2_21, ow2_22, lo2_23, mi2_24, sd2_25⟩ := u
      have hP : va_P G.1 vwCl [(h0, .inr (7, [.ref e0, .ref t, .ref k, .ref n, .ref j, .ref i0, .int kp, .ref b0, .ref s0, .ref q, .ref g])), (n, .inr (1, [.ref n1, .ref n2, .ref n3, .ref n4, .ref n5, .ref n6, .ref n7, .int lo, .int mi, .int sd])), aI G n1 9 ht, aI G n2 8 wm, aI G n3 8 se, aI G n4 8 cd, aI G n5 8 sl, aI G n6 8 od, aI G n7 72 ow, aN G i0 2 (fun k => if k = 0 then some y else some z), (y, .inr (1, [.ref y1, .ref y2, .ref y3, .ref y4, .ref y5, .ref y6, .ref y7, .int loy, .int miy, .int sdy])), aI G y1 9 hty, aI G y2 8 wmy, aI G y3 8 sey, aI G y4 8 cdy, aI G y5 8 sly, aI G y6 8 ody, aI G y7 72 owy, (z, .inr (1, [.ref z1, .ref z2, .ref z3, .ref z4, .ref z5, .ref z6, .ref z7, .int lo2_23, .int mi2_24, .int sd2_25])), aI G z1 9 ht2_16, aI G z2 8 wm2_17, aI G z3 8 se2_18, aI G z4 8 cd2_19, aI G z5 8 sl2_20, aI G z6 8 od2_21, aI G z7 72 ow2_22] H := hP
      have hD : va_D A [(h0, .inr (7, [.ref e0, .ref t, .ref k, .ref n, .ref j, .ref i0, .int kp, .ref b0, .ref s0, .ref q, .ref g])), (n, .inr (1, [.ref n1, .ref n2, .ref n3, .ref n4, .ref n5, .ref n6, .ref n7, .int lo, .int mi, .int sd])), aI G n1 9 ht, aI G n2 8 wm, aI G n3 8 se, aI G n4 8 cd, aI G n5 8 sl, aI G n6 8 od, aI G n7 72 ow, aN G i0 2 (fun k => if k = 0 then some y else some z), (y, .inr (1, [.ref y1, .ref y2, .ref y3, .ref y4, .ref y5, .ref y6, .ref y7, .int loy, .int miy, .int sdy])), aI G y1 9 hty, aI G y2 8 wmy, aI G y3 8 sey, aI G y4 8 cdy, aI G y5 8 sly, aI G y6 8 ody, aI G y7 72 owy, (z, .inr (1, [.ref z1, .ref z2, .ref z3, .ref z4, .ref z5, .ref z6, .ref z7, .int lo2_23, .int mi2_24, .int sd2_25])), aI G z1 9 ht2_16, aI G z2 8 wm2_17, aI G z3 8 se2_18, aI G z4 8 cd2_19, aI G z5 8 sl2_20, aI G z6 8 od2_21, aI G z7 72 ow2_22] := hD
      have hv := hv ht2_16 wm2_17 se2_18 cd2_19 sl2_20 od2_21 ow2_22 lo2_23 mi2_24 sd2_25 hw
      refine lv_aload_n hx hb dX7_keep_25 rfl (lv_at hl 0 rfl) ?_
      refine lv_dup hx hb dX7_keep_26 rfl ?_
      refine va_get (D := G.1) (ci := 7) (v := .int kp) (C := RX7) (T := TX7) (N := 11) hx hb hts hinX7 hown hKK.1 hP 0 rfl rfl 6 (by decide) kl97 (fun _ h9 => h9) rfl dX7_keep_27 ?_
      refine lv_iconst (v := 1) hx hb dX7_keep_30 (by decide) ?_
      refine lv_iload_n hx hb dX7_keep_31 rfl (lv_at hl 1 rfl) ?_
      refine lv_ishl hx hb dX7_keep_32 ?_
      refine lv_ior hx hb dX7_keep_33 ?_
      refine va_put (D := G.1) (ci := 7) (v := .int (kp ||| ((1 : Int32) <<< (x &&& 31)))) (ty := .int) (C := RX7) (T := TX7) (N := 11) hx hb hts hinX7 tyX7 tyX7_ok nmX7 hown hKK.1 hP hD hS 0 rfl rfl 6 (by decide) kl97 (fun _ h9 => h9) rfl (by decide +kernel) rfl rfl (Nat.le_of_ble_eq_true rfl) dX7_keep_34 (fun H locs hP hD hS => ?_)
      have hP : va_P G.1 vwCl [(h0, .inr (7, [.ref e0, .ref t, .ref k, .ref n, .ref j, .ref i0, .int (kp ||| ((1 : Int32) <<< (x &&& 31))), .ref b0, .ref s0, .ref q, .ref g])), (n, .inr (1, [.ref n1, .ref n2, .ref n3, .ref n4, .ref n5, .ref n6, .ref n7, .int lo, .int mi, .int sd])), aI G n1 9 ht, aI G n2 8 wm, aI G n3 8 se, aI G n4 8 cd, aI G n5 8 sl, aI G n6 8 od, aI G n7 72 ow, aN G i0 2 (fun k => if k = 0 then some y else some z), (y, .inr (1, [.ref y1, .ref y2, .ref y3, .ref y4, .ref y5, .ref y6, .ref y7, .int loy, .int miy, .int sdy])), aI G y1 9 hty, aI G y2 8 wmy, aI G y3 8 sey, aI G y4 8 cdy, aI G y5 8 sly, aI G y6 8 ody, aI G y7 72 owy, (z, .inr (1, [.ref z1, .ref z2, .ref z3, .ref z4, .ref z5, .ref z6, .ref z7, .int lo2_23, .int mi2_24, .int sd2_25])), aI G z1 9 ht2_16, aI G z2 8 wm2_17, aI G z3 8 se2_18, aI G z4 8 cd2_19, aI G z5 8 sl2_20, aI G z6 8 od2_21, aI G z7 72 ow2_22] H := hP
      have hD : va_D A [(h0, .inr (7, [.ref e0, .ref t, .ref k, .ref n, .ref j, .ref i0, .int (kp ||| ((1 : Int32) <<< (x &&& 31))), .ref b0, .ref s0, .ref q, .ref g])), (n, .inr (1, [.ref n1, .ref n2, .ref n3, .ref n4, .ref n5, .ref n6, .ref n7, .int lo, .int mi, .int sd])), aI G n1 9 ht, aI G n2 8 wm, aI G n3 8 se, aI G n4 8 cd, aI G n5 8 sl, aI G n6 8 od, aI G n7 72 ow, aN G i0 2 (fun k => if k = 0 then some y else some z), (y, .inr (1, [.ref y1, .ref y2, .ref y3, .ref y4, .ref y5, .ref y6, .ref y7, .int loy, .int miy, .int sdy])), aI G y1 9 hty, aI G y2 8 wmy, aI G y3 8 sey, aI G y4 8 cdy, aI G y5 8 sly, aI G y6 8 ody, aI G y7 72 owy, (z, .inr (1, [.ref z1, .ref z2, .ref z3, .ref z4, .ref z5, .ref z6, .ref z7, .int lo2_23, .int mi2_24, .int sd2_25])), aI G z1 9 ht2_16, aI G z2 8 wm2_17, aI G z3 8 se2_18, aI G z4 8 cd2_19, aI G z5 8 sl2_20, aI G z6 8 od2_21, aI G z7 72 ow2_22] := hD
      refine lv_iconst (v := 1) hx hb dX7_keep_37 (by decide) ?_
      exact x_iret (v := 1) (hty, wmy, sey, cdy, sly, ody, owy, loy, miy, sdy, ht2_16, wm2_17, se2_18, cd2_19, sl2_20, od2_21, ow2_22, lo2_23, mi2_24, sd2_25, (kp ||| ((1 : Int32) <<< (x &&& 31)))) hQ hx hb hr hlocks hS dX7_keep_38 hv hP hD
  · have hv := hv.2 (tv_eq.mp hc_2)
    refine lv_ldc (v := (-1000000001)) hx hb hown kl143 dX7_keep_9 ?_
    exact x_iret (v := (-1000000001)) (hty, wmy, sey, cdy, sly, ody, owy, loy, miy, sdy, htz, wmz, sez, cdz, slz, odz, owz, loz, miz, sdz, kp) hQ hx hb hr hlocks hS dX7_keep_11 hv hP hD
theorem k_X7_keep (l : Launch) (G : Gt) (h0 n n1 n2 n3 n4 n5 n6 n7 i0 y y1 y2 y3 y4 y5 y6 y7 z z1 z2 z3 z4 z5 z6 z7 : Nat) (sz : Nat) (e0 : Nat) (t : Nat) (k : Nat) (j : Nat) (b0 : Nat) (s0 : Nat) (q : Nat) (g : Nat) (kp : Int32) (ht : Nat → Int32) (wm : Nat → Int32) (se : Nat → Int32) (cd : Nat → Int32) (sl : Nat → Int32) (od : Nat → Int32) (ow : Nat → Int32) (lo : Int32) (mi : Int32) (sd : Int32) (hty : Nat → Int32) (wmy : Nat → Int32) (sey : Nat → Int32) (cdy : Nat → Int32) (sly : Nat → Int32) (ody : Nat → Int32) (owy : Nat → Int32) (loy : Int32) (miy : Int32) (sdy : Int32) (htz : Nat → Int32) (wmz : Nat → Int32) (sez : Nat → Int32) (cdz : Nat → Int32) (slz : Nat → Int32) (odz : Nat → Int32) (owz : Nat → Int32) (loz : Int32) (miz : Int32) (sdz : Int32) (x : Int32) (hp : True) : MetI l yX7_keep wsX7_keep 2 51 G [.ref h0, .int x] [(h0, .inr (7, [.ref e0, .ref t, .ref k, .ref n, .ref j, .ref i0, .int kp, .ref b0, .ref s0, .ref q, .ref g])), (n, .inr (1, [.ref n1, .ref n2, .ref n3, .ref n4, .ref n5, .ref n6, .ref n7, .int lo, .int mi, .int sd])), aI G n1 9 ht, aI G n2 8 wm, aI G n3 8 se, aI G n4 8 cd, aI G n5 8 sl, aI G n6 8 od, aI G n7 72 ow, aN G i0 2 (fun k => if k = 0 then some y else some z), (y, .inr (1, [.ref y1, .ref y2, .ref y3, .ref y4, .ref y5, .ref y6, .ref y7, .int loy, .int miy, .int sdy])), aI G y1 9 hty, aI G y2 8 wmy, aI G y3 8 sey, aI G y4 8 cdy, aI G y5 8 sly, aI G y6 8 ody, aI G y7 72 owy, (z, .inr (1, [.ref z1, .ref z2, .ref z3, .ref z4, .ref z5, .ref z6, .ref z7, .int loz, .int miz, .int sdz])), aI G z1 9 htz, aI G z2 8 wmz, aI G z3 8 sez, aI G z4 8 cdz, aI G z5 8 slz, aI G z6 8 odz, aI G z7 72 owz] sz (fun (r : Int32) (u : (Nat → Int32) × (Nat → Int32) × (Nat → Int32) × (Nat → Int32) × (Nat → Int32) × (Nat → Int32) × (Nat → Int32) × (Int32) × (Int32) × (Int32) × (Nat → Int32) × (Nat → Int32) × (Nat → Int32) × (Nat → Int32) × (Nat → Int32) × (Nat → Int32) × (Nat → Int32) × (Int32) × (Int32) × (Int32) × (Int32)) => True) (fun (u : (Nat → Int32) × (Nat → Int32) × (Nat → Int32) × (Nat → Int32) × (Nat → Int32) × (Nat → Int32) × (Nat → Int32) × (Int32) × (Int32) × (Int32) × (Nat → Int32) × (Nat → Int32) × (Nat → Int32) × (Nat → Int32) × (Nat → Int32) × (Nat → Int32) × (Nat → Int32) × (Int32) × (Int32) × (Int32) × (Int32)) => [(h0, .inr (7, [.ref e0, .ref t, .ref k, .ref n, .ref j, .ref i0, .int u.2.2.2.2.2.2.2.2.2.2.2.2.2.2.2.2.2.2.2.2, .ref b0, .ref s0, .ref q, .ref g])), (n, .inr (1, [.ref n1, .ref n2, .ref n3, .ref n4, .ref n5, .ref n6, .ref n7, .int lo, .int mi, .int sd])), aI G n1 9 ht, aI G n2 8 wm, aI G n3 8 se, aI G n4 8 cd, aI G n5 8 sl, aI G n6 8 od, aI G n7 72 ow, aN G i0 2 (fun k => if k = 0 then some y else some z), (y, .inr (1, [.ref y1, .ref y2, .ref y3, .ref y4, .ref y5, .ref y6, .ref y7, .int u.2.2.2.2.2.2.2.1, .int u.2.2.2.2.2.2.2.2.1, .int u.2.2.2.2.2.2.2.2.2.1])), aI G y1 9 u.1, aI G y2 8 u.2.1, aI G y3 8 u.2.2.1, aI G y4 8 u.2.2.2.1, aI G y5 8 u.2.2.2.2.1, aI G y6 8 u.2.2.2.2.2.1, aI G y7 72 u.2.2.2.2.2.2.1, (z, .inr (1, [.ref z1, .ref z2, .ref z3, .ref z4, .ref z5, .ref z6, .ref z7, .int u.2.2.2.2.2.2.2.2.2.2.2.2.2.2.2.2.2.1, .int u.2.2.2.2.2.2.2.2.2.2.2.2.2.2.2.2.2.2.1, .int u.2.2.2.2.2.2.2.2.2.2.2.2.2.2.2.2.2.2.2.1])), aI G z1 9 u.2.2.2.2.2.2.2.2.2.2.1, aI G z2 8 u.2.2.2.2.2.2.2.2.2.2.2.1, aI G z3 8 u.2.2.2.2.2.2.2.2.2.2.2.2.1, aI G z4 8 u.2.2.2.2.2.2.2.2.2.2.2.2.2.1, aI G z5 8 u.2.2.2.2.2.2.2.2.2.2.2.2.2.2.1, aI G z6 8 u.2.2.2.2.2.2.2.2.2.2.2.2.2.2.2.1, aI G z7 72 u.2.2.2.2.2.2.2.2.2.2.2.2.2.2.2.2.1]) :=
  c_X7_keep l G h0 n n1 n2 n3 n4 n5 n6 n7 i0 y y1 y2 y3 y4 y5 y6 y7 z z1 z2 z3 z4 z5 z6 z7 sz e0 t k j b0 s0 q g kp ht wm se cd sl od ow lo mi sd hty wmy sey cdy sly ody owy loy miy sdy htz wmz sez cdz slz odz owz loz miz sdz x (by
    sorry)

set_option maxHeartbeats 4000000 in
set_option maxRecDepth 100000 in
theorem c_X7_goBack (l : Launch) (G : Gt) (h0 n n1 n2 n3 n4 n5 n6 n7 i0 y y1 y2 y3 y4 y5 y6 y7 z z1 z2 z3 z4 z5 z6 z7 : Nat) (sz : Nat) (e0 : Nat) (t : Nat) (k : Nat) (j : Nat) (b0 : Nat) (s0 : Nat) (q : Nat) (g : Nat) (kp : Int32) (ht : Nat → Int32) (wm : Nat → Int32) (se : Nat → Int32) (cd : Nat → Int32) (sl : Nat → Int32) (od : Nat → Int32) (ow : Nat → Int32) (lo : Int32) (mi : Int32) (sd : Int32) (hty : Nat → Int32) (wmy : Nat → Int32) (sey : Nat → Int32) (cdy : Nat → Int32) (sly : Nat → Int32) (ody : Nat → Int32) (owy : Nat → Int32) (loy : Int32) (miy : Int32) (sdy : Int32) (htz : Nat → Int32) (wmz : Nat → Int32) (sez : Nat → Int32) (cdz : Nat → Int32) (slz : Nat → Int32) (odz : Nat → Int32) (owz : Nat → Int32) (loz : Int32) (miz : Int32) (sdz : Int32) (x : Int32) (hv : (¬ x < 0 ∧ ¬ 1 < x → (¬ ((kp >>> (x &&& 31)) &&& 1) = 0 → (x = 0 ∨ x = 1) ∧ ((x = 0 → ∀ (ht2_5 : Nat → Int32) (wm2_6 : Nat → Int32) (se2_7 : Nat → Int32) (cd2_8 : Nat → Int32) (sl2_9 : Nat → Int32) (od2_10 : Nat → Int32) (ow2_11 : Nat → Int32) (lo2_12 : Int32) (mi2_13 : Int32) (sd2_14 : Int32), (True) → (True)) ∧ (x = 1 → ∀ (ht2_17 : Nat → Int32) (wm2_18 : Nat → Int32) (se2_19 : Nat → Int32) (cd2_20 : Nat → Int32) (sl2_21 : Nat → Int32) (od2_22 : Nat → Int32) (ow2_23 : Nat → Int32) (lo2_24 : Int32) (mi2_25 : Int32) (sd2_26 : Int32), (True) → (True)))) ∧ (((kp >>> (x &&& 31)) &&& 1) = 0 → True)) ∧ (¬ (¬ x < 0 ∧ ¬ 1 < x) → True)) : MetI l yX7_goBack wsX7_goBack 2 51 G [.ref h0, .int x] [(h0, .inr (7, [.ref e0, .ref t, .ref k, .ref n, .ref j, .ref i0, .int kp, .ref b0, .ref s0, .ref q, .ref g])), (n, .inr (1, [.ref n1, .ref n2, .ref n3, .ref n4, .ref n5, .ref n6, .ref n7, .int lo, .int mi, .int sd])), aI G n1 9 ht, aI G n2 8 wm, aI G n3 8 se, aI G n4 8 cd, aI G n5 8 sl, aI G n6 8 od, aI G n7 72 ow, aN G i0 2 (fun k => if k = 0 then some y else some z), (y, .inr (1, [.ref y1, .ref y2, .ref y3, .ref y4, .ref y5, .ref y6, .ref y7, .int loy, .int miy, .int sdy])), aI G y1 9 hty, aI G y2 8 wmy, aI G y3 8 sey, aI G y4 8 cdy, aI G y5 8 sly, aI G y6 8 ody, aI G y7 72 owy, (z, .inr (1, [.ref z1, .ref z2, .ref z3, .ref z4, .ref z5, .ref z6, .ref z7, .int loz, .int miz, .int sdz])), aI G z1 9 htz, aI G z2 8 wmz, aI G z3 8 sez, aI G z4 8 cdz, aI G z5 8 slz, aI G z6 8 odz, aI G z7 72 owz] sz (fun (r : Int32) (u : (Nat → Int32) × (Nat → Int32) × (Nat → Int32) × (Nat → Int32) × (Nat → Int32) × (Nat → Int32) × (Nat → Int32) × (Int32) × (Int32) × (Int32)) => True) (fun (u : (Nat → Int32) × (Nat → Int32) × (Nat → Int32) × (Nat → Int32) × (Nat → Int32) × (Nat → Int32) × (Nat → Int32) × (Int32) × (Int32) × (Int32)) => [(h0, .inr (7, [.ref e0, .ref t, .ref k, .ref n, .ref j, .ref i0, .int kp, .ref b0, .ref s0, .ref q, .ref g])), (n, .inr (1, [.ref n1, .ref n2, .ref n3, .ref n4, .ref n5, .ref n6, .ref n7, .int u.2.2.2.2.2.2.2.1, .int u.2.2.2.2.2.2.2.2.1, .int u.2.2.2.2.2.2.2.2.2])), aI G n1 9 u.1, aI G n2 8 u.2.1, aI G n3 8 u.2.2.1, aI G n4 8 u.2.2.2.1, aI G n5 8 u.2.2.2.2.1, aI G n6 8 u.2.2.2.2.2.1, aI G n7 72 u.2.2.2.2.2.2.1, aN G i0 2 (fun k => if k = 0 then some y else some z), (y, .inr (1, [.ref y1, .ref y2, .ref y3, .ref y4, .ref y5, .ref y6, .ref y7, .int loy, .int miy, .int sdy])), aI G y1 9 hty, aI G y2 8 wmy, aI G y3 8 sey, aI G y4 8 cdy, aI G y5 8 sly, aI G y6 8 ody, aI G y7 72 owy, (z, .inr (1, [.ref z1, .ref z2, .ref z3, .ref z4, .ref z5, .ref z6, .ref z7, .int loz, .int miz, .int sdz])), aI G z1 9 htz, aI G z2 8 wmz, aI G z3 8 sez, aI G z4 8 cdz, aI G z5 8 slz, aI G z6 8 odz, aI G z7 72 owz]) := by
  refine x_startI (cc := cX7_goBack) (maxL := 2) (ret := (some .int)) (by decide) rfl (Nat.le_of_ble_eq_true rfl) ?_
  intro p e s m args below meth c A R Q ls hRf hRl hQ C hP hD hS hA hSS hl
  obtain ⟨hx, hb, hr, hml, hown, hts, hlocks, hKK⟩ := C
  have hown : s.vm.findClass RX7 = some m.cls := hown
  have hl : lv_has ls 2 [(0, .ref h0), (1, .int x)] := hl
  have hinX7 : ∀ w ∈ u_ws RX7 TX7 11, w ∈ wsX7_goBack := by decide +kernel
  have kl143 := hts (.constant RX7 143 (-1000000001)) (by decide +kernel)
  have kl179 := hts (.constant RX7 179 (-1000000003)) (by decide +kernel)
  have kl29 := hts (.fieldLink RX7 29 "WarmStones" "night" "LWarmStones$Night;") (by decide +kernel)
  have kl36 := hts (.fieldLink RX7 36 "WarmStones" "images" "[LWarmStones$Night;") (by decide +kernel)
  have kl97 := hts (.fieldLink RX7 97 "WarmStones" "kept" "I") (by decide +kernel)
  refine lv_iload_n hx hb dX7_goBack_0 rfl (lv_at hl 1 rfl) ?_
  refine lv_iconst (v := 0) hx hb dX7_goBack_1 (by decide) ?_
  refine lv_iconst (v := 1) hx hb dX7_goBack_2 (by decide) ?_
  refine x_calliR (x_runS (As := [.int x, .int 0, .int 1]) (rest := []) (n := 3) ⟨hx, hb, hml, hown, hts⟩ (k_X7_within l G  _ x 0 1) gX7_goBack_X7_within rfl (by decide +kernel) ⟨Nat.le_trans (Nat.le_of_ble_eq_true rfl) hRf, Nat.le_trans (Nat.le_of_ble_eq_true rfl) hRl⟩ hKK hSS hS hA hP hD [] (by decide) rfl rfl hl.1 rfl (Nat.le_of_ble_eq_true rfl) dX7_goBack_3) hP hD hS hA [] rfl (fun r_1 _ H locs hw hP hS => ?_)
  replace hw := hw.symm; subst hw
  refine lv_if_ne (tgt := 12) hx hb dX7_goBack_6 (by decide) (fun hc_2 => ?_) (fun hc_2 => ?_)
  · have hv := hv.1 (tv_eqn.mp hc_2)
    refine lv_aload_n hx hb dX7_goBack_12 rfl (lv_at hl 0 rfl) ?_
    refine va_get (D := G.1) (ci := 7) (v := .int kp) (C := RX7) (T := TX7) (N := 11) hx hb hts hinX7 hown hKK.1 hP 0 rfl rfl 6 (by decide) kl97 (fun _ h9 => h9) rfl dX7_goBack_13 ?_
    refine lv_iload_n hx hb dX7_goBack_16 rfl (lv_at hl 1 rfl) ?_
    refine lv_ishr hx hb dX7_goBack_17 ?_
    refine lv_iconst (v := 1) hx hb dX7_goBack_18 (by decide) ?_
    refine lv_iand hx hb dX7_goBack_19 ?_
    refine lv_if_ne (tgt := 26) hx hb dX7_goBack_20 (by decide) (fun hc_3 => ?_) (fun hc_3 => ?_)
    · have hv := hv.1 hc_3
      refine lv_aload_n hx hb dX7_goBack_26 rfl (lv_at hl 0 rfl) ?_
      refine va_get (D := G.1) (ci := 7) (v := .ref n) (C := RX7) (T := TX7) (N := 11) hx hb hts hinX7 hown hKK.1 hP 0 rfl rfl 3 (by decide) kl29 (fun _ h9 => h9) rfl dX7_goBack_27 ?_
      refine lv_aload_n hx hb dX7_goBack_30 rfl (lv_at hl 0 rfl) ?_
      refine va_get (D := G.1) (ci := 7) (v := .ref i0) (C := RX7) (T := TX7) (N := 11) hx hb hts hinX7 hown hKK.1 hP 0 rfl rfl 5 (by decide) kl36 (fun _ h9 => h9) rfl dX7_goBack_31 ?_
      refine lv_iload_n hx hb dX7_goBack_34 rfl (lv_at hl 1 rfl) ?_
      obtain ⟨h01, hv⟩ := hv
      rcases h01 with hk_15 | hk_27
      · have hv := hv.1 hk_15
        refine va_aldq hx hb hKK.1 hP 9 4 rfl rfl (by rw [hk_15]; unfold vp_in; decide) dX7_goBack_35 ?_
        refine W.eq (g2 := F0 m 36 ls [.ref y, .ref n]) (by rw [hk_15]; rfl) ?_
        refine x_callv (wr := [(h0, .inr (7, [.ref e0, .ref t, .ref k, .ref n, .ref j, .ref i0, .int kp, .ref b0, .ref s0, .ref q, .ref g])), aN G i0 2 (fun k => if k = 0 then some y else some z), (z, .inr (1, [.ref z1, .ref z2, .ref z3, .ref z4, .ref z5, .ref z6, .ref z7, .int loz, .int miz, .int sdz])), aI G z1 9 htz, aI G z2 8 wmz, aI G z3 8 sez, aI G z4 8 cdz, aI G z5 8 slz, aI G z6 8 odz, aI G z7 72 owz]) (w' := fun (u : (Nat → Int32) × (Nat → Int32) × (Nat → Int32) × (Nat → Int32) × (Nat → Int32) × (Nat → Int32) × (Nat → Int32) × (Int32) × (Int32) × (Int32)) => [(h0, .inr (7, [.ref e0, .ref t, .ref k, .ref n, .ref j, .ref i0, .int kp, .ref b0, .ref s0, .ref q, .ref g])), (n, .inr (1, [.ref n1, .ref n2, .ref n3, .ref n4, .ref n5, .ref n6, .ref n7, .int u.2.2.2.2.2.2.2.1, .int u.2.2.2.2.2.2.2.2.1, .int u.2.2.2.2.2.2.2.2.2])), aI G n1 9 u.1, aI G n2 8 u.2.1, aI G n3 8 u.2.2.1, aI G n4 8 u.2.2.2.1, aI G n5 8 u.2.2.2.2.1, aI G n6 8 u.2.2.2.2.2.1, aI G n7 72 u.2.2.2.2.2.2.1, aN G i0 2 (fun k => if k = 0 then some y else some z), (y, .inr (1, [.ref y1, .ref y2, .ref y3, .ref y4, .ref y5, .ref y6, .ref y7, .int loy, .int miy, .int sdy])), aI G y1 9 hty, aI G y2 8 wmy, aI G y3 8 sey, aI G y4 8 cdy, aI G y5 8 sly, aI G y6 8 ody, aI G y7 72 owy, (z, .inr (1, [.ref z1, .ref z2, .ref z3, .ref z4, .ref z5, .ref z6, .ref z7, .int loz, .int miz, .int sdz])), aI G z1 9 htz, aI G z2 8 wmz, aI G z3 8 sez, aI G z4 8 cdz, aI G z5 8 slz, aI G z6 8 odz, aI G z7 72 owz]) (x_runV (As := [.ref y]) (rest := []) (n := 1) (C := RX1) (ci := 1) ⟨hx, hb, hml, hown, hts⟩ (k_X1_copyFrom l G n n1 n2 n3 n4 n5 n6 n7 y y1 y2 y3 y4 y5 y6 y7 _ ht wm se cd sl od ow lo mi sd hty wmy sey cdy sly ody owy loy miy sdy) gX7_goBack_X1_copyFrom rfl (by decide +kernel) ⟨Nat.le_trans (Nat.le_of_ble_eq_true rfl) hRf, Nat.le_trans (Nat.le_of_ble_eq_true rfl) hRl⟩ hKK hSS hS hA hP hD [1, 2, 3, 4, 5, 6, 7, 8, 10, 11, 12, 13, 14, 15, 16, 17] (by decide) rfl rfl rfl 1 rfl rfl hl.1 rfl (Nat.le_of_ble_eq_true rfl) dX7_goBack_36) hP hD hS hA [1, 2, 3, 4, 5, 6, 7, 8, 10, 11, 12, 13, 14, 15, 16, 17] [0, 9, 18, 19, 20, 21, 22, 23, 24, 25] [0, 10, 11, 12, 13, 14, 15, 16, 17, 1, 18, 19, 20, 21, 22, 23, 24, 25, 2, 3, 4, 5, 6, 7, 8, 9] rfl rfl (by decide) (by decide) (by decide) (fun _ => rfl) (fun  u H locs hw hP hD hS => ?_)
        obtain ⟨ht2_5, wm2_6, se2_7, cd2_8, sl2_9, od2_10, ow2_11, lo2_12, mi2_13, sd2_14⟩ := u
        have hP : va_P G.1 vwCl [(h0, .inr (7, [.ref e0, .ref t, .ref k, .ref n, .ref j, .ref i0, .int kp, .ref b0, .ref s0, .ref q, .ref g])), (n, .inr (1, [.ref n1, .ref n2, .ref n3, .ref n4, .ref n5, .ref n6, .ref n7, .int lo2_12, .int mi2_13, .int sd2_14])), aI G n1 9 ht2_5, aI G n2 8 wm2_6, aI G n3 8 se2_7, aI G n4 8 cd2_8, aI G n5 8 sl2_9, aI G n6 8 od2_10, aI G n7 72 ow2_11, aN G i0 2 (fun k => if k = 0 then some y else some z), (y, .inr (1, [.ref y1, .ref y2, .ref y3, .ref y4, .ref y5, .ref y6, .ref y7, .int loy, .int miy, .int sdy])), aI G y1 9 hty, aI G y2 8 wmy, aI G y3 8 sey, aI G y4 8 cdy, aI G y5 8 sly, aI G y6 8 ody, aI G y7 72 owy, (z, .inr (1, [.ref z1, .ref z2, .ref z3, .ref z4, .ref z5, .ref z6, .ref z7, .int loz, .int miz, .int sdz])), aI G z1 9 htz, aI G z2 8 wmz, aI G z3 8 sez, aI G z4 8 cdz, aI G z5 8 slz, aI G z6 8 odz, aI G z7 72 owz] H := hP
        have hD : va_D A [(h0, .inr (7, [.ref e0, .ref t, .ref k, .ref n, .ref j, .ref i0, .int kp, .ref b0, .ref s0, .ref q, .ref g])), (n, .inr (1, [.ref n1, .ref n2, .ref n3, .ref n4, .ref n5, .ref n6, .ref n7, .int lo2_12, .int mi2_13, .int sd2_14])), aI G n1 9 ht2_5, aI G n2 8 wm2_6, aI G n3 8 se2_7, aI G n4 8 cd2_8, aI G n5 8 sl2_9, aI G n6 8 od2_10, aI G n7 72 ow2_11, aN G i0 2 (fun k => if k = 0 then some y else some z), (y, .inr (1, [.ref y1, .ref y2, .ref y3, .ref y4, .ref y5, .ref y6, .ref y7, .int loy, .int miy, .int sdy])), aI G y1 9 hty, aI G y2 8 wmy, aI G y3 8 sey, aI G y4 8 cdy, aI G y5 8 sly, aI G y6 8 ody, aI G y7 72 owy, (z, .inr (1, [.ref z1, .ref z2, .ref z3, .ref z4, .ref z5, .ref z6, .ref z7, .int loz, .int miz, .int sdz])), aI G z1 9 htz, aI G z2 8 wmz, aI G z3 8 sez, aI G z4 8 cdz, aI G z5 8 slz, aI G z6 8 odz, aI G z7 72 owz] := hD
        have hv := hv ht2_5 wm2_6 se2_7 cd2_8 sl2_9 od2_10 ow2_11 lo2_12 mi2_13 sd2_14 hw
        refine lv_iconst (v := 1) hx hb dX7_goBack_39 (by decide) ?_
        exact x_iret (v := 1) (ht2_5, wm2_6, se2_7, cd2_8, sl2_9, od2_10, ow2_11, lo2_12, mi2_13, sd2_14) hQ hx hb hr hlocks hS dX7_goBack_40 hv hP hD
      · have hv := hv.2 hk_27
        refine va_aldq hx hb hKK.1 hP 9 4 rfl rfl (by rw [hk_27]; unfold vp_in; decide) dX7_goBack_35 ?_
        refine W.eq (g2 := F0 m 36 ls [.ref z, .ref n]) (by rw [hk_27]; rfl) ?_
        refine x_callv (wr := [(h0, .inr (7, [.ref e0, .ref t, .ref k, .ref n, .ref j, .ref i0, .int kp, .ref b0, .ref s0, .ref q, .ref g])), aN G i0 2 (fun k => if k = 0 then some y else some z), (y, .inr (1, [.ref y1, .ref y2, .ref y3, .ref y4, .ref y5, .ref y6, .ref y7, .int loy, .int miy, .int sdy])), aI G y1 9 hty, aI G y2 8 wmy, aI G y3 8 sey, aI G y4 8 cdy, aI G y5 8 sly, aI G y6 8 ody, aI G y7 72 owy]) (w' := fun (u : (Nat → Int32) × (Nat → Int32) × (Nat → Int32) × (Nat → Int32) × (Nat → Int32) × (Nat → Int32) × (Nat → Int32) × (Int32) × (Int32) × (Int32)) => [(h0, .inr (7, [.ref e0, .ref t, .ref k, .ref n, .ref j, .ref i0, .int kp, .ref b0, .ref s0, .ref q, .ref g])), (n, .inr (1, [.ref n1, .ref n2, .ref n3, .ref n4, .ref n5, .ref n6, .ref n7, .int u.2.2.2.2.2.2.2.1, .int u.2.2.2.2.2.2.2.2.1, .int u.2.2.2.2.2.2.2.2.2])), aI G n1 9 u.1, aI G n2 8 u.2.1, aI G n3 8 u.2.2.1, aI G n4 8 u.2.2.2.1, aI G n5 8 u.2.2.2.2.1, aI G n6 8 u.2.2.2.2.2.1, aI G n7 72 u.2.2.2.2.2.2.1, aN G i0 2 (fun k => if k = 0 then some y else some z), (y, .inr (1, [.ref y1, .ref y2, .ref y3, .ref y4, .ref y5, .ref y6, .ref y7, .int loy, .int miy, .int sdy])), aI G y1 9 hty, aI G y2 8 wmy, aI G y3 8 sey, aI G y4 8 cdy, aI G y5 8 sly, aI G y6 8 ody, aI G y7 72 owy, (z, .inr (1, [.ref z1, .ref z2, .ref z3, .ref z4, .ref z5, .ref z6, .ref z7, .int loz, .int miz, .int sdz])), aI G z1 9 htz, aI G z2 8 wmz, aI G z3 8 sez, aI G z4 8 cdz, aI G z5 8 slz, aI G z6 8 odz, aI G z7 72 owz]) (x_runV (As := [.ref z]) (rest := []) (n := 1) (C := RX1) (ci := 1) ⟨hx, hb, hml, hown, hts⟩ (k_X1_copyFrom l G n n1 n2 n3 n4 n5 n6 n7 z z1 z2 z3 z4 z5 z6 z7 _ ht wm se cd sl od ow lo mi sd htz wmz sez cdz slz odz owz loz miz sdz) gX7_goBack_X1_copyFrom rfl (by decide +kernel) ⟨Nat.le_trans (Nat.le_of_ble_eq_true rfl) hRf, Nat.le_trans (Nat.le_of_ble_eq_true rfl) hRl⟩ hKK hSS hS hA hP hD [1, 2, 3, 4, 5, 6, 7, 8, 18, 19, 20, 21, 22, 23, 24, 25] (by decide) rfl rfl rfl 1 rfl rfl hl.1 rfl (Nat.le_of_ble_eq_true rfl) dX7_goBack_36) hP hD hS hA [1, 2, 3, 4, 5, 6, 7, 8, 18, 19, 20, 21, 22, 23, 24, 25] [0, 9, 10, 11, 12, 13, 14, 15, 16, 17] [0, 10, 11, 12, 13, 14, 15, 16, 17, 1, 2, 3, 4, 5, 6, 7, 8, 9, 18, 19, 20, 21, 22, 23, 24, 25] rfl rfl (by decide) (by decide) (by decide) (fun _ => rfl) (fun  u H locs hw hP hD hS => ?_)
        obtain ⟨ht2_17, wm2_18, se2_19, cd2_20, sl2_21, od2_22, ow2_23, lo2_24, mi2_25, sd2_26⟩ := u
        have hP : va_P G.1 vwCl [(h0, .inr (7, [.ref e0, .ref t, .ref k, .ref n, .ref j, .ref i0, .int kp, .ref b0, .ref s0, .ref q, .ref g])), (n, .inr (1, [.ref n1, .ref n2, .ref n3, .ref n4, .ref n5, .ref n6, .ref n7, .int lo2_24, .int mi2_25, .int sd2_26])), aI G n1 9 ht2_17, aI G n2 8 wm2_18, aI G n3 8 se2_19, aI G n4 8 cd2_20, aI G n5 8 sl2_21, aI G n6 8 od2_22, aI G n7 72 ow2_23, aN G i0 2 (fun k => if k = 0 then some y else some z), (y, .inr (1, [.ref y1, .ref y2, .ref y3, .ref y4, .ref y5, .ref y6, .ref y7, .int loy, .int miy, .int sdy])), aI G y1 9 hty, aI G y2 8 wmy, aI G y3 8 sey, aI G y4 8 cdy, aI G y5 8 sly, aI G y6 8 ody, aI G y7 72 owy, (z, .inr (1, [.ref z1, .ref z2, .ref z3, .ref z4, .ref z5, .ref z6, .ref z7, .int loz, .int miz, .int sdz])), aI G z1 9 htz, aI G z2 8 wmz, aI G z3 8 sez, aI G z4 8 cdz, aI G z5 8 slz, aI G z6 8 odz, aI G z7 72 owz] H := hP
        have hD : va_D A [(h0, .inr (7, [.ref e0, .ref t, .ref k, .ref n, .ref j, .ref i0, .int kp, .ref b0, .ref s0, .ref q, .ref g])), (n, .inr (1, [.ref n1, .ref n2, .ref n3, .ref n4, .ref n5, .ref n6, .ref n7, .int lo2_24, .int mi2_25, .int sd2_26])), aI G n1 9 ht2_17, aI G n2 8 wm2_18, aI G n3 8 se2_19, aI G n4 8 cd2_20, aI G n5 8 sl2_21, aI G n6 8 od2_22, aI G n7 72 ow2_23, aN G i0 2 (fun k => if k = 0 then some y else some z), (y, .inr (1, [.ref y1, .ref y2, .ref y3, .ref y4, .ref y5, .ref y6, .ref y7, .int loy, .int miy, .int sdy])), aI G y1 9 hty, aI G y2 8 wmy, aI G y3 8 sey, aI G y4 8 cdy, aI G y5 8 sly, aI G y6 8 ody, aI G y7 72 owy, (z, .inr (1, [.ref z1, .ref z2, .ref z3, .ref z4, .ref z5, .ref z6, .ref z7, .int loz, .int miz, .int sdz])), aI G z1 9 htz, aI G z2 8 wmz, aI G z3 8 sez, aI G z4 8 cdz, aI G z5 8 slz, aI G z6 8 odz, aI G z7 72 owz] := hD
        have hv := hv ht2_17 wm2_18 se2_19 cd2_20 sl2_21 od2_22 ow2_23 lo2_24 mi2_25 sd2_26 hw
        refine lv_iconst (v := 1) hx hb dX7_goBack_39 (by decide) ?_
        exact x_iret (v := 1) (ht2_17, wm2_18, se2_19, cd2_20, sl2_21, od2_22, ow2_23, lo2_24, mi2_25, sd2_26) hQ hx hb hr hlocks hS dX7_goBack_40 hv hP hD
    · have hv := hv.2 hc_3
      refine lv_ldc (v := (-1000000003)) hx hb hown kl179 dX7_goBack_23 ?_
      exact x_iret (v := (-1000000003)) (ht, wm, se, cd, sl, od, ow, lo, mi, sd) hQ hx hb hr hlocks hS dX7_goBack_25 hv hP hD
  · have hv := hv.2 (tv_eq.mp hc_2)
    refine lv_ldc (v := (-1000000001)) hx hb hown kl143 dX7_goBack_9 ?_
    exact x_iret (v := (-1000000001)) (ht, wm, se, cd, sl, od, ow, lo, mi, sd) hQ hx hb hr hlocks hS dX7_goBack_11 hv hP hD
theorem k_X7_goBack (l : Launch) (G : Gt) (h0 n n1 n2 n3 n4 n5 n6 n7 i0 y y1 y2 y3 y4 y5 y6 y7 z z1 z2 z3 z4 z5 z6 z7 : Nat) (sz : Nat) (e0 : Nat) (t : Nat) (k : Nat) (j : Nat) (b0 : Nat) (s0 : Nat) (q : Nat) (g : Nat) (kp : Int32) (ht : Nat → Int32) (wm : Nat → Int32) (se : Nat → Int32) (cd : Nat → Int32) (sl : Nat → Int32) (od : Nat → Int32) (ow : Nat → Int32) (lo : Int32) (mi : Int32) (sd : Int32) (hty : Nat → Int32) (wmy : Nat → Int32) (sey : Nat → Int32) (cdy : Nat → Int32) (sly : Nat → Int32) (ody : Nat → Int32) (owy : Nat → Int32) (loy : Int32) (miy : Int32) (sdy : Int32) (htz : Nat → Int32) (wmz : Nat → Int32) (sez : Nat → Int32) (cdz : Nat → Int32) (slz : Nat → Int32) (odz : Nat → Int32) (owz : Nat → Int32) (loz : Int32) (miz : Int32) (sdz : Int32) (x : Int32) (hp : True) : MetI l yX7_goBack wsX7_goBack 2 51 G [.ref h0, .int x] [(h0, .inr (7, [.ref e0, .ref t, .ref k, .ref n, .ref j, .ref i0, .int kp, .ref b0, .ref s0, .ref q, .ref g])), (n, .inr (1, [.ref n1, .ref n2, .ref n3, .ref n4, .ref n5, .ref n6, .ref n7, .int lo, .int mi, .int sd])), aI G n1 9 ht, aI G n2 8 wm, aI G n3 8 se, aI G n4 8 cd, aI G n5 8 sl, aI G n6 8 od, aI G n7 72 ow, aN G i0 2 (fun k => if k = 0 then some y else some z), (y, .inr (1, [.ref y1, .ref y2, .ref y3, .ref y4, .ref y5, .ref y6, .ref y7, .int loy, .int miy, .int sdy])), aI G y1 9 hty, aI G y2 8 wmy, aI G y3 8 sey, aI G y4 8 cdy, aI G y5 8 sly, aI G y6 8 ody, aI G y7 72 owy, (z, .inr (1, [.ref z1, .ref z2, .ref z3, .ref z4, .ref z5, .ref z6, .ref z7, .int loz, .int miz, .int sdz])), aI G z1 9 htz, aI G z2 8 wmz, aI G z3 8 sez, aI G z4 8 cdz, aI G z5 8 slz, aI G z6 8 odz, aI G z7 72 owz] sz (fun (r : Int32) (u : (Nat → Int32) × (Nat → Int32) × (Nat → Int32) × (Nat → Int32) × (Nat → Int32) × (Nat → Int32) × (Nat → Int32) × (Int32) × (Int32) × (Int32)) => True) (fun (u : (Nat → Int32) × (Nat → Int32) × (Nat → Int32) × (Nat → Int32) × (Nat → Int32) × (Nat → Int32) × (Nat → Int32) × (Int32) × (Int32) × (Int32)) => [(h0, .inr (7, [.ref e0, .ref t, .ref k, .ref n, .ref j, .ref i0, .int kp, .ref b0, .ref s0, .ref q, .ref g])), (n, .inr (1, [.ref n1, .ref n2, .ref n3, .ref n4, .ref n5, .ref n6, .ref n7, .int u.2.2.2.2.2.2.2.1, .int u.2.2.2.2.2.2.2.2.1, .int u.2.2.2.2.2.2.2.2.2])), aI G n1 9 u.1, aI G n2 8 u.2.1, aI G n3 8 u.2.2.1, aI G n4 8 u.2.2.2.1, aI G n5 8 u.2.2.2.2.1, aI G n6 8 u.2.2.2.2.2.1, aI G n7 72 u.2.2.2.2.2.2.1, aN G i0 2 (fun k => if k = 0 then some y else some z), (y, .inr (1, [.ref y1, .ref y2, .ref y3, .ref y4, .ref y5, .ref y6, .ref y7, .int loy, .int miy, .int sdy])), aI G y1 9 hty, aI G y2 8 wmy, aI G y3 8 sey, aI G y4 8 cdy, aI G y5 8 sly, aI G y6 8 ody, aI G y7 72 owy, (z, .inr (1, [.ref z1, .ref z2, .ref z3, .ref z4, .ref z5, .ref z6, .ref z7, .int loz, .int miz, .int sdz])), aI G z1 9 htz, aI G z2 8 wmz, aI G z3 8 sez, aI G z4 8 cdz, aI G z5 8 slz, aI G z6 8 odz, aI G z7 72 owz]) :=
  c_X7_goBack l G h0 n n1 n2 n3 n4 n5 n6 n7 i0 y y1 y2 y3 y4 y5 y6 y7 z z1 z2 z3 z4 z5 z6 z7 sz e0 t k j b0 s0 q g kp ht wm se cd sl od ow lo mi sd hty wmy sey cdy sly ody owy loy miy sdy htz wmz sez cdz slz odz owz loz miz sdz x (by
    sorry)
